theorem dX12_connect_108 : decode cX12_connect 108 = .ok (.iconst 2, 1) := by decide +kernel
theorem dX12_connect_109 : decode cX12_connect 109 = .ok (.iadd, 1) := by decide +kernel
theorem dX12_connect_110 : decode cX12_connect 110 = .ok (.iload_n 3, 1) := by decide +kernel
theorem dX12_connect_111 : decode cX12_connect 111 = .ok (.iastore, 1) := by decide +kernel
theorem dX12_connect_112 : decode cX12_connect 112 = .ok (.aload_n 0, 1) := by decide +kernel
theorem dX12_connect_113 : decode cX12_connect 113 = .ok (.getfield 7, 3) := by decide +kernel
theorem dX12_connect_116 : decode cX12_connect 116 = .ok (.iload 6, 2) := by decide +kernel
theorem dX12_connect_118 : decode cX12_connect 118 = .ok (.iconst 3, 1) := by decide +kernel
theorem dX12_connect_119 : decode cX12_connect 119 = .ok (.iadd, 1) := by decide +kernel
theorem dX12_connect_120 : decode cX12_connect 120 = .ok (.iload 4, 2) := by decide +kernel
theorem dX12_connect_122 : decode cX12_connect 122 = .ok (.iastore, 1) := by decide +kernel
theorem dX12_connect_123 : decode cX12_connect 123 = .ok (.aload_n 0, 1) := by decide +kernel
theorem dX12_connect_124 : decode cX12_connect 124 = .ok (.getfield 7, 3) := by decide +kernel
theorem dX12_connect_127 : decode cX12_connect 127 = .ok (.iload 6, 2) := by decide +kernel
theorem dX12_connect_129 : decode cX12_connect 129 = .ok (.iconst 4, 1) := by decide +kernel
theorem dX12_connect_130 : decode cX12_connect 130 = .ok (.iadd, 1) := by decide +kernel
theorem dX12_connect_131 : decode cX12_connect 131 = .ok (.iload 5, 2) := by decide +kernel
theorem dX12_connect_133 : decode cX12_connect 133 = .ok (.iastore, 1) := by decide +kernel
theorem dX12_connect_134 : decode cX12_connect 134 = .ok (.aload_n 0, 1) := by decide +kernel
theorem dX12_connect_135 : decode cX12_connect 135 = .ok (.getfield 7, 3) := by decide +kernel
theorem dX12_connect_138 : decode cX12_connect 138 = .ok (.iconst 2, 1) := by decide +kernel
theorem dX12_connect_139 : decode cX12_connect 139 = .ok (.dup2, 1) := by decide +kernel
theorem dX12_connect_140 : decode cX12_connect 140 = .ok (.iaload, 1) := by decide +kernel
theorem dX12_connect_141 : decode cX12_connect 141 = .ok (.iconst 1, 1) := by decide +kernel
theorem dX12_connect_142 : decode cX12_connect 142 = .ok (.iadd, 1) := by decide +kernel
theorem dX12_connect_143 : decode cX12_connect 143 = .ok (.iastore, 1) := by decide +kernel
theorem dX12_connect_144 : decode cX12_connect 144 = .ok (.aload_n 0, 1) := by decide +kernel
theorem dX12_connect_145 : decode cX12_connect 145 = .ok (.getfield 7, 3) := by decide +kernel
theorem dX12_connect_148 : decode cX12_connect 148 = .ok (.iconst 2, 1) := by decide +kernel
theorem dX12_connect_149 : decode cX12_connect 149 = .ok (.iaload, 1) := by decide +kernel
theorem dX12_connect_150 : decode cX12_connect 150 = .ok (.iconst 1, 1) := by decide +kernel
theorem dX12_connect_151 : decode cX12_connect 151 = .ok (.isub, 1) := by decide +kernel
theorem dX12_connect_152 : decode cX12_connect 152 = .ok (.ireturn, 1) := by decide +kernel
theorem dX12_disconnect_0 : decode cX12_disconnect 0 = .ok (.aload_n 0, 1) := by decide +kernel
theorem dX12_disconnect_1 : decode cX12_disconnect 1 = .ok (.iload_n 1, 1) := by decide +kernel
theorem dX12_disconnect_2 : decode cX12_disconnect 2 = .ok (.invokevirtual 141, 3) := by decide +kernel
theorem dX12_disconnect_5 : decode cX12_disconnect 5 = .ok (.ifCond .ne 5, 3) := by decide +kernel
theorem dX12_disconnect_8 : decode cX12_disconnect 8 = .ok (.iconst (-1), 1) := by decide +kernel
theorem dX12_disconnect_9 : decode cX12_disconnect 9 = .ok (.ireturn, 1) := by decide +kernel
theorem dX12_disconnect_10 : decode cX12_disconnect 10 = .ok (.aload_n 0, 1) := by decide +kernel
theorem dX12_disconnect_11 : decode cX12_disconnect 11 = .ok (.invokevirtual 91, 3) := by decide +kernel
theorem dX12_disconnect_14 : decode cX12_disconnect 14 = .ok (.aload_n 0, 1) := by decide +kernel
theorem dX12_disconnect_15 : decode cX12_disconnect 15 = .ok (.iload_n 1, 1) := by decide +kernel
theorem dX12_disconnect_16 : decode cX12_disconnect 16 = .ok (.invokevirtual 104, 3) := by decide +kernel
theorem dX12_disconnect_19 : decode cX12_disconnect 19 = .ok (.aload_n 0, 1) := by decide +kernel
theorem dX12_disconnect_20 : decode cX12_disconnect 20 = .ok (.getfield 7, 3) := by decide +kernel
theorem dX12_disconnect_23 : decode cX12_disconnect 23 = .ok (.iconst 2, 1) := by decide +kernel
theorem dX12_disconnect_24 : decode cX12_disconnect 24 = .ok (.iaload, 1) := by decide +kernel
theorem dX12_disconnect_25 : decode cX12_disconnect 25 = .ok (.ireturn, 1) := by decide +kernel
theorem dX12_connectors_0 : decode cX12_connectors 0 = .ok (.aload_n 0, 1) := by decide +kernel
theorem dX12_connectors_1 : decode cX12_connectors 1 = .ok (.getfield 7, 3) := by decide +kernel
theorem dX12_connectors_4 : decode cX12_connectors 4 = .ok (.iconst 2, 1) := by decide +kernel
theorem dX12_connectors_5 : decode cX12_connectors 5 = .ok (.iaload, 1) := by decide +kernel
theorem dX12_connectors_6 : decode cX12_connectors 6 = .ok (.ireturn, 1) := by decide +kernel
theorem dX12_puts_0 : decode cX12_puts 0 = .ok (.aload_n 0, 1) := by decide +kernel
theorem dX12_puts_1 : decode cX12_puts 1 = .ok (.getfield 16, 3) := by decide +kernel
theorem dX12_puts_4 : decode cX12_puts 4 = .ok (.aload_n 0, 1) := by decide +kernel
theorem dX12_puts_5 : decode cX12_puts 5 = .ok (.getfield 144, 3) := by decide +kernel
theorem dX12_puts_8 : decode cX12_puts 8 = .ok (.iload_n 1, 1) := by decide +kernel
theorem dX12_puts_9 : decode cX12_puts 9 = .ok (.iastore, 1) := by decide +kernel
theorem dX12_puts_10 : decode cX12_puts 10 = .ok (.aload_n 0, 1) := by decide +kernel
theorem dX12_puts_11 : decode cX12_puts 11 = .ok (.getfield 19, 3) := by decide +kernel
theorem dX12_puts_14 : decode cX12_puts 14 = .ok (.aload_n 0, 1) := by decide +kernel
theorem dX12_puts_15 : decode cX12_puts 15 = .ok (.getfield 144, 3) := by decide +kernel
theorem dX12_puts_18 : decode cX12_puts 18 = .ok (.iload_n 2, 1) := by decide +kernel
theorem dX12_puts_19 : decode cX12_puts 19 = .ok (.iastore, 1) := by decide +kernel
theorem dX12_puts_20 : decode cX12_puts 20 = .ok (.aload_n 0, 1) := by decide +kernel
theorem dX12_puts_21 : decode cX12_puts 21 = .ok (.dup, 1) := by decide +kernel
theorem dX12_puts_22 : decode cX12_puts 22 = .ok (.getfield 144, 3) := by decide +kernel
theorem dX12_puts_25 : decode cX12_puts 25 = .ok (.iconst 1, 1) := by decide +kernel
theorem dX12_puts_26 : decode cX12_puts 26 = .ok (.iadd, 1) := by decide +kernel
theorem dX12_puts_27 : decode cX12_puts 27 = .ok (.putfield 144, 3) := by decide +kernel
theorem dX12_puts_30 : decode cX12_puts 30 = .ok (.return_, 1) := by decide +kernel
theorem dX12_half_0 : decode cX12_half 0 = .ok (.iload_n 0, 1) := by decide +kernel
theorem dX12_half_1 : decode cX12_half 1 = .ok (.iconst 1, 1) := by decide +kernel
theorem dX12_half_2 : decode cX12_half 2 = .ok (.ishr, 1) := by decide +kernel
theorem dX12_half_3 : decode cX12_half 3 = .ok (.ireturn, 1) := by decide +kernel
theorem dX12_draws_0 : decode cX12_draws 0 = .ok (.sipush 190, 3) := by decide +kernel
theorem dX12_draws_3 : decode cX12_draws 3 = .ok (.iconst 5, 1) := by decide +kernel
theorem dX12_draws_4 : decode cX12_draws 4 = .ok (.iload_n 1, 1) := by decide +kernel
theorem dX12_draws_5 : decode cX12_draws 5 = .ok (.imul, 1) := by decide +kernel
theorem dX12_draws_6 : decode cX12_draws 6 = .ok (.iadd, 1) := by decide +kernel
theorem dX12_draws_7 : decode cX12_draws 7 = .ok (.istore_n 2, 1) := by decide +kernel
theorem dX12_draws_8 : decode cX12_draws 8 = .ok (.aload_n 0, 1) := by decide +kernel
theorem dX12_draws_9 : decode cX12_draws 9 = .ok (.aload_n 0, 1) := by decide +kernel
theorem dX12_draws_10 : decode cX12_draws 10 = .ok (.getfield 7, 3) := by decide +kernel
theorem dX12_draws_13 : decode cX12_draws 13 = .ok (.iload_n 2, 1) := by decide +kernel
theorem dX12_draws_14 : decode cX12_draws 14 = .ok (.iaload, 1) := by decide +kernel
theorem dX12_draws_15 : decode cX12_draws 15 = .ok (.aload_n 0, 1) := by decide +kernel
theorem dX12_draws_16 : decode cX12_draws 16 = .ok (.getfield 7, 3) := by decide +kernel
theorem dX12_draws_19 : decode cX12_draws 19 = .ok (.iload_n 2, 1) := by decide +kernel
theorem dX12_draws_20 : decode cX12_draws 20 = .ok (.iconst 1, 1) := by decide +kernel
theorem dX12_draws_21 : decode cX12_draws 21 = .ok (.iadd, 1) := by decide +kernel
theorem dX12_draws_22 : decode cX12_draws 22 = .ok (.iaload, 1) := by decide +kernel
theorem dX12_draws_23 : decode cX12_draws 23 = .ok (.iconst 0, 1) := by decide +kernel
theorem dX12_draws_24 : decode cX12_draws 24 = .ok (.invokevirtual 130, 3) := by decide +kernel
theorem dX12_draws_27 : decode cX12_draws 27 = .ok (.istore_n 3, 1) := by decide +kernel
theorem dX12_draws_28 : decode cX12_draws 28 = .ok (.aload_n 0, 1) := by decide +kernel
theorem dX12_draws_29 : decode cX12_draws 29 = .ok (.aload_n 0, 1) := by decide +kernel
theorem dX12_draws_30 : decode cX12_draws 30 = .ok (.getfield 7, 3) := by decide +kernel
theorem dX12_draws_33 : decode cX12_draws 33 = .ok (.iload_n 2, 1) := by decide +kernel
theorem dX12_draws_34 : decode cX12_draws 34 = .ok (.iaload, 1) := by decide +kernel
theorem dX12_draws_35 : decode cX12_draws 35 = .ok (.aload_n 0, 1) := by decide +kernel
theorem dX12_draws_36 : decode cX12_draws 36 = .ok (.getfield 7, 3) := by decide +kernel
theorem dX12_draws_39 : decode cX12_draws 39 = .ok (.iload_n 2, 1) := by decide +kernel
theorem dX12_draws_40 : decode cX12_draws 40 = .ok (.iconst 1, 1) := by decide +kernel
theorem dX12_draws_41 : decode cX12_draws 41 = .ok (.iadd, 1) := by decide +kernel
theorem dX12_draws_42 : decode cX12_draws 42 = .ok (.iaload, 1) := by decide +kernel
theorem dX12_draws_43 : decode cX12_draws 43 = .ok (.iconst 1, 1) := by decide +kernel
theorem dX12_draws_44 : decode cX12_draws 44 = .ok (.invokevirtual 130, 3) := by decide +kernel
theorem dX12_draws_47 : decode cX12_draws 47 = .ok (.istore 4, 2) := by decide +kernel
theorem dX12_draws_49 : decode cX12_draws 49 = .ok (.aload_n 0, 1) := by decide +kernel
theorem dX12_draws_50 : decode cX12_draws 50 = .ok (.aload_n 0, 1) := by decide +kernel
theorem dX12_draws_51 : decode cX12_draws 51 = .ok (.getfield 7, 3) := by decide +kernel
theorem dX12_draws_54 : decode cX12_draws 54 = .ok (.iload_n 2, 1) := by decide +kernel
theorem dX12_draws_55 : decode cX12_draws 55 = .ok (.iconst 2, 1) := by decide +kernel
theorem dX12_draws_56 : decode cX12_draws 56 = .ok (.iadd, 1) := by decide +kernel
theorem dX12_draws_57 : decode cX12_draws 57 = .ok (.iaload, 1) := by decide +kernel
theorem dX12_draws_58 : decode cX12_draws 58 = .ok (.aload_n 0, 1) := by decide +kernel
theorem dX12_draws_59 : decode cX12_draws 59 = .ok (.getfield 7, 3) := by decide +kernel
theorem dX12_draws_62 : decode cX12_draws 62 = .ok (.iload_n 2, 1) := by decide +kernel
theorem dX12_draws_63 : decode cX12_draws 63 = .ok (.iconst 3, 1) := by decide +kernel
theorem dX12_draws_64 : decode cX12_draws 64 = .ok (.iadd, 1) := by decide +kernel
theorem dX12_draws_65 : decode cX12_draws 65 = .ok (.iaload, 1) := by decide +kernel
theorem dX12_draws_66 : decode cX12_draws 66 = .ok (.iconst 0, 1) := by decide +kernel
theorem dX12_draws_67 : decode cX12_draws 67 = .ok (.invokevirtual 130, 3) := by decide +kernel
theorem dX12_draws_70 : decode cX12_draws 70 = .ok (.istore 5, 2) := by decide +kernel
theorem dX12_draws_72 : decode cX12_draws 72 = .ok (.aload_n 0, 1) := by decide +kernel
theorem dX12_draws_73 : decode cX12_draws 73 = .ok (.aload_n 0, 1) := by decide +kernel
theorem dX12_draws_74 : decode cX12_draws 74 = .ok (.getfield 7, 3) := by decide +kernel
theorem dX12_draws_77 : decode cX12_draws 77 = .ok (.iload_n 2, 1) := by decide +kernel
theorem dX12_draws_78 : decode cX12_draws 78 = .ok (.iconst 2, 1) := by decide +kernel
theorem dX12_draws_79 : decode cX12_draws 79 = .ok (.iadd, 1) := by decide +kernel
theorem dX12_draws_80 : decode cX12_draws 80 = .ok (.iaload, 1) := by decide +kernel
theorem dX12_draws_81 : decode cX12_draws 81 = .ok (.aload_n 0, 1) := by decide +kernel
theorem dX12_draws_82 : decode cX12_draws 82 = .ok (.getfield 7, 3) := by decide +kernel
theorem dX12_draws_85 : decode cX12_draws 85 = .ok (.iload_n 2, 1) := by decide +kernel
theorem dX12_draws_86 : decode cX12_draws 86 = .ok (.iconst 3, 1) := by decide +kernel
theorem dX12_draws_87 : decode cX12_draws 87 = .ok (.iadd, 1) := by decide +kernel
theorem dX12_draws_88 : decode cX12_draws 88 = .ok (.iaload, 1) := by decide +kernel
theorem dX12_draws_89 : decode cX12_draws 89 = .ok (.iconst 1, 1) := by decide +kernel
theorem dX12_draws_90 : decode cX12_draws 90 = .ok (.invokevirtual 130, 3) := by decide +kernel
theorem dX12_draws_93 : decode cX12_draws 93 = .ok (.istore 6, 2) := by decide +kernel
theorem dX12_draws_95 : decode cX12_draws 95 = .ok (.aload_n 0, 1) := by decide +kernel
theorem dX12_draws_96 : decode cX12_draws 96 = .ok (.getfield 7, 3) := by decide +kernel
theorem dX12_draws_99 : decode cX12_draws 99 = .ok (.iload_n 2, 1) := by decide +kernel
theorem dX12_draws_100 : decode cX12_draws 100 = .ok (.iconst 1, 1) := by decide +kernel
theorem dX12_draws_101 : decode cX12_draws 101 = .ok (.iadd, 1) := by decide +kernel
theorem dX12_draws_102 : decode cX12_draws 102 = .ok (.iaload, 1) := by decide +kernel
theorem dX12_draws_103 : decode cX12_draws 103 = .ok (.iconst 2, 1) := by decide +kernel
theorem dX12_draws_104 : decode cX12_draws 104 = .ok (.irem, 1) := by decide +kernel
theorem dX12_draws_105 : decode cX12_draws 105 = .ok (.iconst 1, 1) := by decide +kernel
theorem dX12_draws_106 : decode cX12_draws 106 = .ok (.if_icmp .ne 7, 3) := by decide +kernel
theorem dX12_draws_109 : decode cX12_draws 109 = .ok (.iconst 1, 1) := by decide +kernel
theorem dX12_draws_110 : decode cX12_draws 110 = .ok (.goto 4, 3) := by decide +kernel
theorem dX12_draws_113 : decode cX12_draws 113 = .ok (.iconst 0, 1) := by decide +kernel
theorem dX12_draws_114 : decode cX12_draws 114 = .ok (.istore 7, 2) := by decide +kernel
theorem dX12_draws_116 : decode cX12_draws 116 = .ok (.aload_n 0, 1) := by decide +kernel
theorem dX12_draws_117 : decode cX12_draws 117 = .ok (.iconst 0, 1) := by decide +kernel
theorem dX12_draws_118 : decode cX12_draws 118 = .ok (.putfield 144, 3) := by decide +kernel
theorem dX12_draws_121 : decode cX12_draws 121 = .ok (.aload_n 0, 1) := by decide +kernel
theorem dX12_draws_122 : decode cX12_draws 122 = .ok (.iload_n 3, 1) := by decide +kernel
theorem dX12_draws_123 : decode cX12_draws 123 = .ok (.iload 4, 2) := by decide +kernel
theorem dX12_draws_125 : decode cX12_draws 125 = .ok (.invokevirtual 147, 3) := by decide +kernel
theorem dX12_draws_128 : decode cX12_draws 128 = .ok (.aload_n 0, 1) := by decide +kernel
theorem dX12_draws_129 : decode cX12_draws 129 = .ok (.getfield 7, 3) := by decide +kernel
theorem dX12_draws_132 : decode cX12_draws 132 = .ok (.iload_n 2, 1) := by decide +kernel
theorem dX12_draws_133 : decode cX12_draws 133 = .ok (.iconst 4, 1) := by decide +kernel
theorem dX12_draws_134 : decode cX12_draws 134 = .ok (.iadd, 1) := by decide +kernel
theorem dX12_draws_135 : decode cX12_draws 135 = .ok (.iaload, 1) := by decide +kernel
theorem dX12_draws_136 : decode cX12_draws 136 = .ok (.iconst 1, 1) := by decide +kernel
theorem dX12_draws_137 : decode cX12_draws 137 = .ok (.if_icmp .ne 33, 3) := by decide +kernel
theorem dX12_draws_140 : decode cX12_draws 140 = .ok (.aload_n 0, 1) := by decide +kernel
theorem dX12_draws_141 : decode cX12_draws 141 = .ok (.iload 7, 2) := by decide +kernel
theorem dX12_draws_143 : decode cX12_draws 143 = .ok (.ifCond .eq 8, 3) := by decide +kernel
theorem dX12_draws_146 : decode cX12_draws 146 = .ok (.iload 5, 2) := by decide +kernel
theorem dX12_draws_148 : decode cX12_draws 148 = .ok (.goto 4, 3) := by decide +kernel
theorem dX12_draws_151 : decode cX12_draws 151 = .ok (.iload_n 3, 1) := by decide +kernel
theorem dX12_draws_152 : decode cX12_draws 152 = .ok (.iload 7, 2) := by decide +kernel
theorem dX12_draws_154 : decode cX12_draws 154 = .ok (.ifCond .eq 8, 3) := by decide +kernel
theorem dX12_draws_157 : decode cX12_draws 157 = .ok (.iload 4, 2) := by decide +kernel
theorem dX12_draws_159 : decode cX12_draws 159 = .ok (.goto 5, 3) := by decide +kernel
theorem dX12_draws_162 : decode cX12_draws 162 = .ok (.iload 6, 2) := by decide +kernel
theorem dX12_draws_164 : decode cX12_draws 164 = .ok (.invokevirtual 147, 3) := by decide +kernel
theorem dX12_draws_167 : decode cX12_draws 167 = .ok (.goto 95, 3) := by decide +kernel
theorem dX12_draws_170 : decode cX12_draws 170 = .ok (.aload_n 0, 1) := by decide +kernel
theorem dX12_draws_171 : decode cX12_draws 171 = .ok (.getfield 7, 3) := by decide +kernel
theorem dX12_draws_174 : decode cX12_draws 174 = .ok (.iload_n 2, 1) := by decide +kernel
theorem dX12_draws_175 : decode cX12_draws 175 = .ok (.iconst 4, 1) := by decide +kernel
theorem dX12_draws_176 : decode cX12_draws 176 = .ok (.iadd, 1) := by decide +kernel
theorem dX12_draws_177 : decode cX12_draws 177 = .ok (.iaload, 1) := by decide +kernel
theorem dX12_draws_178 : decode cX12_draws 178 = .ok (.iconst 2, 1) := by decide +kernel
theorem dX12_draws_179 : decode cX12_draws 179 = .ok (.if_icmp .ne 83, 3) := by decide +kernel
theorem dX12_draws_182 : decode cX12_draws 182 = .ok (.iload 7, 2) := by decide +kernel
theorem dX12_draws_184 : decode cX12_draws 184 = .ok (.ifCond .eq 13, 3) := by decide +kernel
theorem dX12_draws_187 : decode cX12_draws 187 = .ok (.iload_n 3, 1) := by decide +kernel
theorem dX12_draws_188 : decode cX12_draws 188 = .ok (.iload 5, 2) := by decide +kernel
theorem dX12_draws_190 : decode cX12_draws 190 = .ok (.iadd, 1) := by decide +kernel
theorem dX12_draws_191 : decode cX12_draws 191 = .ok (.invokestatic 151, 3) := by decide +kernel
theorem dX12_draws_194 : decode cX12_draws 194 = .ok (.goto 11, 3) := by decide +kernel
theorem dX12_draws_197 : decode cX12_draws 197 = .ok (.iload 4, 2) := by decide +kernel
theorem dX12_draws_199 : decode cX12_draws 199 = .ok (.iload 6, 2) := by decide +kernel
theorem dX12_draws_201 : decode cX12_draws 201 = .ok (.iadd, 1) := by decide +kernel
theorem dX12_draws_202 : decode cX12_draws 202 = .ok (.invokestatic 151, 3) := by decide +kernel
theorem dX12_draws_205 : decode cX12_draws 205 = .ok (.istore 8, 2) := by decide +kernel
theorem dX12_draws_207 : decode cX12_draws 207 = .ok (.aload_n 0, 1) := by decide +kernel
theorem dX12_draws_208 : decode cX12_draws 208 = .ok (.iload 7, 2) := by decide +kernel
theorem dX12_draws_210 : decode cX12_draws 210 = .ok (.ifCond .eq 8, 3) := by decide +kernel
theorem dX12_draws_213 : decode cX12_draws 213 = .ok (.iload 8, 2) := by decide +kernel
theorem dX12_draws_215 : decode cX12_draws 215 = .ok (.goto 4, 3) := by decide +kernel
theorem dX12_draws_218 : decode cX12_draws 218 = .ok (.iload_n 3, 1) := by decide +kernel
theorem dX12_draws_219 : decode cX12_draws 219 = .ok (.iload 7, 2) := by decide +kernel
theorem dX12_draws_221 : decode cX12_draws 221 = .ok (.ifCond .eq 8, 3) := by decide +kernel
theorem dX12_draws_224 : decode cX12_draws 224 = .ok (.iload 4, 2) := by decide +kernel
theorem dX12_draws_226 : decode cX12_draws 226 = .ok (.goto 5, 3) := by decide +kernel
theorem dX12_draws_229 : decode cX12_draws 229 = .ok (.iload 8, 2) := by decide +kernel
theorem dX12_draws_231 : decode cX12_draws 231 = .ok (.invokevirtual 147, 3) := by decide +kernel
theorem dX12_draws_234 : decode cX12_draws 234 = .ok (.aload_n 0, 1) := by decide +kernel
theorem dX12_draws_235 : decode cX12_draws 235 = .ok (.iload 7, 2) := by decide +kernel
theorem dX12_draws_237 : decode cX12_draws 237 = .ok (.ifCond .eq 8, 3) := by decide +kernel
theorem dX12_draws_240 : decode cX12_draws 240 = .ok (.iload 8, 2) := by decide +kernel
theorem dX12_draws_242 : decode cX12_draws 242 = .ok (.goto 5, 3) := by decide +kernel
theorem dX12_draws_245 : decode cX12_draws 245 = .ok (.iload 5, 2) := by decide +kernel
theorem dX12_draws_247 : decode cX12_draws 247 = .ok (.iload 7, 2) := by decide +kernel
theorem dX12_draws_249 : decode cX12_draws 249 = .ok (.ifCond .eq 8, 3) := by decide +kernel
theorem dX12_draws_252 : decode cX12_draws 252 = .ok (.iload 6, 2) := by decide +kernel
theorem dX12_draws_254 : decode cX12_draws 254 = .ok (.goto 5, 3) := by decide +kernel
theorem dX12_draws_257 : decode cX12_draws 257 = .ok (.iload 8, 2) := by decide +kernel
theorem dX12_draws_259 : decode cX12_draws 259 = .ok (.invokevirtual 147, 3) := by decide +kernel
theorem dX12_draws_262 : decode cX12_draws 262 = .ok (.aload_n 0, 1) := by decide +kernel
theorem dX12_draws_263 : decode cX12_draws 263 = .ok (.iload 5, 2) := by decide +kernel
theorem dX12_draws_265 : decode cX12_draws 265 = .ok (.iload 6, 2) := by decide +kernel
theorem dX12_draws_267 : decode cX12_draws 267 = .ok (.invokevirtual 147, 3) := by decide +kernel
theorem dX12_draws_270 : decode cX12_draws 270 = .ok (.return_, 1) := by decide +kernel
theorem dX12_point_0 : decode cX12_point 0 = .ok (.aload_n 0, 1) := by decide +kernel
theorem dX12_point_1 : decode cX12_point 1 = .ok (.iload_n 1, 1) := by decide +kernel
theorem dX12_point_2 : decode cX12_point 2 = .ok (.invokevirtual 141, 3) := by decide +kernel
theorem dX12_point_5 : decode cX12_point 5 = .ok (.ifCond .eq 12, 3) := by decide +kernel
theorem dX12_point_8 : decode cX12_point 8 = .ok (.iload_n 3, 1) := by decide +kernel
theorem dX12_point_9 : decode cX12_point 9 = .ok (.iconst 0, 1) := by decide +kernel
theorem dX12_point_10 : decode cX12_point 10 = .ok (.iconst 1, 1) := by decide +kernel
theorem dX12_point_11 : decode cX12_point 11 = .ok (.invokestatic 59, 3) := by decide +kernel
theorem dX12_point_14 : decode cX12_point 14 = .ok (.ifCond .ne 6, 3) := by decide +kernel
theorem dX12_point_17 : decode cX12_point 17 = .ok (.ldc 117, 2) := by decide +kernel
theorem dX12_point_19 : decode cX12_point 19 = .ok (.ireturn, 1) := by decide +kernel
theorem dX12_point_20 : decode cX12_point 20 = .ok (.aload_n 0, 1) := by decide +kernel
theorem dX12_point_21 : decode cX12_point 21 = .ok (.iload_n 1, 1) := by decide +kernel
theorem dX12_point_22 : decode cX12_point 22 = .ok (.invokevirtual 154, 3) := by decide +kernel
theorem dX12_point_25 : decode cX12_point 25 = .ok (.iload_n 2, 1) := by decide +kernel
theorem dX12_point_26 : decode cX12_point 26 = .ok (.iconst 0, 1) := by decide +kernel
theorem dX12_point_27 : decode cX12_point 27 = .ok (.aload_n 0, 1) := by decide +kernel
theorem dX12_point_28 : decode cX12_point 28 = .ok (.getfield 144, 3) := by decide +kernel
theorem dX12_point_31 : decode cX12_point 31 = .ok (.iconst 1, 1) := by decide +kernel
theorem dX12_point_32 : decode cX12_point 32 = .ok (.isub, 1) := by decide +kernel
theorem dX12_point_33 : decode cX12_point 33 = .ok (.invokestatic 59, 3) := by decide +kernel
theorem dX12_point_36 : decode cX12_point 36 = .ok (.ifCond .eq 25, 3) := by decide +kernel
theorem dX12_point_39 : decode cX12_point 39 = .ok (.iload_n 3, 1) := by decide +kernel
theorem dX12_point_40 : decode cX12_point 40 = .ok (.ifCond .ne 12, 3) := by decide +kernel
theorem dX12_point_43 : decode cX12_point 43 = .ok (.aload_n 0, 1) := by decide +kernel
theorem dX12_point_44 : decode cX12_point 44 = .ok (.getfield 16, 3) := by decide +kernel
theorem dX12_point_47 : decode cX12_point 47 = .ok (.iload_n 2, 1) := by decide +kernel
theorem dX12_point_48 : decode cX12_point 48 = .ok (.iaload, 1) := by decide +kernel
theorem dX12_point_49 : decode cX12_point 49 = .ok (.goto 14, 3) := by decide +kernel
theorem dX12_point_52 : decode cX12_point 52 = .ok (.aload_n 0, 1) := by decide +kernel
theorem dX12_point_53 : decode cX12_point 53 = .ok (.getfield 19, 3) := by decide +kernel
theorem dX12_point_56 : decode cX12_point 56 = .ok (.iload_n 2, 1) := by decide +kernel
theorem dX12_point_57 : decode cX12_point 57 = .ok (.iaload, 1) := by decide +kernel
theorem dX12_point_58 : decode cX12_point 58 = .ok (.goto 5, 3) := by decide +kernel
theorem dX12_point_61 : decode cX12_point 61 = .ok (.ldc 117, 2) := by decide +kernel
theorem dX12_point_63 : decode cX12_point 63 = .ok (.ireturn, 1) := by decide +kernel
theorem dX12_distance_0 : decode cX12_distance 0 = .ok (.iload_n 0, 1) := by decide +kernel
theorem dX12_distance_1 : decode cX12_distance 1 = .ok (.iload_n 1, 1) := by decide +kernel
theorem dX12_distance_2 : decode cX12_distance 2 = .ok (.if_icmp .ge 9, 3) := by decide +kernel
theorem dX12_distance_5 : decode cX12_distance 5 = .ok (.iload_n 1, 1) := by decide +kernel
theorem dX12_distance_6 : decode cX12_distance 6 = .ok (.iload_n 0, 1) := by decide +kernel
theorem dX12_distance_7 : decode cX12_distance 7 = .ok (.isub, 1) := by decide +kernel
theorem dX12_distance_8 : decode cX12_distance 8 = .ok (.goto 6, 3) := by decide +kernel
theorem dX12_distance_11 : decode cX12_distance 11 = .ok (.iload_n 0, 1) := by decide +kernel
theorem dX12_distance_12 : decode cX12_distance 12 = .ok (.iload_n 1, 1) := by decide +kernel
theorem dX12_distance_13 : decode cX12_distance 13 = .ok (.isub, 1) := by decide +kernel
theorem dX12_distance_14 : decode cX12_distance 14 = .ok (.ireturn, 1) := by decide +kernel
theorem dX12_lengthOf_0 : decode cX12_lengthOf 0 = .ok (.aload_n 0, 1) := by decide +kernel
theorem dX12_lengthOf_1 : decode cX12_lengthOf 1 = .ok (.iload_n 1, 1) := by decide +kernel
theorem dX12_lengthOf_2 : decode cX12_lengthOf 2 = .ok (.invokevirtual 154, 3) := by decide +kernel
theorem dX12_lengthOf_5 : decode cX12_lengthOf 5 = .ok (.iconst 0, 1) := by decide +kernel
theorem dX12_lengthOf_6 : decode cX12_lengthOf 6 = .ok (.istore_n 2, 1) := by decide +kernel
theorem dX12_lengthOf_7 : decode cX12_lengthOf 7 = .ok (.iconst 1, 1) := by decide +kernel
theorem dX12_lengthOf_8 : decode cX12_lengthOf 8 = .ok (.istore_n 3, 1) := by decide +kernel
theorem dX12_lengthOf_9 : decode cX12_lengthOf 9 = .ok (.iload_n 3, 1) := by decide +kernel
theorem dX12_lengthOf_10 : decode cX12_lengthOf 10 = .ok (.aload_n 0, 1) := by decide +kernel
theorem dX12_lengthOf_11 : decode cX12_lengthOf 11 = .ok (.getfield 144, 3) := by decide +kernel
theorem dX12_lengthOf_14 : decode cX12_lengthOf 14 = .ok (.if_icmp .ge 47, 3) := by decide +kernel
theorem dX12_lengthOf_17 : decode cX12_lengthOf 17 = .ok (.iload_n 2, 1) := by decide +kernel
theorem dX12_lengthOf_18 : decode cX12_lengthOf 18 = .ok (.aload_n 0, 1) := by decide +kernel
theorem dX12_lengthOf_19 : decode cX12_lengthOf 19 = .ok (.getfield 16, 3) := by decide +kernel
theorem dX12_lengthOf_22 : decode cX12_lengthOf 22 = .ok (.iload_n 3, 1) := by decide +kernel
theorem dX12_lengthOf_23 : decode cX12_lengthOf 23 = .ok (.iaload, 1) := by decide +kernel
theorem dX12_lengthOf_24 : decode cX12_lengthOf 24 = .ok (.aload_n 0, 1) := by decide +kernel
theorem dX12_lengthOf_25 : decode cX12_lengthOf 25 = .ok (.getfield 16, 3) := by decide +kernel
theorem dX12_lengthOf_28 : decode cX12_lengthOf 28 = .ok (.iload_n 3, 1) := by decide +kernel
theorem dX12_lengthOf_29 : decode cX12_lengthOf 29 = .ok (.iconst 1, 1) := by decide +kernel
theorem dX12_lengthOf_30 : decode cX12_lengthOf 30 = .ok (.isub, 1) := by decide +kernel
theorem dX12_lengthOf_31 : decode cX12_lengthOf 31 = .ok (.iaload, 1) := by decide +kernel
theorem dX12_lengthOf_32 : decode cX12_lengthOf 32 = .ok (.invokestatic 157, 3) := by decide +kernel
theorem dX12_lengthOf_35 : decode cX12_lengthOf 35 = .ok (.aload_n 0, 1) := by decide +kernel
theorem dX12_lengthOf_36 : decode cX12_lengthOf 36 = .ok (.getfield 19, 3) := by decide +kernel
theorem dX12_lengthOf_39 : decode cX12_lengthOf 39 = .ok (.iload_n 3, 1) := by decide +kernel
theorem dX12_lengthOf_40 : decode cX12_lengthOf 40 = .ok (.iaload, 1) := by decide +kernel
theorem dX12_lengthOf_41 : decode cX12_lengthOf 41 = .ok (.aload_n 0, 1) := by decide +kernel
theorem dX12_lengthOf_42 : decode cX12_lengthOf 42 = .ok (.getfield 19, 3) := by decide +kernel
theorem dX12_lengthOf_45 : decode cX12_lengthOf 45 = .ok (.iload_n 3, 1) := by decide +kernel
theorem dX12_lengthOf_46 : decode cX12_lengthOf 46 = .ok (.iconst 1, 1) := by decide +kernel
theorem dX12_lengthOf_47 : decode cX12_lengthOf 47 = .ok (.isub, 1) := by decide +kernel
theorem dX12_lengthOf_48 : decode cX12_lengthOf 48 = .ok (.iaload, 1) := by decide +kernel
theorem dX12_lengthOf_49 : decode cX12_lengthOf 49 = .ok (.invokestatic 157, 3) := by decide +kernel
theorem dX12_lengthOf_52 : decode cX12_lengthOf 52 = .ok (.iadd, 1) := by decide +kernel
theorem dX12_lengthOf_53 : decode cX12_lengthOf 53 = .ok (.iadd, 1) := by decide +kernel
theorem dX12_lengthOf_54 : decode cX12_lengthOf 54 = .ok (.istore_n 2, 1) := by decide +kernel
theorem dX12_lengthOf_55 : decode cX12_lengthOf 55 = .ok (.iinc 3 1, 3) := by decide +kernel
theorem dX12_lengthOf_58 : decode cX12_lengthOf 58 = .ok (.goto (-49), 3) := by decide +kernel
theorem dX12_lengthOf_61 : decode cX12_lengthOf 61 = .ok (.iload_n 2, 1) := by decide +kernel
theorem dX12_lengthOf_62 : decode cX12_lengthOf 62 = .ok (.ireturn, 1) := by decide +kernel
theorem dX12_length_0 : decode cX12_length 0 = .ok (.aload_n 0, 1) := by decide +kernel
theorem dX12_length_1 : decode cX12_length 1 = .ok (.iload_n 1, 1) := by decide +kernel
theorem dX12_length_2 : decode cX12_length 2 = .ok (.invokevirtual 141, 3) := by decide +kernel
theorem dX12_length_5 : decode cX12_length 5 = .ok (.ifCond .eq 11, 3) := by decide +kernel
theorem dX12_length_8 : decode cX12_length 8 = .ok (.aload_n 0, 1) := by decide +kernel
theorem dX12_length_9 : decode cX12_length 9 = .ok (.iload_n 1, 1) := by decide +kernel
theorem dX12_length_10 : decode cX12_length 10 = .ok (.invokevirtual 160, 3) := by decide +kernel
theorem dX12_length_13 : decode cX12_length 13 = .ok (.goto 4, 3) := by decide +kernel
theorem dX12_length_16 : decode cX12_length 16 = .ok (.iconst (-1), 1) := by decide +kernel
theorem dX12_length_17 : decode cX12_length 17 = .ok (.ireturn, 1) := by decide +kernel
theorem dX12_meets_0 : decode cX12_meets 0 = .ok (.aload_n 0, 1) := by decide +kernel
theorem dX12_meets_1 : decode cX12_meets 1 = .ok (.getfield 16, 3) := by decide +kernel
theorem dX12_meets_4 : decode cX12_meets 4 = .ok (.iload_n 1, 1) := by decide +kernel
theorem dX12_meets_5 : decode cX12_meets 5 = .ok (.iaload, 1) := by decide +kernel
theorem dX12_meets_6 : decode cX12_meets 6 = .ok (.istore_n 3, 1) := by decide +kernel
theorem dX12_meets_7 : decode cX12_meets 7 = .ok (.aload_n 0, 1) := by decide +kernel
theorem dX12_meets_8 : decode cX12_meets 8 = .ok (.getfield 19, 3) := by decide +kernel
theorem dX12_meets_11 : decode cX12_meets 11 = .ok (.iload_n 1, 1) := by decide +kernel
theorem dX12_meets_12 : decode cX12_meets 12 = .ok (.iaload, 1) := by decide +kernel
theorem dX12_meets_13 : decode cX12_meets 13 = .ok (.istore 4, 2) := by decide +kernel
theorem dX12_meets_15 : decode cX12_meets 15 = .ok (.aload_n 0, 1) := by decide +kernel
theorem dX12_meets_16 : decode cX12_meets 16 = .ok (.getfield 16, 3) := by decide +kernel
theorem dX12_meets_19 : decode cX12_meets 19 = .ok (.iload_n 1, 1) := by decide +kernel
theorem dX12_meets_20 : decode cX12_meets 20 = .ok (.iconst 1, 1) := by decide +kernel
theorem dX12_meets_21 : decode cX12_meets 21 = .ok (.iadd, 1) := by decide +kernel
theorem dX12_meets_22 : decode cX12_meets 22 = .ok (.iaload, 1) := by decide +kernel
theorem dX12_meets_23 : decode cX12_meets 23 = .ok (.istore 5, 2) := by decide +kernel
theorem dX12_meets_25 : decode cX12_meets 25 = .ok (.aload_n 0, 1) := by decide +kernel
theorem dX12_meets_26 : decode cX12_meets 26 = .ok (.getfield 19, 3) := by decide +kernel
theorem dX12_meets_29 : decode cX12_meets 29 = .ok (.iload_n 1, 1) := by decide +kernel
theorem dX12_meets_30 : decode cX12_meets 30 = .ok (.iconst 1, 1) := by decide +kernel
theorem dX12_meets_31 : decode cX12_meets 31 = .ok (.iadd, 1) := by decide +kernel
theorem dX12_meets_32 : decode cX12_meets 32 = .ok (.iaload, 1) := by decide +kernel
theorem dX12_meets_33 : decode cX12_meets 33 = .ok (.istore 6, 2) := by decide +kernel
theorem dX12_meets_35 : decode cX12_meets 35 = .ok (.iload_n 3, 1) := by decide +kernel
theorem dX12_meets_36 : decode cX12_meets 36 = .ok (.aload_n 0, 1) := by decide +kernel
theorem dX12_meets_37 : decode cX12_meets 37 = .ok (.iload_n 2, 1) := by decide +kernel
theorem dX12_meets_38 : decode cX12_meets 38 = .ok (.iconst 0, 1) := by decide +kernel
theorem dX12_meets_39 : decode cX12_meets 39 = .ok (.invokevirtual 124, 3) := by decide +kernel
theorem dX12_meets_42 : decode cX12_meets 42 = .ok (.if_icmp .gt 14, 3) := by decide +kernel
theorem dX12_meets_45 : decode cX12_meets 45 = .ok (.iload 5, 2) := by decide +kernel
theorem dX12_meets_47 : decode cX12_meets 47 = .ok (.aload_n 0, 1) := by decide +kernel
theorem dX12_meets_48 : decode cX12_meets 48 = .ok (.iload_n 2, 1) := by decide +kernel
theorem dX12_meets_49 : decode cX12_meets 49 = .ok (.iconst 0, 1) := by decide +kernel
theorem dX12_meets_50 : decode cX12_meets 50 = .ok (.invokevirtual 124, 3) := by decide +kernel
theorem dX12_meets_53 : decode cX12_meets 53 = .ok (.if_icmp .le 24, 3) := by decide +kernel
theorem dX12_meets_56 : decode cX12_meets 56 = .ok (.iload_n 3, 1) := by decide +kernel
theorem dX12_meets_57 : decode cX12_meets 57 = .ok (.aload_n 0, 1) := by decide +kernel
theorem dX12_meets_58 : decode cX12_meets 58 = .ok (.iload_n 2, 1) := by decide +kernel
theorem dX12_meets_59 : decode cX12_meets 59 = .ok (.iconst 0, 1) := by decide +kernel
theorem dX12_meets_60 : decode cX12_meets 60 = .ok (.invokevirtual 127, 3) := by decide +kernel
theorem dX12_meets_63 : decode cX12_meets 63 = .ok (.if_icmp .lt 18, 3) := by decide +kernel
theorem dX12_meets_66 : decode cX12_meets 66 = .ok (.iload 5, 2) := by decide +kernel
theorem dX12_meets_68 : decode cX12_meets 68 = .ok (.aload_n 0, 1) := by decide +kernel
theorem dX12_meets_69 : decode cX12_meets 69 = .ok (.iload_n 2, 1) := by decide +kernel
theorem dX12_meets_70 : decode cX12_meets 70 = .ok (.iconst 0, 1) := by decide +kernel
theorem dX12_meets_71 : decode cX12_meets 71 = .ok (.invokevirtual 127, 3) := by decide +kernel
theorem dX12_meets_74 : decode cX12_meets 74 = .ok (.if_icmp .lt 7, 3) := by decide +kernel
theorem dX12_meets_77 : decode cX12_meets 77 = .ok (.iconst 1, 1) := by decide +kernel
theorem dX12_meets_78 : decode cX12_meets 78 = .ok (.goto 4, 3) := by decide +kernel
theorem dX12_meets_81 : decode cX12_meets 81 = .ok (.iconst 0, 1) := by decide +kernel
theorem dX12_meets_82 : decode cX12_meets 82 = .ok (.istore 7, 2) := by decide +kernel
theorem dX12_meets_84 : decode cX12_meets 84 = .ok (.iload 7, 2) := by decide +kernel
theorem dX12_meets_86 : decode cX12_meets 86 = .ok (.ifCond .ne 47, 3) := by decide +kernel
theorem dX12_meets_89 : decode cX12_meets 89 = .ok (.iload 4, 2) := by decide +kernel
theorem dX12_meets_91 : decode cX12_meets 91 = .ok (.aload_n 0, 1) := by decide +kernel
theorem dX12_meets_92 : decode cX12_meets 92 = .ok (.iload_n 2, 1) := by decide +kernel
theorem dX12_meets_93 : decode cX12_meets 93 = .ok (.iconst 1, 1) := by decide +kernel
theorem dX12_meets_94 : decode cX12_meets 94 = .ok (.invokevirtual 124, 3) := by decide +kernel
theorem dX12_meets_97 : decode cX12_meets 97 = .ok (.if_icmp .gt 14, 3) := by decide +kernel
theorem dX12_meets_100 : decode cX12_meets 100 = .ok (.iload 6, 2) := by decide +kernel
theorem dX12_meets_102 : decode cX12_meets 102 = .ok (.aload_n 0, 1) := by decide +kernel
theorem dX12_meets_103 : decode cX12_meets 103 = .ok (.iload_n 2, 1) := by decide +kernel
theorem dX12_meets_104 : decode cX12_meets 104 = .ok (.iconst 1, 1) := by decide +kernel
theorem dX12_meets_105 : decode cX12_meets 105 = .ok (.invokevirtual 124, 3) := by decide +kernel
theorem dX12_meets_108 : decode cX12_meets 108 = .ok (.if_icmp .le 25, 3) := by decide +kernel
theorem dX12_meets_111 : decode cX12_meets 111 = .ok (.iload 4, 2) := by decide +kernel
theorem dX12_meets_113 : decode cX12_meets 113 = .ok (.aload_n 0, 1) := by decide +kernel
theorem dX12_meets_114 : decode cX12_meets 114 = .ok (.iload_n 2, 1) := by decide +kernel
theorem dX12_meets_115 : decode cX12_meets 115 = .ok (.iconst 1, 1) := by decide +kernel
theorem dX12_meets_116 : decode cX12_meets 116 = .ok (.invokevirtual 127, 3) := by decide +kernel
theorem dX12_meets_119 : decode cX12_meets 119 = .ok (.if_icmp .lt 18, 3) := by decide +kernel
theorem dX12_meets_122 : decode cX12_meets 122 = .ok (.iload 6, 2) := by decide +kernel
theorem dX12_meets_124 : decode cX12_meets 124 = .ok (.aload_n 0, 1) := by decide +kernel
theorem dX12_meets_125 : decode cX12_meets 125 = .ok (.iload_n 2, 1) := by decide +kernel
theorem dX12_meets_126 : decode cX12_meets 126 = .ok (.iconst 1, 1) := by decide +kernel
theorem dX12_meets_127 : decode cX12_meets 127 = .ok (.invokevirtual 127, 3) := by decide +kernel
theorem dX12_meets_130 : decode cX12_meets 130 = .ok (.if_icmp .lt 7, 3) := by decide +kernel
theorem dX12_meets_133 : decode cX12_meets 133 = .ok (.iconst 1, 1) := by decide +kernel
theorem dX12_meets_134 : decode cX12_meets 134 = .ok (.goto 4, 3) := by decide +kernel
theorem dX12_meets_137 : decode cX12_meets 137 = .ok (.iconst 0, 1) := by decide +kernel
theorem dX12_meets_138 : decode cX12_meets 138 = .ok (.istore 7, 2) := by decide +kernel
theorem dX12_meets_140 : decode cX12_meets 140 = .ok (.iload 7, 2) := by decide +kernel
theorem dX12_meets_142 : decode cX12_meets 142 = .ok (.ifCond .eq 5, 3) := by decide +kernel
theorem dX12_meets_145 : decode cX12_meets 145 = .ok (.iconst 0, 1) := by decide +kernel
theorem dX12_meets_146 : decode cX12_meets 146 = .ok (.ireturn, 1) := by decide +kernel
theorem dX12_meets_147 : decode cX12_meets 147 = .ok (.iconst 0, 1) := by decide +kernel
theorem dX12_meets_148 : decode cX12_meets 148 = .ok (.istore 8, 2) := by decide +kernel
theorem dX12_meets_150 : decode cX12_meets 150 = .ok (.iconst 0, 1) := by decide +kernel
theorem dX12_meets_151 : decode cX12_meets 151 = .ok (.istore 9, 2) := by decide +kernel
theorem dX12_meets_153 : decode cX12_meets 153 = .ok (.iconst 0, 1) := by decide +kernel
theorem dX12_meets_154 : decode cX12_meets 154 = .ok (.istore 10, 2) := by decide +kernel
theorem dX12_meets_156 : decode cX12_meets 156 = .ok (.iload 10, 2) := by decide +kernel
theorem dX12_meets_158 : decode cX12_meets 158 = .ok (.iconst 4, 1) := by decide +kernel
theorem dX12_meets_159 : decode cX12_meets 159 = .ok (.if_icmp .ge 125, 3) := by decide +kernel
theorem dX12_meets_162 : decode cX12_meets 162 = .ok (.iload 10, 2) := by decide +kernel
theorem dX12_meets_164 : decode cX12_meets 164 = .ok (.iconst 2, 1) := by decide +kernel
theorem dX12_meets_165 : decode cX12_meets 165 = .ok (.irem, 1) := by decide +kernel
theorem dX12_meets_166 : decode cX12_meets 166 = .ok (.ifCond .ne 13, 3) := by decide +kernel
theorem dX12_meets_169 : decode cX12_meets 169 = .ok (.aload_n 0, 1) := by decide +kernel
theorem dX12_meets_170 : decode cX12_meets 170 = .ok (.iload_n 2, 1) := by decide +kernel
theorem dX12_meets_171 : decode cX12_meets 171 = .ok (.iconst 0, 1) := by decide +kernel
theorem dX12_meets_172 : decode cX12_meets 172 = .ok (.invokevirtual 124, 3) := by decide +kernel
theorem dX12_meets_175 : decode cX12_meets 175 = .ok (.i2l, 1) := by decide +kernel
theorem dX12_meets_176 : decode cX12_meets 176 = .ok (.goto 10, 3) := by decide +kernel
theorem dX12_meets_179 : decode cX12_meets 179 = .ok (.aload_n 0, 1) := by decide +kernel
theorem dX12_meets_180 : decode cX12_meets 180 = .ok (.iload_n 2, 1) := by decide +kernel
theorem dX12_meets_181 : decode cX12_meets 181 = .ok (.iconst 0, 1) := by decide +kernel
theorem dX12_meets_182 : decode cX12_meets 182 = .ok (.invokevirtual 127, 3) := by decide +kernel
theorem dX12_meets_185 : decode cX12_meets 185 = .ok (.i2l, 1) := by decide +kernel
theorem dX12_meets_186 : decode cX12_meets 186 = .ok (.lstore 11, 2) := by decide +kernel
theorem dX12_meets_188 : decode cX12_meets 188 = .ok (.iload 10, 2) := by decide +kernel
theorem dX12_meets_190 : decode cX12_meets 190 = .ok (.iconst 2, 1) := by decide +kernel
theorem dX12_meets_191 : decode cX12_meets 191 = .ok (.if_icmp .ge 13, 3) := by decide +kernel
theorem dX12_meets_194 : decode cX12_meets 194 = .ok (.aload_n 0, 1) := by decide +kernel
theorem dX12_meets_195 : decode cX12_meets 195 = .ok (.iload_n 2, 1) := by decide +kernel
theorem dX12_meets_196 : decode cX12_meets 196 = .ok (.iconst 1, 1) := by decide +kernel
theorem dX12_meets_197 : decode cX12_meets 197 = .ok (.invokevirtual 124, 3) := by decide +kernel
theorem dX12_meets_200 : decode cX12_meets 200 = .ok (.i2l, 1) := by decide +kernel
theorem dX12_meets_201 : decode cX12_meets 201 = .ok (.goto 10, 3) := by decide +kernel
theorem dX12_meets_204 : decode cX12_meets 204 = .ok (.aload_n 0, 1) := by decide +kernel
theorem dX12_meets_205 : decode cX12_meets 205 = .ok (.iload_n 2, 1) := by decide +kernel
theorem dX12_meets_206 : decode cX12_meets 206 = .ok (.iconst 1, 1) := by decide +kernel
theorem dX12_meets_207 : decode cX12_meets 207 = .ok (.invokevirtual 127, 3) := by decide +kernel
theorem dX12_meets_210 : decode cX12_meets 210 = .ok (.i2l, 1) := by decide +kernel
theorem dX12_meets_211 : decode cX12_meets 211 = .ok (.lstore 13, 2) := by decide +kernel
theorem dX12_meets_213 : decode cX12_meets 213 = .ok (.iload 5, 2) := by decide +kernel
theorem dX12_meets_215 : decode cX12_meets 215 = .ok (.iload_n 3, 1) := by decide +kernel
theorem dX12_meets_216 : decode cX12_meets 216 = .ok (.isub, 1) := by decide +kernel
theorem dX12_meets_217 : decode cX12_meets 217 = .ok (.i2l, 1) := by decide +kernel
theorem dX12_meets_218 : decode cX12_meets 218 = .ok (.lload 13, 2) := by decide +kernel
theorem dX12_meets_220 : decode cX12_meets 220 = .ok (.iload 4, 2) := by decide +kernel
theorem dX12_meets_222 : decode cX12_meets 222 = .ok (.i2l, 1) := by decide +kernel
theorem dX12_meets_223 : decode cX12_meets 223 = .ok (.lsub, 1) := by decide +kernel
theorem dX12_meets_224 : decode cX12_meets 224 = .ok (.lmul, 1) := by decide +kernel
theorem dX12_meets_225 : decode cX12_meets 225 = .ok (.iload 6, 2) := by decide +kernel
theorem dX12_meets_227 : decode cX12_meets 227 = .ok (.iload 4, 2) := by decide +kernel
theorem dX12_meets_229 : decode cX12_meets 229 = .ok (.isub, 1) := by decide +kernel
theorem dX12_meets_230 : decode cX12_meets 230 = .ok (.i2l, 1) := by decide +kernel
theorem dX12_meets_231 : decode cX12_meets 231 = .ok (.lload 11, 2) := by decide +kernel
theorem dX12_meets_233 : decode cX12_meets 233 = .ok (.iload_n 3, 1) := by decide +kernel
theorem dX12_meets_234 : decode cX12_meets 234 = .ok (.i2l, 1) := by decide +kernel
theorem dX12_meets_235 : decode cX12_meets 235 = .ok (.lsub, 1) := by decide +kernel
theorem dX12_meets_236 : decode cX12_meets 236 = .ok (.lmul, 1) := by decide +kernel
theorem dX12_meets_237 : decode cX12_meets 237 = .ok (.lsub, 1) := by decide +kernel
theorem dX12_meets_238 : decode cX12_meets 238 = .ok (.lstore 15, 2) := by decide +kernel
theorem dX12_meets_240 : decode cX12_meets 240 = .ok (.iload 8, 2) := by decide +kernel
theorem dX12_meets_242 : decode cX12_meets 242 = .ok (.ifCond .ne 10, 3) := by decide +kernel
theorem dX12_meets_245 : decode cX12_meets 245 = .ok (.lload 15, 2) := by decide +kernel
theorem dX12_meets_247 : decode cX12_meets 247 = .ok (.lconst 0, 1) := by decide +kernel
theorem dX12_meets_248 : decode cX12_meets 248 = .ok (.lcmp, 1) := by decide +kernel
theorem dX12_meets_249 : decode cX12_meets 249 = .ok (.ifCond .ge 7, 3) := by decide +kernel
theorem dX12_meets_252 : decode cX12_meets 252 = .ok (.iconst 1, 1) := by decide +kernel
theorem dX12_meets_253 : decode cX12_meets 253 = .ok (.goto 4, 3) := by decide +kernel
theorem dX12_meets_256 : decode cX12_meets 256 = .ok (.iconst 0, 1) := by decide +kernel
theorem dX12_meets_257 : decode cX12_meets 257 = .ok (.istore 8, 2) := by decide +kernel
theorem dX12_meets_259 : decode cX12_meets 259 = .ok (.iload 9, 2) := by decide +kernel
theorem dX12_meets_261 : decode cX12_meets 261 = .ok (.ifCond .ne 10, 3) := by decide +kernel
theorem dX12_meets_264 : decode cX12_meets 264 = .ok (.lload 15, 2) := by decide +kernel
theorem dX12_meets_266 : decode cX12_meets 266 = .ok (.lconst 0, 1) := by decide +kernel
theorem dX12_meets_267 : decode cX12_meets 267 = .ok (.lcmp, 1) := by decide +kernel
theorem dX12_meets_268 : decode cX12_meets 268 = .ok (.ifCond .le 7, 3) := by decide +kernel
theorem dX12_meets_271 : decode cX12_meets 271 = .ok (.iconst 1, 1) := by decide +kernel
theorem dX12_meets_272 : decode cX12_meets 272 = .ok (.goto 4, 3) := by decide +kernel
theorem dX12_meets_275 : decode cX12_meets 275 = .ok (.iconst 0, 1) := by decide +kernel
theorem dX12_meets_276 : decode cX12_meets 276 = .ok (.istore 9, 2) := by decide +kernel
theorem dX12_meets_278 : decode cX12_meets 278 = .ok (.iinc 10 1, 3) := by decide +kernel
theorem dX12_meets_281 : decode cX12_meets 281 = .ok (.goto (-125), 3) := by decide +kernel
theorem dX12_meets_284 : decode cX12_meets 284 = .ok (.iload_n 3, 1) := by decide +kernel
theorem dX12_meets_285 : decode cX12_meets 285 = .ok (.iload 5, 2) := by decide +kernel
theorem dX12_meets_287 : decode cX12_meets 287 = .ok (.if_icmp .ne 10, 3) := by decide +kernel
theorem dX12_meets_290 : decode cX12_meets 290 = .ok (.iload 4, 2) := by decide +kernel
theorem dX12_meets_292 : decode cX12_meets 292 = .ok (.iload 6, 2) := by decide +kernel
theorem dX12_meets_294 : decode cX12_meets 294 = .ok (.if_icmp .eq 13, 3) := by decide +kernel
theorem dX12_meets_297 : decode cX12_meets 297 = .ok (.iload 8, 2) := by decide +kernel
theorem dX12_meets_299 : decode cX12_meets 299 = .ok (.ifCond .eq 12, 3) := by decide +kernel
theorem dX12_meets_302 : decode cX12_meets 302 = .ok (.iload 9, 2) := by decide +kernel
theorem dX12_meets_304 : decode cX12_meets 304 = .ok (.ifCond .eq 7, 3) := by decide +kernel
theorem dX12_meets_307 : decode cX12_meets 307 = .ok (.iconst 1, 1) := by decide +kernel
theorem dX12_meets_308 : decode cX12_meets 308 = .ok (.goto 4, 3) := by decide +kernel
theorem dX12_meets_311 : decode cX12_meets 311 = .ok (.iconst 0, 1) := by decide +kernel
theorem dX12_meets_312 : decode cX12_meets 312 = .ok (.ireturn, 1) := by decide +kernel
theorem dX12_throughOf_0 : decode cX12_throughOf 0 = .ok (.aload_n 0, 1) := by decide +kernel
theorem dX12_throughOf_1 : decode cX12_throughOf 1 = .ok (.iload_n 1, 1) := by decide +kernel
theorem dX12_throughOf_2 : decode cX12_throughOf 2 = .ok (.invokevirtual 154, 3) := by decide +kernel
theorem dX12_throughOf_5 : decode cX12_throughOf 5 = .ok (.iconst 0, 1) := by decide +kernel
theorem dX12_throughOf_6 : decode cX12_throughOf 6 = .ok (.istore_n 2, 1) := by decide +kernel
theorem dX12_throughOf_7 : decode cX12_throughOf 7 = .ok (.iconst 0, 1) := by decide +kernel
theorem dX12_throughOf_8 : decode cX12_throughOf 8 = .ok (.istore_n 3, 1) := by decide +kernel
theorem dX12_throughOf_9 : decode cX12_throughOf 9 = .ok (.iload_n 3, 1) := by decide +kernel
theorem dX12_throughOf_10 : decode cX12_throughOf 10 = .ok (.bipush 20, 2) := by decide +kernel
theorem dX12_throughOf_12 : decode cX12_throughOf 12 = .ok (.if_icmp .ge 68, 3) := by decide +kernel
theorem dX12_throughOf_15 : decode cX12_throughOf 15 = .ok (.iconst 0, 1) := by decide +kernel
theorem dX12_throughOf_16 : decode cX12_throughOf 16 = .ok (.istore 4, 2) := by decide +kernel
theorem dX12_throughOf_18 : decode cX12_throughOf 18 = .ok (.iload 4, 2) := by decide +kernel
theorem dX12_throughOf_20 : decode cX12_throughOf 20 = .ok (.iconst 1, 1) := by decide +kernel
theorem dX12_throughOf_21 : decode cX12_throughOf 21 = .ok (.iadd, 1) := by decide +kernel
theorem dX12_throughOf_22 : decode cX12_throughOf 22 = .ok (.aload_n 0, 1) := by decide +kernel
theorem dX12_throughOf_23 : decode cX12_throughOf 23 = .ok (.getfield 144, 3) := by decide +kernel
theorem dX12_throughOf_26 : decode cX12_throughOf 26 = .ok (.if_icmp .ge 48, 3) := by decide +kernel
theorem dX12_throughOf_29 : decode cX12_throughOf 29 = .ok (.aload_n 0, 1) := by decide +kernel
theorem dX12_throughOf_30 : decode cX12_throughOf 30 = .ok (.iload_n 3, 1) := by decide +kernel
theorem dX12_throughOf_31 : decode cX12_throughOf 31 = .ok (.iconst 0, 1) := by decide +kernel
theorem dX12_throughOf_32 : decode cX12_throughOf 32 = .ok (.invokevirtual 63, 3) := by decide +kernel
theorem dX12_throughOf_35 : decode cX12_throughOf 35 = .ok (.iconst 1, 1) := by decide +kernel
theorem dX12_throughOf_36 : decode cX12_throughOf 36 = .ok (.if_icmp .ne 38, 3) := by decide +kernel
theorem dX12_throughOf_39 : decode cX12_throughOf 39 = .ok (.aload_n 0, 1) := by decide +kernel
theorem dX12_throughOf_40 : decode cX12_throughOf 40 = .ok (.iload_n 1, 1) := by decide +kernel
theorem dX12_throughOf_41 : decode cX12_throughOf 41 = .ok (.iload_n 3, 1) := by decide +kernel
theorem dX12_throughOf_42 : decode cX12_throughOf 42 = .ok (.invokevirtual 101, 3) := by decide +kernel
theorem dX12_throughOf_45 : decode cX12_throughOf 45 = .ok (.ifCond .ne 29, 3) := by decide +kernel
theorem dX12_throughOf_48 : decode cX12_throughOf 48 = .ok (.iload_n 2, 1) := by decide +kernel
theorem dX12_throughOf_49 : decode cX12_throughOf 49 = .ok (.aload_n 0, 1) := by decide +kernel
theorem dX12_throughOf_50 : decode cX12_throughOf 50 = .ok (.iload 4, 2) := by decide +kernel
theorem dX12_throughOf_52 : decode cX12_throughOf 52 = .ok (.iload_n 3, 1) := by decide +kernel
theorem dX12_throughOf_53 : decode cX12_throughOf 53 = .ok (.invokevirtual 163, 3) := by decide +kernel
theorem dX12_throughOf_56 : decode cX12_throughOf 56 = .ok (.ifCond .eq 9, 3) := by decide +kernel
theorem dX12_throughOf_59 : decode cX12_throughOf 59 = .ok (.iconst 1, 1) := by decide +kernel
theorem dX12_throughOf_60 : decode cX12_throughOf 60 = .ok (.iload_n 3, 1) := by decide +kernel
theorem dX12_throughOf_61 : decode cX12_throughOf 61 = .ok (.ishl, 1) := by decide +kernel
theorem dX12_throughOf_62 : decode cX12_throughOf 62 = .ok (.goto 4, 3) := by decide +kernel
theorem dX12_throughOf_65 : decode cX12_throughOf 65 = .ok (.iconst 0, 1) := by decide +kernel
theorem dX12_throughOf_66 : decode cX12_throughOf 66 = .ok (.ior, 1) := by decide +kernel
theorem dX12_throughOf_67 : decode cX12_throughOf 67 = .ok (.istore_n 2, 1) := by decide +kernel
theorem dX12_throughOf_68 : decode cX12_throughOf 68 = .ok (.iinc 4 1, 3) := by decide +kernel
theorem dX12_throughOf_71 : decode cX12_throughOf 71 = .ok (.goto (-53), 3) := by decide +kernel
theorem dX12_throughOf_74 : decode cX12_throughOf 74 = .ok (.iinc 3 1, 3) := by decide +kernel
theorem dX12_throughOf_77 : decode cX12_throughOf 77 = .ok (.goto (-68), 3) := by decide +kernel
theorem dX12_throughOf_80 : decode cX12_throughOf 80 = .ok (.iload_n 2, 1) := by decide +kernel
theorem dX12_throughOf_81 : decode cX12_throughOf 81 = .ok (.ireturn, 1) := by decide +kernel
theorem dX12_through_0 : decode cX12_through 0 = .ok (.aload_n 0, 1) := by decide +kernel
theorem dX12_through_1 : decode cX12_through 1 = .ok (.iload_n 1, 1) := by decide +kernel
theorem dX12_through_2 : decode cX12_through 2 = .ok (.invokevirtual 141, 3) := by decide +kernel
theorem dX12_through_5 : decode cX12_through 5 = .ok (.ifCond .eq 11, 3) := by decide +kernel
theorem dX12_through_8 : decode cX12_through 8 = .ok (.aload_n 0, 1) := by decide +kernel
theorem dX12_through_9 : decode cX12_through 9 = .ok (.iload_n 1, 1) := by decide +kernel
theorem dX12_through_10 : decode cX12_through 10 = .ok (.invokevirtual 166, 3) := by decide +kernel
theorem dX12_through_13 : decode cX12_through 13 = .ok (.goto 4, 3) := by decide +kernel
theorem dX12_through_16 : decode cX12_through 16 = .ok (.iconst (-1), 1) := by decide +kernel
theorem dX12_through_17 : decode cX12_through 17 = .ok (.ireturn, 1) := by decide +kernel
theorem dX12_chosen_0 : decode cX12_chosen 0 = .ok (.iconst 0, 1) := by decide +kernel
theorem dX12_chosen_1 : decode cX12_chosen 1 = .ok (.istore_n 1, 1) := by decide +kernel
theorem dX12_chosen_2 : decode cX12_chosen 2 = .ok (.iconst 0, 1) := by decide +kernel
theorem dX12_chosen_3 : decode cX12_chosen 3 = .ok (.istore_n 2, 1) := by decide +kernel
theorem dX12_chosen_4 : decode cX12_chosen 4 = .ok (.iload_n 2, 1) := by decide +kernel
theorem dX12_chosen_5 : decode cX12_chosen 5 = .ok (.bipush 20, 2) := by decide +kernel
theorem dX12_chosen_7 : decode cX12_chosen 7 = .ok (.if_icmp .ge 27, 3) := by decide +kernel
theorem dX12_chosen_10 : decode cX12_chosen 10 = .ok (.iload_n 1, 1) := by decide +kernel
theorem dX12_chosen_11 : decode cX12_chosen 11 = .ok (.aload_n 0, 1) := by decide +kernel
theorem dX12_chosen_12 : decode cX12_chosen 12 = .ok (.iload_n 2, 1) := by decide +kernel
theorem dX12_chosen_13 : decode cX12_chosen 13 = .ok (.invokevirtual 169, 3) := by decide +kernel
theorem dX12_chosen_16 : decode cX12_chosen 16 = .ok (.ifCond .eq 9, 3) := by decide +kernel
theorem dX12_chosen_19 : decode cX12_chosen 19 = .ok (.iconst 1, 1) := by decide +kernel
theorem dX12_chosen_20 : decode cX12_chosen 20 = .ok (.iload_n 2, 1) := by decide +kernel
theorem dX12_chosen_21 : decode cX12_chosen 21 = .ok (.ishl, 1) := by decide +kernel
theorem dX12_chosen_22 : decode cX12_chosen 22 = .ok (.goto 4, 3) := by decide +kernel
theorem dX12_chosen_25 : decode cX12_chosen 25 = .ok (.iconst 0, 1) := by decide +kernel
theorem dX12_chosen_26 : decode cX12_chosen 26 = .ok (.ior, 1) := by decide +kernel
theorem dX12_chosen_27 : decode cX12_chosen 27 = .ok (.istore_n 1, 1) := by decide +kernel
theorem dX12_chosen_28 : decode cX12_chosen 28 = .ok (.iinc 2 1, 3) := by decide +kernel
theorem dX12_chosen_31 : decode cX12_chosen 31 = .ok (.goto (-27), 3) := by decide +kernel
theorem dX12_chosen_34 : decode cX12_chosen 34 = .ok (.iload_n 1, 1) := by decide +kernel
theorem dX12_chosen_35 : decode cX12_chosen 35 = .ok (.ireturn, 1) := by decide +kernel
theorem dX12_many_0 : decode cX12_many 0 = .ok (.iconst 0, 1) := by decide +kernel
theorem dX12_many_1 : decode cX12_many 1 = .ok (.istore_n 1, 1) := by decide +kernel
theorem dX12_many_2 : decode cX12_many 2 = .ok (.iconst 0, 1) := by decide +kernel
theorem dX12_many_3 : decode cX12_many 3 = .ok (.istore_n 2, 1) := by decide +kernel
theorem dX12_many_4 : decode cX12_many 4 = .ok (.iload_n 2, 1) := by decide +kernel
theorem dX12_many_5 : decode cX12_many 5 = .ok (.bipush 20, 2) := by decide +kernel
theorem dX12_many_7 : decode cX12_many 7 = .ok (.if_icmp .ge 17, 3) := by decide +kernel
theorem dX12_many_10 : decode cX12_many 10 = .ok (.iload_n 1, 1) := by decide +kernel
theorem dX12_many_11 : decode cX12_many 11 = .ok (.iload_n 0, 1) := by decide +kernel
theorem dX12_many_12 : decode cX12_many 12 = .ok (.iload_n 2, 1) := by decide +kernel
theorem dX12_many_13 : decode cX12_many 13 = .ok (.ishr, 1) := by decide +kernel
theorem dX12_many_14 : decode cX12_many 14 = .ok (.iconst 1, 1) := by decide +kernel
theorem dX12_many_15 : decode cX12_many 15 = .ok (.iand, 1) := by decide +kernel
theorem dX12_many_16 : decode cX12_many 16 = .ok (.iadd, 1) := by decide +kernel
theorem dX12_many_17 : decode cX12_many 17 = .ok (.istore_n 1, 1) := by decide +kernel
theorem dX12_many_18 : decode cX12_many 18 = .ok (.iinc 2 1, 3) := by decide +kernel
theorem dX12_many_21 : decode cX12_many 21 = .ok (.goto (-17), 3) := by decide +kernel
theorem dX12_many_24 : decode cX12_many 24 = .ok (.iload_n 1, 1) := by decide +kernel
theorem dX12_many_25 : decode cX12_many 25 = .ok (.ireturn, 1) := by decide +kernel
theorem dX12_select_0 : decode cX12_select 0 = .ok (.aload_n 0, 1) := by decide +kernel
theorem dX12_select_1 : decode cX12_select 1 = .ok (.iload_n 1, 1) := by decide +kernel
theorem dX12_select_2 : decode cX12_select 2 = .ok (.invokevirtual 98, 3) := by decide +kernel
theorem dX12_select_5 : decode cX12_select 5 = .ok (.ifCond .ne 5, 3) := by decide +kernel
theorem dX12_select_8 : decode cX12_select 8 = .ok (.iconst (-1), 1) := by decide +kernel
theorem dX12_select_9 : decode cX12_select 9 = .ok (.ireturn, 1) := by decide +kernel
theorem dX12_select_10 : decode cX12_select 10 = .ok (.aload_n 0, 1) := by decide +kernel
theorem dX12_select_11 : decode cX12_select 11 = .ok (.invokevirtual 91, 3) := by decide +kernel
theorem dX12_select_14 : decode cX12_select 14 = .ok (.aload_n 0, 1) := by decide +kernel
theorem dX12_select_15 : decode cX12_select 15 = .ok (.iload_n 1, 1) := by decide +kernel
theorem dX12_select_16 : decode cX12_select 16 = .ok (.invokevirtual 114, 3) := by decide +kernel
theorem dX12_select_19 : decode cX12_select 19 = .ok (.istore_n 3, 1) := by decide +kernel
theorem dX12_select_20 : decode cX12_select 20 = .ok (.iconst 0, 1) := by decide +kernel
theorem dX12_select_21 : decode cX12_select 21 = .ok (.istore 4, 2) := by decide +kernel
theorem dX12_select_23 : decode cX12_select 23 = .ok (.iload 4, 2) := by decide +kernel
theorem dX12_select_25 : decode cX12_select 25 = .ok (.bipush 20, 2) := by decide +kernel
theorem dX12_select_27 : decode cX12_select 27 = .ok (.if_icmp .ge 65, 3) := by decide +kernel
theorem dX12_select_30 : decode cX12_select 30 = .ok (.iload 4, 2) := by decide +kernel
theorem dX12_select_32 : decode cX12_select 32 = .ok (.iload_n 1, 1) := by decide +kernel
theorem dX12_select_33 : decode cX12_select 33 = .ok (.if_icmp .eq 28, 3) := by decide +kernel
theorem dX12_select_36 : decode cX12_select 36 = .ok (.iload_n 3, 1) := by decide +kernel
theorem dX12_select_37 : decode cX12_select 37 = .ok (.ifCond .lt 49, 3) := by decide +kernel
theorem dX12_select_40 : decode cX12_select 40 = .ok (.aload_n 0, 1) := by decide +kernel
theorem dX12_select_41 : decode cX12_select 41 = .ok (.iload 4, 2) := by decide +kernel
theorem dX12_select_43 : decode cX12_select 43 = .ok (.iconst 0, 1) := by decide +kernel
theorem dX12_select_44 : decode cX12_select 44 = .ok (.invokevirtual 63, 3) := by decide +kernel
theorem dX12_select_47 : decode cX12_select 47 = .ok (.iconst 1, 1) := by decide +kernel
theorem dX12_select_48 : decode cX12_select 48 = .ok (.if_icmp .ne 38, 3) := by decide +kernel
theorem dX12_select_51 : decode cX12_select 51 = .ok (.aload_n 0, 1) := by decide +kernel
theorem dX12_select_52 : decode cX12_select 52 = .ok (.iload 4, 2) := by decide +kernel
theorem dX12_select_54 : decode cX12_select 54 = .ok (.iload_n 3, 1) := by decide +kernel
theorem dX12_select_55 : decode cX12_select 55 = .ok (.invokevirtual 74, 3) := by decide +kernel
theorem dX12_select_58 : decode cX12_select 58 = .ok (.ifCond .eq 28, 3) := by decide +kernel
theorem dX12_select_61 : decode cX12_select 61 = .ok (.aload_n 0, 1) := by decide +kernel
theorem dX12_select_62 : decode cX12_select 62 = .ok (.getfield 7, 3) := by decide +kernel
theorem dX12_select_65 : decode cX12_select 65 = .ok (.bipush 10, 2) := by decide +kernel
theorem dX12_select_67 : decode cX12_select 67 = .ok (.bipush 8, 2) := by decide +kernel
theorem dX12_select_69 : decode cX12_select 69 = .ok (.iload 4, 2) := by decide +kernel
theorem dX12_select_71 : decode cX12_select 71 = .ok (.imul, 1) := by decide +kernel
theorem dX12_select_72 : decode cX12_select 72 = .ok (.iadd, 1) := by decide +kernel
theorem dX12_select_73 : decode cX12_select 73 = .ok (.bipush 6, 2) := by decide +kernel
theorem dX12_select_75 : decode cX12_select 75 = .ok (.iadd, 1) := by decide +kernel
theorem dX12_select_76 : decode cX12_select 76 = .ok (.iload_n 2, 1) := by decide +kernel
theorem dX12_select_77 : decode cX12_select 77 = .ok (.ifCond .eq 7, 3) := by decide +kernel
theorem dX12_select_80 : decode cX12_select 80 = .ok (.iconst 1, 1) := by decide +kernel
theorem dX12_select_81 : decode cX12_select 81 = .ok (.goto 4, 3) := by decide +kernel
theorem dX12_select_84 : decode cX12_select 84 = .ok (.iconst 0, 1) := by decide +kernel
theorem dX12_select_85 : decode cX12_select 85 = .ok (.iastore, 1) := by decide +kernel
theorem dX12_select_86 : decode cX12_select 86 = .ok (.iinc 4 1, 3) := by decide +kernel
theorem dX12_select_89 : decode cX12_select 89 = .ok (.goto (-66), 3) := by decide +kernel
theorem dX12_select_92 : decode cX12_select 92 = .ok (.aload_n 0, 1) := by decide +kernel
theorem dX12_select_93 : decode cX12_select 93 = .ok (.invokevirtual 172, 3) := by decide +kernel
theorem dX12_select_96 : decode cX12_select 96 = .ok (.invokestatic 176, 3) := by decide +kernel
theorem dX12_select_99 : decode cX12_select 99 = .ok (.ireturn, 1) := by decide +kernel
theorem dX12_selected_0 : decode cX12_selected 0 = .ok (.aload_n 0, 1) := by decide +kernel
theorem dX12_selected_1 : decode cX12_selected 1 = .ok (.invokevirtual 172, 3) := by decide +kernel
theorem dX12_selected_4 : decode cX12_selected 4 = .ok (.ireturn, 1) := by decide +kernel
theorem dX12_widens_0 : decode cX12_widens 0 = .ok (.iconst 0, 1) := by decide +kernel
theorem dX12_widens_1 : decode cX12_widens 1 = .ok (.istore_n 3, 1) := by decide +kernel
theorem dX12_widens_2 : decode cX12_widens 2 = .ok (.iload_n 3, 1) := by decide +kernel
theorem dX12_widens_3 : decode cX12_widens 3 = .ok (.iconst 2, 1) := by decide +kernel
theorem dX12_widens_4 : decode cX12_widens 4 = .ok (.if_icmp .ge 94, 3) := by decide +kernel
theorem dX12_widens_7 : decode cX12_widens 7 = .ok (.iconst 2, 1) := by decide +kernel
theorem dX12_widens_8 : decode cX12_widens 8 = .ok (.iload_n 1, 1) := by decide +kernel
theorem dX12_widens_9 : decode cX12_widens 9 = .ok (.imul, 1) := by decide +kernel
theorem dX12_widens_10 : decode cX12_widens 10 = .ok (.iload_n 3, 1) := by decide +kernel
theorem dX12_widens_11 : decode cX12_widens 11 = .ok (.iadd, 1) := by decide +kernel
theorem dX12_widens_12 : decode cX12_widens 12 = .ok (.istore 4, 2) := by decide +kernel
theorem dX12_widens_14 : decode cX12_widens 14 = .ok (.aload_n 0, 1) := by decide +kernel
theorem dX12_widens_15 : decode cX12_widens 15 = .ok (.getfield 28, 3) := by decide +kernel
theorem dX12_widens_18 : decode cX12_widens 18 = .ok (.iload 4, 2) := by decide +kernel
theorem dX12_widens_20 : decode cX12_widens 20 = .ok (.aload_n 0, 1) := by decide +kernel
theorem dX12_widens_21 : decode cX12_widens 21 = .ok (.iload_n 2, 1) := by decide +kernel
theorem dX12_widens_22 : decode cX12_widens 22 = .ok (.iload_n 3, 1) := by decide +kernel
theorem dX12_widens_23 : decode cX12_widens 23 = .ok (.invokevirtual 124, 3) := by decide +kernel
theorem dX12_widens_26 : decode cX12_widens 26 = .ok (.aload_n 0, 1) := by decide +kernel
theorem dX12_widens_27 : decode cX12_widens 27 = .ok (.getfield 28, 3) := by decide +kernel
theorem dX12_widens_30 : decode cX12_widens 30 = .ok (.iload 4, 2) := by decide +kernel
theorem dX12_widens_32 : decode cX12_widens 32 = .ok (.iaload, 1) := by decide +kernel
theorem dX12_widens_33 : decode cX12_widens 33 = .ok (.if_icmp .ge 12, 3) := by decide +kernel
theorem dX12_widens_36 : decode cX12_widens 36 = .ok (.aload_n 0, 1) := by decide +kernel
theorem dX12_widens_37 : decode cX12_widens 37 = .ok (.iload_n 2, 1) := by decide +kernel
theorem dX12_widens_38 : decode cX12_widens 38 = .ok (.iload_n 3, 1) := by decide +kernel
theorem dX12_widens_39 : decode cX12_widens 39 = .ok (.invokevirtual 124, 3) := by decide +kernel
theorem dX12_widens_42 : decode cX12_widens 42 = .ok (.goto 10, 3) := by decide +kernel
theorem dX12_widens_45 : decode cX12_widens 45 = .ok (.aload_n 0, 1) := by decide +kernel
theorem dX12_widens_46 : decode cX12_widens 46 = .ok (.getfield 28, 3) := by decide +kernel
theorem dX12_widens_49 : decode cX12_widens 49 = .ok (.iload 4, 2) := by decide +kernel
theorem dX12_widens_51 : decode cX12_widens 51 = .ok (.iaload, 1) := by decide +kernel
theorem dX12_widens_52 : decode cX12_widens 52 = .ok (.iastore, 1) := by decide +kernel
theorem dX12_widens_53 : decode cX12_widens 53 = .ok (.aload_n 0, 1) := by decide +kernel
theorem dX12_widens_54 : decode cX12_widens 54 = .ok (.getfield 31, 3) := by decide +kernel
theorem dX12_widens_57 : decode cX12_widens 57 = .ok (.iload 4, 2) := by decide +kernel
theorem dX12_widens_59 : decode cX12_widens 59 = .ok (.aload_n 0, 1) := by decide +kernel
theorem dX12_widens_60 : decode cX12_widens 60 = .ok (.iload_n 2, 1) := by decide +kernel
theorem dX12_widens_61 : decode cX12_widens 61 = .ok (.iload_n 3, 1) := by decide +kernel
theorem dX12_widens_62 : decode cX12_widens 62 = .ok (.invokevirtual 127, 3) := by decide +kernel
theorem dX12_widens_65 : decode cX12_widens 65 = .ok (.aload_n 0, 1) := by decide +kernel
theorem dX12_widens_66 : decode cX12_widens 66 = .ok (.getfield 31, 3) := by decide +kernel
theorem dX12_widens_69 : decode cX12_widens 69 = .ok (.iload 4, 2) := by decide +kernel
theorem dX12_widens_71 : decode cX12_widens 71 = .ok (.iaload, 1) := by decide +kernel
theorem dX12_widens_72 : decode cX12_widens 72 = .ok (.if_icmp .le 12, 3) := by decide +kernel
theorem dX12_widens_75 : decode cX12_widens 75 = .ok (.aload_n 0, 1) := by decide +kernel
theorem dX12_widens_76 : decode cX12_widens 76 = .ok (.iload_n 2, 1) := by decide +kernel
theorem dX12_widens_77 : decode cX12_widens 77 = .ok (.iload_n 3, 1) := by decide +kernel
theorem dX12_widens_78 : decode cX12_widens 78 = .ok (.invokevirtual 127, 3) := by decide +kernel
theorem dX12_widens_81 : decode cX12_widens 81 = .ok (.goto 10, 3) := by decide +kernel
theorem dX12_widens_84 : decode cX12_widens 84 = .ok (.aload_n 0, 1) := by decide +kernel
theorem dX12_widens_85 : decode cX12_widens 85 = .ok (.getfield 31, 3) := by decide +kernel
theorem dX12_widens_88 : decode cX12_widens 88 = .ok (.iload 4, 2) := by decide +kernel
theorem dX12_widens_90 : decode cX12_widens 90 = .ok (.iaload, 1) := by decide +kernel
theorem dX12_widens_91 : decode cX12_widens 91 = .ok (.iastore, 1) := by decide +kernel
theorem dX12_widens_92 : decode cX12_widens 92 = .ok (.iinc 3 1, 3) := by decide +kernel
theorem dX12_widens_95 : decode cX12_widens 95 = .ok (.goto (-93), 3) := by decide +kernel
theorem dX12_widens_98 : decode cX12_widens 98 = .ok (.return_, 1) := by decide +kernel
theorem dX12_clears_0 : decode cX12_clears 0 = .ok (.iconst 0, 1) := by decide +kernel
theorem dX12_clears_1 : decode cX12_clears 1 = .ok (.istore_n 2, 1) := by decide +kernel
theorem dX12_clears_2 : decode cX12_clears 2 = .ok (.iload_n 2, 1) := by decide +kernel
theorem dX12_clears_3 : decode cX12_clears 3 = .ok (.iconst 2, 1) := by decide +kernel
theorem dX12_clears_4 : decode cX12_clears 4 = .ok (.if_icmp .ge 33, 3) := by decide +kernel
theorem dX12_clears_7 : decode cX12_clears 7 = .ok (.aload_n 0, 1) := by decide +kernel
theorem dX12_clears_8 : decode cX12_clears 8 = .ok (.getfield 28, 3) := by decide +kernel
theorem dX12_clears_11 : decode cX12_clears 11 = .ok (.iconst 2, 1) := by decide +kernel
theorem dX12_clears_12 : decode cX12_clears 12 = .ok (.iload_n 1, 1) := by decide +kernel
theorem dX12_clears_13 : decode cX12_clears 13 = .ok (.imul, 1) := by decide +kernel
theorem dX12_clears_14 : decode cX12_clears 14 = .ok (.iload_n 2, 1) := by decide +kernel
theorem dX12_clears_15 : decode cX12_clears 15 = .ok (.iadd, 1) := by decide +kernel
theorem dX12_clears_16 : decode cX12_clears 16 = .ok (.ldc 179, 2) := by decide +kernel
theorem dX12_clears_18 : decode cX12_clears 18 = .ok (.iastore, 1) := by decide +kernel
theorem dX12_clears_19 : decode cX12_clears 19 = .ok (.aload_n 0, 1) := by decide +kernel
theorem dX12_clears_20 : decode cX12_clears 20 = .ok (.getfield 31, 3) := by decide +kernel
theorem dX12_clears_23 : decode cX12_clears 23 = .ok (.iconst 2, 1) := by decide +kernel
theorem dX12_clears_24 : decode cX12_clears 24 = .ok (.iload_n 1, 1) := by decide +kernel
theorem dX12_clears_25 : decode cX12_clears 25 = .ok (.imul, 1) := by decide +kernel
theorem dX12_clears_26 : decode cX12_clears 26 = .ok (.iload_n 2, 1) := by decide +kernel
theorem dX12_clears_27 : decode cX12_clears 27 = .ok (.iadd, 1) := by decide +kernel
theorem dX12_clears_28 : decode cX12_clears 28 = .ok (.ldc 180, 2) := by decide +kernel
theorem dX12_clears_30 : decode cX12_clears 30 = .ok (.iastore, 1) := by decide +kernel
theorem dX12_clears_31 : decode cX12_clears 31 = .ok (.iinc 2 1, 3) := by decide +kernel
theorem dX12_clears_34 : decode cX12_clears 34 = .ok (.goto (-32), 3) := by decide +kernel
theorem dX12_clears_37 : decode cX12_clears 37 = .ok (.return_, 1) := by decide +kernel
theorem dX12_gathers_0 : decode cX12_gathers 0 = .ok (.aload_n 0, 1) := by decide +kernel
theorem dX12_gathers_1 : decode cX12_gathers 1 = .ok (.iconst 0, 1) := by decide +kernel
theorem dX12_gathers_2 : decode cX12_gathers 2 = .ok (.putfield 181, 3) := by decide +kernel
theorem dX12_gathers_5 : decode cX12_gathers 5 = .ok (.aload_n 0, 1) := by decide +kernel
theorem dX12_gathers_6 : decode cX12_gathers 6 = .ok (.bipush 20, 2) := by decide +kernel
theorem dX12_gathers_8 : decode cX12_gathers 8 = .ok (.invokevirtual 184, 3) := by decide +kernel
theorem dX12_gathers_11 : decode cX12_gathers 11 = .ok (.iconst 0, 1) := by decide +kernel
theorem dX12_gathers_12 : decode cX12_gathers 12 = .ok (.istore_n 1, 1) := by decide +kernel
theorem dX12_gathers_13 : decode cX12_gathers 13 = .ok (.iload_n 1, 1) := by decide +kernel
theorem dX12_gathers_14 : decode cX12_gathers 14 = .ok (.bipush 20, 2) := by decide +kernel
theorem dX12_gathers_16 : decode cX12_gathers 16 = .ok (.if_icmp .ge 122, 3) := by decide +kernel
theorem dX12_gathers_19 : decode cX12_gathers 19 = .ok (.aload_n 0, 1) := by decide +kernel
theorem dX12_gathers_20 : decode cX12_gathers 20 = .ok (.iload_n 1, 1) := by decide +kernel
theorem dX12_gathers_21 : decode cX12_gathers 21 = .ok (.invokevirtual 169, 3) := by decide +kernel
theorem dX12_gathers_24 : decode cX12_gathers 24 = .ok (.ifCond .eq 108, 3) := by decide +kernel
theorem dX12_gathers_27 : decode cX12_gathers 27 = .ok (.aload_n 0, 1) := by decide +kernel
theorem dX12_gathers_28 : decode cX12_gathers 28 = .ok (.iload_n 1, 1) := by decide +kernel
theorem dX12_gathers_29 : decode cX12_gathers 29 = .ok (.invokevirtual 114, 3) := by decide +kernel
theorem dX12_gathers_32 : decode cX12_gathers 32 = .ok (.istore_n 2, 1) := by decide +kernel
theorem dX12_gathers_33 : decode cX12_gathers 33 = .ok (.iconst 0, 1) := by decide +kernel
theorem dX12_gathers_34 : decode cX12_gathers 34 = .ok (.istore_n 3, 1) := by decide +kernel
theorem dX12_gathers_35 : decode cX12_gathers 35 = .ok (.iload_n 3, 1) := by decide +kernel
theorem dX12_gathers_36 : decode cX12_gathers 36 = .ok (.aload_n 0, 1) := by decide +kernel
theorem dX12_gathers_37 : decode cX12_gathers 37 = .ok (.getfield 181, 3) := by decide +kernel
theorem dX12_gathers_40 : decode cX12_gathers 40 = .ok (.if_icmp .ge 25, 3) := by decide +kernel
theorem dX12_gathers_43 : decode cX12_gathers 43 = .ok (.iload_n 2, 1) := by decide +kernel
theorem dX12_gathers_44 : decode cX12_gathers 44 = .ok (.ifCond .lt 15, 3) := by decide +kernel
theorem dX12_gathers_47 : decode cX12_gathers 47 = .ok (.aload_n 0, 1) := by decide +kernel
theorem dX12_gathers_48 : decode cX12_gathers 48 = .ok (.getfield 22, 3) := by decide +kernel
theorem dX12_gathers_51 : decode cX12_gathers 51 = .ok (.iload_n 3, 1) := by decide +kernel
theorem dX12_gathers_52 : decode cX12_gathers 52 = .ok (.iaload, 1) := by decide +kernel
theorem dX12_gathers_53 : decode cX12_gathers 53 = .ok (.iload_n 2, 1) := by decide +kernel
theorem dX12_gathers_54 : decode cX12_gathers 54 = .ok (.iconst 1, 1) := by decide +kernel
theorem dX12_gathers_55 : decode cX12_gathers 55 = .ok (.iadd, 1) := by decide +kernel
theorem dX12_gathers_56 : decode cX12_gathers 56 = .ok (.if_icmp .eq 9, 3) := by decide +kernel
theorem dX12_gathers_59 : decode cX12_gathers 59 = .ok (.iinc 3 1, 3) := by decide +kernel
theorem dX12_gathers_62 : decode cX12_gathers 62 = .ok (.goto (-27), 3) := by decide +kernel
theorem dX12_gathers_65 : decode cX12_gathers 65 = .ok (.iload_n 3, 1) := by decide +kernel
theorem dX12_gathers_66 : decode cX12_gathers 66 = .ok (.aload_n 0, 1) := by decide +kernel
theorem dX12_gathers_67 : decode cX12_gathers 67 = .ok (.getfield 181, 3) := by decide +kernel
theorem dX12_gathers_70 : decode cX12_gathers 70 = .ok (.if_icmp .ne 42, 3) := by decide +kernel
theorem dX12_gathers_73 : decode cX12_gathers 73 = .ok (.aload_n 0, 1) := by decide +kernel
theorem dX12_gathers_74 : decode cX12_gathers 74 = .ok (.getfield 22, 3) := by decide +kernel
theorem dX12_gathers_77 : decode cX12_gathers 77 = .ok (.iload_n 3, 1) := by decide +kernel
theorem dX12_gathers_78 : decode cX12_gathers 78 = .ok (.iload_n 2, 1) := by decide +kernel
theorem dX12_gathers_79 : decode cX12_gathers 79 = .ok (.ifCond .ge 7, 3) := by decide +kernel
theorem dX12_gathers_82 : decode cX12_gathers 82 = .ok (.iconst 0, 1) := by decide +kernel
theorem dX12_gathers_83 : decode cX12_gathers 83 = .ok (.goto 6, 3) := by decide +kernel
theorem dX12_gathers_86 : decode cX12_gathers 86 = .ok (.iload_n 2, 1) := by decide +kernel
theorem dX12_gathers_87 : decode cX12_gathers 87 = .ok (.iconst 1, 1) := by decide +kernel
theorem dX12_gathers_88 : decode cX12_gathers 88 = .ok (.iadd, 1) := by decide +kernel
theorem dX12_gathers_89 : decode cX12_gathers 89 = .ok (.iastore, 1) := by decide +kernel
theorem dX12_gathers_90 : decode cX12_gathers 90 = .ok (.aload_n 0, 1) := by decide +kernel
theorem dX12_gathers_91 : decode cX12_gathers 91 = .ok (.getfield 25, 3) := by decide +kernel
theorem dX12_gathers_94 : decode cX12_gathers 94 = .ok (.iload_n 3, 1) := by decide +kernel
theorem dX12_gathers_95 : decode cX12_gathers 95 = .ok (.iload_n 1, 1) := by decide +kernel
theorem dX12_gathers_96 : decode cX12_gathers 96 = .ok (.iastore, 1) := by decide +kernel
theorem dX12_gathers_97 : decode cX12_gathers 97 = .ok (.aload_n 0, 1) := by decide +kernel
theorem dX12_gathers_98 : decode cX12_gathers 98 = .ok (.iload_n 3, 1) := by decide +kernel
theorem dX12_gathers_99 : decode cX12_gathers 99 = .ok (.invokevirtual 184, 3) := by decide +kernel
theorem dX12_gathers_102 : decode cX12_gathers 102 = .ok (.aload_n 0, 1) := by decide +kernel
theorem dX12_gathers_103 : decode cX12_gathers 103 = .ok (.dup, 1) := by decide +kernel
theorem dX12_gathers_104 : decode cX12_gathers 104 = .ok (.getfield 181, 3) := by decide +kernel
theorem dX12_gathers_107 : decode cX12_gathers 107 = .ok (.iconst 1, 1) := by decide +kernel
theorem dX12_gathers_108 : decode cX12_gathers 108 = .ok (.iadd, 1) := by decide +kernel
theorem dX12_gathers_109 : decode cX12_gathers 109 = .ok (.putfield 181, 3) := by decide +kernel
theorem dX12_gathers_112 : decode cX12_gathers 112 = .ok (.aload_n 0, 1) := by decide +kernel
theorem dX12_gathers_113 : decode cX12_gathers 113 = .ok (.getfield 34, 3) := by decide +kernel
theorem dX12_gathers_116 : decode cX12_gathers 116 = .ok (.iload_n 1, 1) := by decide +kernel
theorem dX12_gathers_117 : decode cX12_gathers 117 = .ok (.iload_n 3, 1) := by decide +kernel
theorem dX12_gathers_118 : decode cX12_gathers 118 = .ok (.iastore, 1) := by decide +kernel
theorem dX12_gathers_119 : decode cX12_gathers 119 = .ok (.aload_n 0, 1) := by decide +kernel
theorem dX12_gathers_120 : decode cX12_gathers 120 = .ok (.iload_n 3, 1) := by decide +kernel
theorem dX12_gathers_121 : decode cX12_gathers 121 = .ok (.iload_n 1, 1) := by decide +kernel
theorem dX12_gathers_122 : decode cX12_gathers 122 = .ok (.invokevirtual 187, 3) := by decide +kernel
theorem dX12_gathers_125 : decode cX12_gathers 125 = .ok (.aload_n 0, 1) := by decide +kernel
theorem dX12_gathers_126 : decode cX12_gathers 126 = .ok (.bipush 20, 2) := by decide +kernel
theorem dX12_gathers_128 : decode cX12_gathers 128 = .ok (.iload_n 1, 1) := by decide +kernel
theorem dX12_gathers_129 : decode cX12_gathers 129 = .ok (.invokevirtual 187, 3) := by decide +kernel
theorem dX12_gathers_132 : decode cX12_gathers 132 = .ok (.iinc 1 1, 3) := by decide +kernel
theorem dX12_gathers_135 : decode cX12_gathers 135 = .ok (.goto (-122), 3) := by decide +kernel
theorem dX12_gathers_138 : decode cX12_gathers 138 = .ok (.return_, 1) := by decide +kernel
theorem dX12_group_0 : decode cX12_group 0 = .ok (.aload_n 0, 1) := by decide +kernel
theorem dX12_group_1 : decode cX12_group 1 = .ok (.invokevirtual 190, 3) := by decide +kernel
theorem dX12_group_4 : decode cX12_group 4 = .ok (.aload_n 0, 1) := by decide +kernel
theorem dX12_group_5 : decode cX12_group 5 = .ok (.getfield 181, 3) := by decide +kernel
theorem dX12_group_8 : decode cX12_group 8 = .ok (.iconst 2, 1) := by decide +kernel
theorem dX12_group_9 : decode cX12_group 9 = .ok (.if_icmp .ge 6, 3) := by decide +kernel
theorem dX12_group_12 : decode cX12_group 12 = .ok (.bipush (-2), 2) := by decide +kernel
theorem dX12_group_14 : decode cX12_group 14 = .ok (.ireturn, 1) := by decide +kernel
theorem dX12_group_15 : decode cX12_group 15 = .ok (.iconst 0, 1) := by decide +kernel
theorem dX12_group_16 : decode cX12_group 16 = .ok (.istore_n 1, 1) := by decide +kernel
theorem dX12_group_17 : decode cX12_group 17 = .ok (.iload_n 1, 1) := by decide +kernel
theorem dX12_group_18 : decode cX12_group 18 = .ok (.bipush 8, 2) := by decide +kernel
theorem dX12_group_20 : decode cX12_group 20 = .ok (.if_icmp .ge 17, 3) := by decide +kernel
theorem dX12_group_23 : decode cX12_group 23 = .ok (.aload_n 0, 1) := by decide +kernel
theorem dX12_group_24 : decode cX12_group 24 = .ok (.iload_n 1, 1) := by decide +kernel
theorem dX12_group_25 : decode cX12_group 25 = .ok (.invokevirtual 78, 3) := by decide +kernel
theorem dX12_group_28 : decode cX12_group 28 = .ok (.ifCond .eq 9, 3) := by decide +kernel
theorem dX12_group_31 : decode cX12_group 31 = .ok (.iinc 1 1, 3) := by decide +kernel
theorem dX12_group_34 : decode cX12_group 34 = .ok (.goto (-17), 3) := by decide +kernel
theorem dX12_group_37 : decode cX12_group 37 = .ok (.iload_n 1, 1) := by decide +kernel
theorem dX12_group_38 : decode cX12_group 38 = .ok (.bipush 8, 2) := by decide +kernel
theorem dX12_group_40 : decode cX12_group 40 = .ok (.if_icmp .ne 6, 3) := by decide +kernel
theorem dX12_group_43 : decode cX12_group 43 = .ok (.bipush (-3), 2) := by decide +kernel
theorem dX12_group_45 : decode cX12_group 45 = .ok (.ireturn, 1) := by decide +kernel
theorem dX12_group_46 : decode cX12_group 46 = .ok (.aload_n 0, 1) := by decide +kernel
theorem dX12_group_47 : decode cX12_group 47 = .ok (.invokevirtual 91, 3) := by decide +kernel
theorem dX12_group_50 : decode cX12_group 50 = .ok (.aload_n 0, 1) := by decide +kernel
theorem dX12_group_51 : decode cX12_group 51 = .ok (.getfield 7, 3) := by decide +kernel
theorem dX12_group_54 : decode cX12_group 54 = .ok (.sipush 290, 3) := by decide +kernel
theorem dX12_group_57 : decode cX12_group 57 = .ok (.iconst 2, 1) := by decide +kernel
theorem dX12_group_58 : decode cX12_group 58 = .ok (.iload_n 1, 1) := by decide +kernel
theorem dX12_group_59 : decode cX12_group 59 = .ok (.imul, 1) := by decide +kernel
theorem dX12_group_60 : decode cX12_group 60 = .ok (.iadd, 1) := by decide +kernel
theorem dX12_group_61 : decode cX12_group 61 = .ok (.iconst 1, 1) := by decide +kernel
theorem dX12_group_62 : decode cX12_group 62 = .ok (.iastore, 1) := by decide +kernel
theorem dX12_group_63 : decode cX12_group 63 = .ok (.aload_n 0, 1) := by decide +kernel
theorem dX12_group_64 : decode cX12_group 64 = .ok (.getfield 7, 3) := by decide +kernel
theorem dX12_group_67 : decode cX12_group 67 = .ok (.sipush 290, 3) := by decide +kernel
theorem dX12_group_70 : decode cX12_group 70 = .ok (.iconst 2, 1) := by decide +kernel
theorem dX12_group_71 : decode cX12_group 71 = .ok (.iload_n 1, 1) := by decide +kernel
theorem dX12_group_72 : decode cX12_group 72 = .ok (.imul, 1) := by decide +kernel
theorem dX12_group_73 : decode cX12_group 73 = .ok (.iadd, 1) := by decide +kernel
theorem dX12_group_74 : decode cX12_group 74 = .ok (.iconst 1, 1) := by decide +kernel
theorem dX12_group_75 : decode cX12_group 75 = .ok (.iadd, 1) := by decide +kernel
theorem dX12_group_76 : decode cX12_group 76 = .ok (.iconst 0, 1) := by decide +kernel
theorem dX12_group_77 : decode cX12_group 77 = .ok (.iastore, 1) := by decide +kernel
theorem dX12_group_78 : decode cX12_group 78 = .ok (.iconst 0, 1) := by decide +kernel
theorem dX12_group_79 : decode cX12_group 79 = .ok (.istore_n 2, 1) := by decide +kernel
theorem dX12_group_80 : decode cX12_group 80 = .ok (.iload_n 2, 1) := by decide +kernel
theorem dX12_group_81 : decode cX12_group 81 = .ok (.aload_n 0, 1) := by decide +kernel
theorem dX12_group_82 : decode cX12_group 82 = .ok (.getfield 181, 3) := by decide +kernel
theorem dX12_group_85 : decode cX12_group 85 = .ok (.if_icmp .ge 66, 3) := by decide +kernel
theorem dX12_group_88 : decode cX12_group 88 = .ok (.aload_n 0, 1) := by decide +kernel
theorem dX12_group_89 : decode cX12_group 89 = .ok (.getfield 22, 3) := by decide +kernel
theorem dX12_group_92 : decode cX12_group 92 = .ok (.iload_n 2, 1) := by decide +kernel
theorem dX12_group_93 : decode cX12_group 93 = .ok (.iaload, 1) := by decide +kernel
theorem dX12_group_94 : decode cX12_group 94 = .ok (.ifCond .le 28, 3) := by decide +kernel
theorem dX12_group_97 : decode cX12_group 97 = .ok (.aload_n 0, 1) := by decide +kernel
theorem dX12_group_98 : decode cX12_group 98 = .ok (.getfield 7, 3) := by decide +kernel
theorem dX12_group_101 : decode cX12_group 101 = .ok (.sipush 290, 3) := by decide +kernel
theorem dX12_group_104 : decode cX12_group 104 = .ok (.iconst 2, 1) := by decide +kernel
theorem dX12_group_105 : decode cX12_group 105 = .ok (.aload_n 0, 1) := by decide +kernel
theorem dX12_group_106 : decode cX12_group 106 = .ok (.getfield 22, 3) := by decide +kernel
theorem dX12_group_109 : decode cX12_group 109 = .ok (.iload_n 2, 1) := by decide +kernel
theorem dX12_group_110 : decode cX12_group 110 = .ok (.iaload, 1) := by decide +kernel
theorem dX12_group_111 : decode cX12_group 111 = .ok (.imul, 1) := by decide +kernel
theorem dX12_group_112 : decode cX12_group 112 = .ok (.iadd, 1) := by decide +kernel
theorem dX12_group_113 : decode cX12_group 113 = .ok (.iconst 1, 1) := by decide +kernel
theorem dX12_group_114 : decode cX12_group 114 = .ok (.isub, 1) := by decide +kernel
theorem dX12_group_115 : decode cX12_group 115 = .ok (.iload_n 1, 1) := by decide +kernel
theorem dX12_group_116 : decode cX12_group 116 = .ok (.iconst 1, 1) := by decide +kernel
theorem dX12_group_117 : decode cX12_group 117 = .ok (.iadd, 1) := by decide +kernel
theorem dX12_group_118 : decode cX12_group 118 = .ok (.iastore, 1) := by decide +kernel
theorem dX12_group_119 : decode cX12_group 119 = .ok (.goto 26, 3) := by decide +kernel
theorem dX12_group_122 : decode cX12_group 122 = .ok (.aload_n 0, 1) := by decide +kernel
theorem dX12_group_123 : decode cX12_group 123 = .ok (.getfield 7, 3) := by decide +kernel
theorem dX12_group_126 : decode cX12_group 126 = .ok (.bipush 10, 2) := by decide +kernel
theorem dX12_group_128 : decode cX12_group 128 = .ok (.bipush 8, 2) := by decide +kernel
theorem dX12_group_130 : decode cX12_group 130 = .ok (.aload_n 0, 1) := by decide +kernel
theorem dX12_group_131 : decode cX12_group 131 = .ok (.getfield 25, 3) := by decide +kernel
theorem dX12_group_134 : decode cX12_group 134 = .ok (.iload_n 2, 1) := by decide +kernel
theorem dX12_group_135 : decode cX12_group 135 = .ok (.iaload, 1) := by decide +kernel
theorem dX12_group_136 : decode cX12_group 136 = .ok (.imul, 1) := by decide +kernel
theorem dX12_group_137 : decode cX12_group 137 = .ok (.iadd, 1) := by decide +kernel
theorem dX12_group_138 : decode cX12_group 138 = .ok (.bipush 7, 2) := by decide +kernel
theorem dX12_group_140 : decode cX12_group 140 = .ok (.iadd, 1) := by decide +kernel
theorem dX12_group_141 : decode cX12_group 141 = .ok (.iload_n 1, 1) := by decide +kernel
theorem dX12_group_142 : decode cX12_group 142 = .ok (.iconst 1, 1) := by decide +kernel
theorem dX12_group_143 : decode cX12_group 143 = .ok (.iadd, 1) := by decide +kernel
theorem dX12_group_144 : decode cX12_group 144 = .ok (.iastore, 1) := by decide +kernel
theorem dX12_group_145 : decode cX12_group 145 = .ok (.iinc 2 1, 3) := by decide +kernel
theorem dX12_group_148 : decode cX12_group 148 = .ok (.goto (-68), 3) := by decide +kernel
theorem dX12_group_151 : decode cX12_group 151 = .ok (.iload_n 1, 1) := by decide +kernel
theorem dX12_group_152 : decode cX12_group 152 = .ok (.ireturn, 1) := by decide +kernel
theorem dX12_ungroup_0 : decode cX12_ungroup 0 = .ok (.aload_n 0, 1) := by decide +kernel
theorem dX12_ungroup_1 : decode cX12_ungroup 1 = .ok (.iload_n 1, 1) := by decide +kernel
theorem dX12_ungroup_2 : decode cX12_ungroup 2 = .ok (.invokevirtual 78, 3) := by decide +kernel
theorem dX12_ungroup_5 : decode cX12_ungroup 5 = .ok (.ifCond .ne 5, 3) := by decide +kernel
theorem dX12_ungroup_8 : decode cX12_ungroup 8 = .ok (.iconst (-1), 1) := by decide +kernel
theorem dX12_ungroup_9 : decode cX12_ungroup 9 = .ok (.ireturn, 1) := by decide +kernel
theorem dX12_ungroup_10 : decode cX12_ungroup 10 = .ok (.aload_n 0, 1) := by decide +kernel
theorem dX12_ungroup_11 : decode cX12_ungroup 11 = .ok (.invokevirtual 91, 3) := by decide +kernel
theorem dX12_ungroup_14 : decode cX12_ungroup 14 = .ok (.iconst 0, 1) := by decide +kernel
theorem dX12_ungroup_15 : decode cX12_ungroup 15 = .ok (.istore_n 2, 1) := by decide +kernel
theorem dX12_ungroup_16 : decode cX12_ungroup 16 = .ok (.aload_n 0, 1) := by decide +kernel
theorem dX12_ungroup_17 : decode cX12_ungroup 17 = .ok (.iload_n 1, 1) := by decide +kernel
theorem dX12_ungroup_18 : decode cX12_ungroup 18 = .ok (.invokevirtual 71, 3) := by decide +kernel
theorem dX12_ungroup_21 : decode cX12_ungroup 21 = .ok (.iconst 1, 1) := by decide +kernel
theorem dX12_ungroup_22 : decode cX12_ungroup 22 = .ok (.iadd, 1) := by decide +kernel
theorem dX12_ungroup_23 : decode cX12_ungroup 23 = .ok (.istore_n 3, 1) := by decide +kernel
theorem dX12_ungroup_24 : decode cX12_ungroup 24 = .ok (.iconst 0, 1) := by decide +kernel
theorem dX12_ungroup_25 : decode cX12_ungroup 25 = .ok (.istore 4, 2) := by decide +kernel
theorem dX12_ungroup_27 : decode cX12_ungroup 27 = .ok (.iload 4, 2) := by decide +kernel
theorem dX12_ungroup_29 : decode cX12_ungroup 29 = .ok (.bipush 20, 2) := by decide +kernel
theorem dX12_ungroup_31 : decode cX12_ungroup 31 = .ok (.if_icmp .ge 50, 3) := by decide +kernel
theorem dX12_ungroup_34 : decode cX12_ungroup 34 = .ok (.aload_n 0, 1) := by decide +kernel
theorem dX12_ungroup_35 : decode cX12_ungroup 35 = .ok (.iload 4, 2) := by decide +kernel
theorem dX12_ungroup_37 : decode cX12_ungroup 37 = .ok (.iconst 0, 1) := by decide +kernel
theorem dX12_ungroup_38 : decode cX12_ungroup 38 = .ok (.invokevirtual 63, 3) := by decide +kernel
theorem dX12_ungroup_41 : decode cX12_ungroup 41 = .ok (.iconst 1, 1) := by decide +kernel
theorem dX12_ungroup_42 : decode cX12_ungroup 42 = .ok (.if_icmp .ne 33, 3) := by decide +kernel
theorem dX12_ungroup_45 : decode cX12_ungroup 45 = .ok (.aload_n 0, 1) := by decide +kernel
theorem dX12_ungroup_46 : decode cX12_ungroup 46 = .ok (.iload 4, 2) := by decide +kernel
theorem dX12_ungroup_48 : decode cX12_ungroup 48 = .ok (.invokevirtual 67, 3) := by decide +kernel
theorem dX12_ungroup_51 : decode cX12_ungroup 51 = .ok (.iload_n 1, 1) := by decide +kernel
theorem dX12_ungroup_52 : decode cX12_ungroup 52 = .ok (.if_icmp .ne 23, 3) := by decide +kernel
theorem dX12_ungroup_55 : decode cX12_ungroup 55 = .ok (.aload_n 0, 1) := by decide +kernel
theorem dX12_ungroup_56 : decode cX12_ungroup 56 = .ok (.getfield 7, 3) := by decide +kernel
theorem dX12_ungroup_59 : decode cX12_ungroup 59 = .ok (.bipush 10, 2) := by decide +kernel
theorem dX12_ungroup_61 : decode cX12_ungroup 61 = .ok (.bipush 8, 2) := by decide +kernel
theorem dX12_ungroup_63 : decode cX12_ungroup 63 = .ok (.iload 4, 2) := by decide +kernel
theorem dX12_ungroup_65 : decode cX12_ungroup 65 = .ok (.imul, 1) := by decide +kernel
theorem dX12_ungroup_66 : decode cX12_ungroup 66 = .ok (.iadd, 1) := by decide +kernel
theorem dX12_ungroup_67 : decode cX12_ungroup 67 = .ok (.bipush 7, 2) := by decide +kernel
theorem dX12_ungroup_69 : decode cX12_ungroup 69 = .ok (.iadd, 1) := by decide +kernel
theorem dX12_ungroup_70 : decode cX12_ungroup 70 = .ok (.iload_n 3, 1) := by decide +kernel
theorem dX12_ungroup_71 : decode cX12_ungroup 71 = .ok (.iastore, 1) := by decide +kernel
theorem dX12_ungroup_72 : decode cX12_ungroup 72 = .ok (.iinc 2 1, 3) := by decide +kernel
theorem dX12_ungroup_75 : decode cX12_ungroup 75 = .ok (.iinc 4 1, 3) := by decide +kernel
theorem dX12_ungroup_78 : decode cX12_ungroup 78 = .ok (.goto (-51), 3) := by decide +kernel
theorem dX12_ungroup_81 : decode cX12_ungroup 81 = .ok (.iconst 0, 1) := by decide +kernel
theorem dX12_ungroup_82 : decode cX12_ungroup 82 = .ok (.istore 4, 2) := by decide +kernel
theorem dX12_ungroup_84 : decode cX12_ungroup 84 = .ok (.iload 4, 2) := by decide +kernel
theorem dX12_ungroup_86 : decode cX12_ungroup 86 = .ok (.bipush 8, 2) := by decide +kernel
theorem dX12_ungroup_88 : decode cX12_ungroup 88 = .ok (.if_icmp .ge 47, 3) := by decide +kernel
theorem dX12_ungroup_91 : decode cX12_ungroup 91 = .ok (.aload_n 0, 1) := by decide +kernel
theorem dX12_ungroup_92 : decode cX12_ungroup 92 = .ok (.iload 4, 2) := by decide +kernel
theorem dX12_ungroup_94 : decode cX12_ungroup 94 = .ok (.invokevirtual 78, 3) := by decide +kernel
theorem dX12_ungroup_97 : decode cX12_ungroup 97 = .ok (.ifCond .eq 32, 3) := by decide +kernel
theorem dX12_ungroup_100 : decode cX12_ungroup 100 = .ok (.aload_n 0, 1) := by decide +kernel
theorem dX12_ungroup_101 : decode cX12_ungroup 101 = .ok (.iload 4, 2) := by decide +kernel
theorem dX12_ungroup_103 : decode cX12_ungroup 103 = .ok (.invokevirtual 71, 3) := by decide +kernel
theorem dX12_ungroup_106 : decode cX12_ungroup 106 = .ok (.iload_n 1, 1) := by decide +kernel
theorem dX12_ungroup_107 : decode cX12_ungroup 107 = .ok (.if_icmp .ne 22, 3) := by decide +kernel
theorem dX12_ungroup_110 : decode cX12_ungroup 110 = .ok (.aload_n 0, 1) := by decide +kernel
theorem dX12_ungroup_111 : decode cX12_ungroup 111 = .ok (.getfield 7, 3) := by decide +kernel
theorem dX12_ungroup_114 : decode cX12_ungroup 114 = .ok (.sipush 290, 3) := by decide +kernel
theorem dX12_ungroup_117 : decode cX12_ungroup 117 = .ok (.iconst 2, 1) := by decide +kernel
theorem dX12_ungroup_118 : decode cX12_ungroup 118 = .ok (.iload 4, 2) := by decide +kernel
theorem dX12_ungroup_120 : decode cX12_ungroup 120 = .ok (.imul, 1) := by decide +kernel
theorem dX12_ungroup_121 : decode cX12_ungroup 121 = .ok (.iadd, 1) := by decide +kernel
theorem dX12_ungroup_122 : decode cX12_ungroup 122 = .ok (.iconst 1, 1) := by decide +kernel
theorem dX12_ungroup_123 : decode cX12_ungroup 123 = .ok (.iadd, 1) := by decide +kernel
theorem dX12_ungroup_124 : decode cX12_ungroup 124 = .ok (.iload_n 3, 1) := by decide +kernel
theorem dX12_ungroup_125 : decode cX12_ungroup 125 = .ok (.iastore, 1) := by decide +kernel
theorem dX12_ungroup_126 : decode cX12_ungroup 126 = .ok (.iinc 2 1, 3) := by decide +kernel
theorem dX12_ungroup_129 : decode cX12_ungroup 129 = .ok (.iinc 4 1, 3) := by decide +kernel
theorem dX12_ungroup_132 : decode cX12_ungroup 132 = .ok (.goto (-48), 3) := by decide +kernel
theorem dX12_ungroup_135 : decode cX12_ungroup 135 = .ok (.aload_n 0, 1) := by decide +kernel
theorem dX12_ungroup_136 : decode cX12_ungroup 136 = .ok (.getfield 7, 3) := by decide +kernel
theorem dX12_ungroup_139 : decode cX12_ungroup 139 = .ok (.sipush 290, 3) := by decide +kernel
theorem dX12_ungroup_142 : decode cX12_ungroup 142 = .ok (.iconst 2, 1) := by decide +kernel
theorem dX12_ungroup_143 : decode cX12_ungroup 143 = .ok (.iload_n 1, 1) := by decide +kernel
theorem dX12_ungroup_144 : decode cX12_ungroup 144 = .ok (.imul, 1) := by decide +kernel
theorem dX12_ungroup_145 : decode cX12_ungroup 145 = .ok (.iadd, 1) := by decide +kernel
theorem dX12_ungroup_146 : decode cX12_ungroup 146 = .ok (.iconst 0, 1) := by decide +kernel
theorem dX12_ungroup_147 : decode cX12_ungroup 147 = .ok (.iastore, 1) := by decide +kernel
theorem dX12_ungroup_148 : decode cX12_ungroup 148 = .ok (.iload_n 2, 1) := by decide +kernel
theorem dX12_ungroup_149 : decode cX12_ungroup 149 = .ok (.ireturn, 1) := by decide +kernel
theorem dX12_shapesOf_0 : decode cX12_shapesOf 0 = .ok (.aload_n 0, 1) := by decide +kernel
theorem dX12_shapesOf_1 : decode cX12_shapesOf 1 = .ok (.iload_n 1, 1) := by decide +kernel
theorem dX12_shapesOf_2 : decode cX12_shapesOf 2 = .ok (.invokevirtual 78, 3) := by decide +kernel
theorem dX12_shapesOf_5 : decode cX12_shapesOf 5 = .ok (.ifCond .eq 11, 3) := by decide +kernel
theorem dX12_shapesOf_8 : decode cX12_shapesOf 8 = .ok (.aload_n 0, 1) := by decide +kernel
theorem dX12_shapesOf_9 : decode cX12_shapesOf 9 = .ok (.iload_n 1, 1) := by decide +kernel
theorem dX12_shapesOf_10 : decode cX12_shapesOf 10 = .ok (.invokevirtual 82, 3) := by decide +kernel
theorem dX12_shapesOf_13 : decode cX12_shapesOf 13 = .ok (.goto 4, 3) := by decide +kernel
theorem dX12_shapesOf_16 : decode cX12_shapesOf 16 = .ok (.iconst (-1), 1) := by decide +kernel
theorem dX12_shapesOf_17 : decode cX12_shapesOf 17 = .ok (.ireturn, 1) := by decide +kernel
theorem dX12_staysAll_0 : decode cX12_staysAll 0 = .ok (.iconst 0, 1) := by decide +kernel
theorem dX12_staysAll_1 : decode cX12_staysAll 1 = .ok (.istore_n 1, 1) := by decide +kernel
theorem dX12_staysAll_2 : decode cX12_staysAll 2 = .ok (.iload_n 1, 1) := by decide +kernel
theorem dX12_staysAll_3 : decode cX12_staysAll 3 = .ok (.bipush 20, 2) := by decide +kernel
theorem dX12_staysAll_5 : decode cX12_staysAll 5 = .ok (.if_icmp .ge 23, 3) := by decide +kernel
theorem dX12_staysAll_8 : decode cX12_staysAll 8 = .ok (.aload_n 0, 1) := by decide +kernel
theorem dX12_staysAll_9 : decode cX12_staysAll 9 = .ok (.getfield 37, 3) := by decide +kernel
theorem dX12_staysAll_12 : decode cX12_staysAll 12 = .ok (.iload_n 1, 1) := by decide +kernel
theorem dX12_staysAll_13 : decode cX12_staysAll 13 = .ok (.iconst 0, 1) := by decide +kernel
theorem dX12_staysAll_14 : decode cX12_staysAll 14 = .ok (.iastore, 1) := by decide +kernel
theorem dX12_staysAll_15 : decode cX12_staysAll 15 = .ok (.aload_n 0, 1) := by decide +kernel
theorem dX12_staysAll_16 : decode cX12_staysAll 16 = .ok (.getfield 40, 3) := by decide +kernel
theorem dX12_staysAll_19 : decode cX12_staysAll 19 = .ok (.iload_n 1, 1) := by decide +kernel
theorem dX12_staysAll_20 : decode cX12_staysAll 20 = .ok (.iconst 0, 1) := by decide +kernel
theorem dX12_staysAll_21 : decode cX12_staysAll 21 = .ok (.iastore, 1) := by decide +kernel
theorem dX12_staysAll_22 : decode cX12_staysAll 22 = .ok (.iinc 1 1, 3) := by decide +kernel
theorem dX12_staysAll_25 : decode cX12_staysAll 25 = .ok (.goto (-23), 3) := by decide +kernel
theorem dX12_staysAll_28 : decode cX12_staysAll 28 = .ok (.return_, 1) := by decide +kernel
theorem dX12_isInside_0 : decode cX12_isInside 0 = .ok (.iconst 1, 1) := by decide +kernel
theorem dX12_isInside_1 : decode cX12_isInside 1 = .ok (.istore_n 1, 1) := by decide +kernel
theorem dX12_isInside_2 : decode cX12_isInside 2 = .ok (.iconst 0, 1) := by decide +kernel
theorem dX12_isInside_3 : decode cX12_isInside 3 = .ok (.istore_n 2, 1) := by decide +kernel
theorem dX12_isInside_4 : decode cX12_isInside 4 = .ok (.iload_n 2, 1) := by decide +kernel
theorem dX12_isInside_5 : decode cX12_isInside 5 = .ok (.bipush 20, 2) := by decide +kernel
theorem dX12_isInside_7 : decode cX12_isInside 7 = .ok (.if_icmp .ge 66, 3) := by decide +kernel
theorem dX12_isInside_10 : decode cX12_isInside 10 = .ok (.iload_n 1, 1) := by decide +kernel
theorem dX12_isInside_11 : decode cX12_isInside 11 = .ok (.ifCond .eq 54, 3) := by decide +kernel
theorem dX12_isInside_14 : decode cX12_isInside 14 = .ok (.aload_n 0, 1) := by decide +kernel
theorem dX12_isInside_15 : decode cX12_isInside 15 = .ok (.iload_n 2, 1) := by decide +kernel
theorem dX12_isInside_16 : decode cX12_isInside 16 = .ok (.iconst 0, 1) := by decide +kernel
theorem dX12_isInside_17 : decode cX12_isInside 17 = .ok (.invokevirtual 63, 3) := by decide +kernel
theorem dX12_isInside_20 : decode cX12_isInside 20 = .ok (.ifCond .eq 41, 3) := by decide +kernel
theorem dX12_isInside_23 : decode cX12_isInside 23 = .ok (.aload_n 0, 1) := by decide +kernel
theorem dX12_isInside_24 : decode cX12_isInside 24 = .ok (.iload_n 2, 1) := by decide +kernel
theorem dX12_isInside_25 : decode cX12_isInside 25 = .ok (.iconst 0, 1) := by decide +kernel
theorem dX12_isInside_26 : decode cX12_isInside 26 = .ok (.invokevirtual 124, 3) := by decide +kernel
theorem dX12_isInside_29 : decode cX12_isInside 29 = .ok (.aload_n 0, 1) := by decide +kernel
theorem dX12_isInside_30 : decode cX12_isInside 30 = .ok (.getfield 37, 3) := by decide +kernel
theorem dX12_isInside_33 : decode cX12_isInside 33 = .ok (.iload_n 2, 1) := by decide +kernel
theorem dX12_isInside_34 : decode cX12_isInside 34 = .ok (.iaload, 1) := by decide +kernel
theorem dX12_isInside_35 : decode cX12_isInside 35 = .ok (.iadd, 1) := by decide +kernel
theorem dX12_isInside_36 : decode cX12_isInside 36 = .ok (.invokestatic 85, 3) := by decide +kernel
theorem dX12_isInside_39 : decode cX12_isInside 39 = .ok (.ifCond .eq 26, 3) := by decide +kernel
theorem dX12_isInside_42 : decode cX12_isInside 42 = .ok (.aload_n 0, 1) := by decide +kernel
theorem dX12_isInside_43 : decode cX12_isInside 43 = .ok (.iload_n 2, 1) := by decide +kernel
theorem dX12_isInside_44 : decode cX12_isInside 44 = .ok (.iconst 1, 1) := by decide +kernel
theorem dX12_isInside_45 : decode cX12_isInside 45 = .ok (.invokevirtual 124, 3) := by decide +kernel
theorem dX12_isInside_48 : decode cX12_isInside 48 = .ok (.aload_n 0, 1) := by decide +kernel
theorem dX12_isInside_49 : decode cX12_isInside 49 = .ok (.getfield 40, 3) := by decide +kernel
theorem dX12_isInside_52 : decode cX12_isInside 52 = .ok (.iload_n 2, 1) := by decide +kernel
theorem dX12_isInside_53 : decode cX12_isInside 53 = .ok (.iaload, 1) := by decide +kernel
theorem dX12_isInside_54 : decode cX12_isInside 54 = .ok (.iadd, 1) := by decide +kernel
theorem dX12_isInside_55 : decode cX12_isInside 55 = .ok (.invokestatic 85, 3) := by decide +kernel
theorem dX12_isInside_58 : decode cX12_isInside 58 = .ok (.ifCond .eq 7, 3) := by decide +kernel
theorem dX12_isInside_61 : decode cX12_isInside 61 = .ok (.iconst 1, 1) := by decide +kernel
theorem dX12_isInside_62 : decode cX12_isInside 62 = .ok (.goto 4, 3) := by decide +kernel
theorem dX12_isInside_65 : decode cX12_isInside 65 = .ok (.iconst 0, 1) := by decide +kernel
theorem dX12_isInside_66 : decode cX12_isInside 66 = .ok (.istore_n 1, 1) := by decide +kernel
theorem dX12_isInside_67 : decode cX12_isInside 67 = .ok (.iinc 2 1, 3) := by decide +kernel
theorem dX12_isInside_70 : decode cX12_isInside 70 = .ok (.goto (-66), 3) := by decide +kernel
theorem dX12_isInside_73 : decode cX12_isInside 73 = .ok (.iload_n 1, 1) := by decide +kernel
theorem dX12_isInside_74 : decode cX12_isInside 74 = .ok (.ireturn, 1) := by decide +kernel
theorem dX12_movesAll_0 : decode cX12_movesAll 0 = .ok (.iconst 0, 1) := by decide +kernel
theorem dX12_movesAll_1 : decode cX12_movesAll 1 = .ok (.istore_n 1, 1) := by decide +kernel
theorem dX12_movesAll_2 : decode cX12_movesAll 2 = .ok (.iload_n 1, 1) := by decide +kernel
theorem dX12_movesAll_3 : decode cX12_movesAll 3 = .ok (.bipush 20, 2) := by decide +kernel
theorem dX12_movesAll_5 : decode cX12_movesAll 5 = .ok (.if_icmp .ge 55, 3) := by decide +kernel
theorem dX12_movesAll_8 : decode cX12_movesAll 8 = .ok (.aload_n 0, 1) := by decide +kernel
theorem dX12_movesAll_9 : decode cX12_movesAll 9 = .ok (.getfield 7, 3) := by decide +kernel
theorem dX12_movesAll_12 : decode cX12_movesAll 12 = .ok (.bipush 10, 2) := by decide +kernel
theorem dX12_movesAll_14 : decode cX12_movesAll 14 = .ok (.bipush 8, 2) := by decide +kernel
theorem dX12_movesAll_16 : decode cX12_movesAll 16 = .ok (.iload_n 1, 1) := by decide +kernel
theorem dX12_movesAll_17 : decode cX12_movesAll 17 = .ok (.imul, 1) := by decide +kernel
theorem dX12_movesAll_18 : decode cX12_movesAll 18 = .ok (.iadd, 1) := by decide +kernel
theorem dX12_movesAll_19 : decode cX12_movesAll 19 = .ok (.iconst 2, 1) := by decide +kernel
theorem dX12_movesAll_20 : decode cX12_movesAll 20 = .ok (.iadd, 1) := by decide +kernel
theorem dX12_movesAll_21 : decode cX12_movesAll 21 = .ok (.dup2, 1) := by decide +kernel
theorem dX12_movesAll_22 : decode cX12_movesAll 22 = .ok (.iaload, 1) := by decide +kernel
theorem dX12_movesAll_23 : decode cX12_movesAll 23 = .ok (.aload_n 0, 1) := by decide +kernel
theorem dX12_movesAll_24 : decode cX12_movesAll 24 = .ok (.getfield 37, 3) := by decide +kernel
theorem dX12_movesAll_27 : decode cX12_movesAll 27 = .ok (.iload_n 1, 1) := by decide +kernel
theorem dX12_movesAll_28 : decode cX12_movesAll 28 = .ok (.iaload, 1) := by decide +kernel
theorem dX12_movesAll_29 : decode cX12_movesAll 29 = .ok (.iadd, 1) := by decide +kernel
theorem dX12_movesAll_30 : decode cX12_movesAll 30 = .ok (.iastore, 1) := by decide +kernel
theorem dX12_movesAll_31 : decode cX12_movesAll 31 = .ok (.aload_n 0, 1) := by decide +kernel
theorem dX12_movesAll_32 : decode cX12_movesAll 32 = .ok (.getfield 7, 3) := by decide +kernel
theorem dX12_movesAll_35 : decode cX12_movesAll 35 = .ok (.bipush 10, 2) := by decide +kernel
theorem dX12_movesAll_37 : decode cX12_movesAll 37 = .ok (.bipush 8, 2) := by decide +kernel
theorem dX12_movesAll_39 : decode cX12_movesAll 39 = .ok (.iload_n 1, 1) := by decide +kernel
theorem dX12_movesAll_40 : decode cX12_movesAll 40 = .ok (.imul, 1) := by decide +kernel
theorem dX12_movesAll_41 : decode cX12_movesAll 41 = .ok (.iadd, 1) := by decide +kernel
theorem dX12_movesAll_42 : decode cX12_movesAll 42 = .ok (.iconst 3, 1) := by decide +kernel
theorem dX12_movesAll_43 : decode cX12_movesAll 43 = .ok (.iadd, 1) := by decide +kernel
theorem dX12_movesAll_44 : decode cX12_movesAll 44 = .ok (.dup2, 1) := by decide +kernel
theorem dX12_movesAll_45 : decode cX12_movesAll 45 = .ok (.iaload, 1) := by decide +kernel
theorem dX12_movesAll_46 : decode cX12_movesAll 46 = .ok (.aload_n 0, 1) := by decide +kernel
theorem dX12_movesAll_47 : decode cX12_movesAll 47 = .ok (.getfield 40, 3) := by decide +kernel
theorem dX12_movesAll_50 : decode cX12_movesAll 50 = .ok (.iload_n 1, 1) := by decide +kernel
theorem dX12_movesAll_51 : decode cX12_movesAll 51 = .ok (.iaload, 1) := by decide +kernel
theorem dX12_movesAll_52 : decode cX12_movesAll 52 = .ok (.iadd, 1) := by decide +kernel
theorem dX12_movesAll_53 : decode cX12_movesAll 53 = .ok (.iastore, 1) := by decide +kernel
theorem dX12_movesAll_54 : decode cX12_movesAll 54 = .ok (.iinc 1 1, 3) := by decide +kernel
theorem dX12_movesAll_57 : decode cX12_movesAll 57 = .ok (.goto (-55), 3) := by decide +kernel
theorem dX12_movesAll_60 : decode cX12_movesAll 60 = .ok (.return_, 1) := by decide +kernel
theorem dX12_isStep_0 : decode cX12_isStep 0 = .ok (.iload_n 0, 1) := by decide +kernel
theorem dX12_isStep_1 : decode cX12_isStep 1 = .ok (.sipush (-20000), 3) := by decide +kernel
theorem dX12_isStep_4 : decode cX12_isStep 4 = .ok (.sipush 20000, 3) := by decide +kernel
theorem dX12_isStep_7 : decode cX12_isStep 7 = .ok (.invokestatic 59, 3) := by decide +kernel
theorem dX12_isStep_10 : decode cX12_isStep 10 = .ok (.ireturn, 1) := by decide +kernel
theorem dX12_lays_0 : decode cX12_lays 0 = .ok (.iconst 0, 1) := by decide +kernel
theorem dX12_lays_1 : decode cX12_lays 1 = .ok (.istore_n 3, 1) := by decide +kernel
theorem dX12_lays_2 : decode cX12_lays 2 = .ok (.iload_n 3, 1) := by decide +kernel
theorem dX12_lays_3 : decode cX12_lays 3 = .ok (.bipush 20, 2) := by decide +kernel
theorem dX12_lays_5 : decode cX12_lays 5 = .ok (.if_icmp .ge 47, 3) := by decide +kernel
theorem dX12_lays_8 : decode cX12_lays 8 = .ok (.aload_n 0, 1) := by decide +kernel
theorem dX12_lays_9 : decode cX12_lays 9 = .ok (.getfield 37, 3) := by decide +kernel
theorem dX12_lays_12 : decode cX12_lays 12 = .ok (.iload_n 3, 1) := by decide +kernel
theorem dX12_lays_13 : decode cX12_lays 13 = .ok (.aload_n 0, 1) := by decide +kernel
theorem dX12_lays_14 : decode cX12_lays 14 = .ok (.iload_n 3, 1) := by decide +kernel
theorem dX12_lays_15 : decode cX12_lays 15 = .ok (.invokevirtual 169, 3) := by decide +kernel
theorem dX12_lays_18 : decode cX12_lays 18 = .ok (.ifCond .eq 7, 3) := by decide +kernel
theorem dX12_lays_21 : decode cX12_lays 21 = .ok (.iload_n 1, 1) := by decide +kernel
theorem dX12_lays_22 : decode cX12_lays 22 = .ok (.goto 4, 3) := by decide +kernel
theorem dX12_lays_25 : decode cX12_lays 25 = .ok (.iconst 0, 1) := by decide +kernel
theorem dX12_lays_26 : decode cX12_lays 26 = .ok (.iastore, 1) := by decide +kernel
theorem dX12_lays_27 : decode cX12_lays 27 = .ok (.aload_n 0, 1) := by decide +kernel
theorem dX12_lays_28 : decode cX12_lays 28 = .ok (.getfield 40, 3) := by decide +kernel
theorem dX12_lays_31 : decode cX12_lays 31 = .ok (.iload_n 3, 1) := by decide +kernel
theorem dX12_lays_32 : decode cX12_lays 32 = .ok (.aload_n 0, 1) := by decide +kernel
theorem dX12_lays_33 : decode cX12_lays 33 = .ok (.iload_n 3, 1) := by decide +kernel
theorem dX12_lays_34 : decode cX12_lays 34 = .ok (.invokevirtual 169, 3) := by decide +kernel
theorem dX12_lays_37 : decode cX12_lays 37 = .ok (.ifCond .eq 7, 3) := by decide +kernel
theorem dX12_lays_40 : decode cX12_lays 40 = .ok (.iload_n 2, 1) := by decide +kernel
theorem dX12_lays_41 : decode cX12_lays 41 = .ok (.goto 4, 3) := by decide +kernel
theorem dX12_lays_44 : decode cX12_lays 44 = .ok (.iconst 0, 1) := by decide +kernel
theorem dX12_lays_45 : decode cX12_lays 45 = .ok (.iastore, 1) := by decide +kernel
theorem dX12_lays_46 : decode cX12_lays 46 = .ok (.iinc 3 1, 3) := by decide +kernel
theorem dX12_lays_49 : decode cX12_lays 49 = .ok (.goto (-47), 3) := by decide +kernel
theorem dX12_lays_52 : decode cX12_lays 52 = .ok (.return_, 1) := by decide +kernel
theorem dX12_move_0 : decode cX12_move 0 = .ok (.iload_n 1, 1) := by decide +kernel
theorem dX12_move_1 : decode cX12_move 1 = .ok (.invokestatic 193, 3) := by decide +kernel
theorem dX12_move_4 : decode cX12_move 4 = .ok (.ifCond .eq 10, 3) := by decide +kernel
theorem dX12_move_7 : decode cX12_move 7 = .ok (.iload_n 2, 1) := by decide +kernel
theorem dX12_move_8 : decode cX12_move 8 = .ok (.invokestatic 193, 3) := by decide +kernel
theorem dX12_move_11 : decode cX12_move 11 = .ok (.ifCond .ne 5, 3) := by decide +kernel
theorem dX12_move_14 : decode cX12_move 14 = .ok (.iconst (-1), 1) := by decide +kernel
theorem dX12_move_15 : decode cX12_move 15 = .ok (.ireturn, 1) := by decide +kernel
theorem dX12_move_16 : decode cX12_move 16 = .ok (.aload_n 0, 1) := by decide +kernel
theorem dX12_move_17 : decode cX12_move 17 = .ok (.invokevirtual 172, 3) := by decide +kernel
theorem dX12_move_20 : decode cX12_move 20 = .ok (.ifCond .ne 6, 3) := by decide +kernel
theorem dX12_move_23 : decode cX12_move 23 = .ok (.bipush (-2), 2) := by decide +kernel
theorem dX12_move_25 : decode cX12_move 25 = .ok (.ireturn, 1) := by decide +kernel
theorem dX12_move_26 : decode cX12_move 26 = .ok (.aload_n 0, 1) := by decide +kernel
theorem dX12_move_27 : decode cX12_move 27 = .ok (.iload_n 1, 1) := by decide +kernel
theorem dX12_move_28 : decode cX12_move 28 = .ok (.iload_n 2, 1) := by decide +kernel
theorem dX12_move_29 : decode cX12_move 29 = .ok (.invokevirtual 196, 3) := by decide +kernel
theorem dX12_move_32 : decode cX12_move 32 = .ok (.aload_n 0, 1) := by decide +kernel
theorem dX12_move_33 : decode cX12_move 33 = .ok (.invokevirtual 199, 3) := by decide +kernel
theorem dX12_move_36 : decode cX12_move 36 = .ok (.ifCond .ne 6, 3) := by decide +kernel
theorem dX12_move_39 : decode cX12_move 39 = .ok (.bipush (-4), 2) := by decide +kernel
theorem dX12_move_41 : decode cX12_move 41 = .ok (.ireturn, 1) := by decide +kernel
theorem dX12_move_42 : decode cX12_move 42 = .ok (.aload_n 0, 1) := by decide +kernel
theorem dX12_move_43 : decode cX12_move 43 = .ok (.invokevirtual 91, 3) := by decide +kernel
theorem dX12_move_46 : decode cX12_move 46 = .ok (.aload_n 0, 1) := by decide +kernel
theorem dX12_move_47 : decode cX12_move 47 = .ok (.invokevirtual 203, 3) := by decide +kernel
theorem dX12_move_50 : decode cX12_move 50 = .ok (.iconst 0, 1) := by decide +kernel
theorem dX12_move_51 : decode cX12_move 51 = .ok (.istore_n 3, 1) := by decide +kernel
theorem dX12_move_52 : decode cX12_move 52 = .ok (.iconst 0, 1) := by decide +kernel
theorem dX12_move_53 : decode cX12_move 53 = .ok (.istore 4, 2) := by decide +kernel
theorem dX12_move_55 : decode cX12_move 55 = .ok (.iload 4, 2) := by decide +kernel
theorem dX12_move_57 : decode cX12_move 57 = .ok (.aload_n 0, 1) := by decide +kernel
theorem dX12_move_58 : decode cX12_move 58 = .ok (.getfield 7, 3) := by decide +kernel
theorem dX12_move_61 : decode cX12_move 61 = .ok (.iconst 2, 1) := by decide +kernel
theorem dX12_move_62 : decode cX12_move 62 = .ok (.iaload, 1) := by decide +kernel
theorem dX12_move_63 : decode cX12_move 63 = .ok (.if_icmp .ge 56, 3) := by decide +kernel
theorem dX12_move_66 : decode cX12_move 66 = .ok (.iload_n 3, 1) := by decide +kernel
theorem dX12_move_67 : decode cX12_move 67 = .ok (.aload_n 0, 1) := by decide +kernel
theorem dX12_move_68 : decode cX12_move 68 = .ok (.aload_n 0, 1) := by decide +kernel
theorem dX12_move_69 : decode cX12_move 69 = .ok (.getfield 7, 3) := by decide +kernel
theorem dX12_move_72 : decode cX12_move 72 = .ok (.sipush 190, 3) := by decide +kernel
theorem dX12_move_75 : decode cX12_move 75 = .ok (.iconst 5, 1) := by decide +kernel
theorem dX12_move_76 : decode cX12_move 76 = .ok (.iload 4, 2) := by decide +kernel
theorem dX12_move_78 : decode cX12_move 78 = .ok (.imul, 1) := by decide +kernel
theorem dX12_move_79 : decode cX12_move 79 = .ok (.iadd, 1) := by decide +kernel
theorem dX12_move_80 : decode cX12_move 80 = .ok (.iaload, 1) := by decide +kernel
theorem dX12_move_81 : decode cX12_move 81 = .ok (.invokevirtual 169, 3) := by decide +kernel
theorem dX12_move_84 : decode cX12_move 84 = .ok (.aload_n 0, 1) := by decide +kernel
theorem dX12_move_85 : decode cX12_move 85 = .ok (.aload_n 0, 1) := by decide +kernel
theorem dX12_move_86 : decode cX12_move 86 = .ok (.getfield 7, 3) := by decide +kernel
theorem dX12_move_89 : decode cX12_move 89 = .ok (.sipush 190, 3) := by decide +kernel
theorem dX12_move_92 : decode cX12_move 92 = .ok (.iconst 5, 1) := by decide +kernel
theorem dX12_move_93 : decode cX12_move 93 = .ok (.iload 4, 2) := by decide +kernel
theorem dX12_move_95 : decode cX12_move 95 = .ok (.imul, 1) := by decide +kernel
theorem dX12_move_96 : decode cX12_move 96 = .ok (.iadd, 1) := by decide +kernel
theorem dX12_move_97 : decode cX12_move 97 = .ok (.iconst 2, 1) := by decide +kernel
theorem dX12_move_98 : decode cX12_move 98 = .ok (.iadd, 1) := by decide +kernel
theorem dX12_move_99 : decode cX12_move 99 = .ok (.iaload, 1) := by decide +kernel
theorem dX12_move_100 : decode cX12_move 100 = .ok (.invokevirtual 169, 3) := by decide +kernel
theorem dX12_move_103 : decode cX12_move 103 = .ok (.if_icmp .eq 7, 3) := by decide +kernel
theorem dX12_move_106 : decode cX12_move 106 = .ok (.iconst 1, 1) := by decide +kernel
theorem dX12_move_107 : decode cX12_move 107 = .ok (.goto 4, 3) := by decide +kernel
theorem dX12_move_110 : decode cX12_move 110 = .ok (.iconst 0, 1) := by decide +kernel
theorem dX12_move_111 : decode cX12_move 111 = .ok (.iadd, 1) := by decide +kernel
theorem dX12_move_112 : decode cX12_move 112 = .ok (.istore_n 3, 1) := by decide +kernel
theorem dX12_move_113 : decode cX12_move 113 = .ok (.iinc 4 1, 3) := by decide +kernel
theorem dX12_move_116 : decode cX12_move 116 = .ok (.goto (-61), 3) := by decide +kernel
theorem dX12_move_119 : decode cX12_move 119 = .ok (.iload_n 3, 1) := by decide +kernel
theorem dX12_move_120 : decode cX12_move 120 = .ok (.ireturn, 1) := by decide +kernel
theorem dX12_aims_0 : decode cX12_aims 0 = .ok (.iload_n 2, 1) := by decide +kernel
theorem dX12_aims_1 : decode cX12_aims 1 = .ok (.ifCond .ge 8, 3) := by decide +kernel
theorem dX12_aims_4 : decode cX12_aims 4 = .ok (.iload_n 2, 1) := by decide +kernel
theorem dX12_aims_5 : decode cX12_aims 5 = .ok (.ineg, 1) := by decide +kernel
theorem dX12_aims_6 : decode cX12_aims 6 = .ok (.goto 4, 3) := by decide +kernel
theorem dX12_aims_9 : decode cX12_aims 9 = .ok (.iload_n 2, 1) := by decide +kernel
theorem dX12_aims_10 : decode cX12_aims 10 = .ok (.istore_n 3, 1) := by decide +kernel
theorem dX12_aims_11 : decode cX12_aims 11 = .ok (.aload_n 0, 1) := by decide +kernel
theorem dX12_aims_12 : decode cX12_aims 12 = .ok (.getfield 206, 3) := by decide +kernel
theorem dX12_aims_15 : decode cX12_aims 15 = .ok (.ifCond .ge 11, 3) := by decide +kernel
theorem dX12_aims_18 : decode cX12_aims 18 = .ok (.aload_n 0, 1) := by decide +kernel
theorem dX12_aims_19 : decode cX12_aims 19 = .ok (.getfield 206, 3) := by decide +kernel
theorem dX12_aims_22 : decode cX12_aims 22 = .ok (.ineg, 1) := by decide +kernel
theorem dX12_aims_23 : decode cX12_aims 23 = .ok (.goto 7, 3) := by decide +kernel
theorem dX12_aims_26 : decode cX12_aims 26 = .ok (.aload_n 0, 1) := by decide +kernel
theorem dX12_aims_27 : decode cX12_aims 27 = .ok (.getfield 206, 3) := by decide +kernel
theorem dX12_aims_30 : decode cX12_aims 30 = .ok (.istore 4, 2) := by decide +kernel
theorem dX12_aims_32 : decode cX12_aims 32 = .ok (.iload_n 3, 1) := by decide +kernel
theorem dX12_aims_33 : decode cX12_aims 33 = .ok (.aload_n 0, 1) := by decide +kernel
theorem dX12_aims_34 : decode cX12_aims 34 = .ok (.getfield 7, 3) := by decide +kernel
theorem dX12_aims_37 : decode cX12_aims 37 = .ok (.iconst 5, 1) := by decide +kernel
theorem dX12_aims_38 : decode cX12_aims 38 = .ok (.iaload, 1) := by decide +kernel
theorem dX12_aims_39 : decode cX12_aims 39 = .ok (.if_icmp .gt 11, 3) := by decide +kernel
theorem dX12_aims_42 : decode cX12_aims 42 = .ok (.iload_n 1, 1) := by decide +kernel
theorem dX12_aims_43 : decode cX12_aims 43 = .ok (.aload_n 0, 1) := by decide +kernel
theorem dX12_aims_44 : decode cX12_aims 44 = .ok (.getfield 209, 3) := by decide +kernel
theorem dX12_aims_47 : decode cX12_aims 47 = .ok (.if_icmp .le 4, 3) := by decide +kernel
theorem dX12_aims_50 : decode cX12_aims 50 = .ok (.return_, 1) := by decide +kernel
theorem dX12_aims_51 : decode cX12_aims 51 = .ok (.iload_n 1, 1) := by decide +kernel
theorem dX12_aims_52 : decode cX12_aims 52 = .ok (.aload_n 0, 1) := by decide +kernel
theorem dX12_aims_53 : decode cX12_aims 53 = .ok (.getfield 209, 3) := by decide +kernel
theorem dX12_aims_56 : decode cX12_aims 56 = .ok (.if_icmp .lt 23, 3) := by decide +kernel
theorem dX12_aims_59 : decode cX12_aims 59 = .ok (.iload_n 3, 1) := by decide +kernel
theorem dX12_aims_60 : decode cX12_aims 60 = .ok (.iload 4, 2) := by decide +kernel
theorem dX12_aims_62 : decode cX12_aims 62 = .ok (.if_icmp .lt 17, 3) := by decide +kernel
theorem dX12_aims_65 : decode cX12_aims 65 = .ok (.iload_n 3, 1) := by decide +kernel
theorem dX12_aims_66 : decode cX12_aims 66 = .ok (.iload 4, 2) := by decide +kernel
theorem dX12_aims_68 : decode cX12_aims 68 = .ok (.if_icmp .ne 21, 3) := by decide +kernel
theorem dX12_aims_71 : decode cX12_aims 71 = .ok (.iload_n 2, 1) := by decide +kernel
theorem dX12_aims_72 : decode cX12_aims 72 = .ok (.aload_n 0, 1) := by decide +kernel
theorem dX12_aims_73 : decode cX12_aims 73 = .ok (.getfield 206, 3) := by decide +kernel
theorem dX12_aims_76 : decode cX12_aims 76 = .ok (.if_icmp .ge 13, 3) := by decide +kernel
theorem dX12_aims_79 : decode cX12_aims 79 = .ok (.aload_n 0, 1) := by decide +kernel
theorem dX12_aims_80 : decode cX12_aims 80 = .ok (.iload_n 1, 1) := by decide +kernel
theorem dX12_aims_81 : decode cX12_aims 81 = .ok (.putfield 209, 3) := by decide +kernel
theorem dX12_aims_84 : decode cX12_aims 84 = .ok (.aload_n 0, 1) := by decide +kernel
theorem dX12_aims_85 : decode cX12_aims 85 = .ok (.iload_n 2, 1) := by decide +kernel
theorem dX12_aims_86 : decode cX12_aims 86 = .ok (.putfield 206, 3) := by decide +kernel
theorem dX12_aims_89 : decode cX12_aims 89 = .ok (.return_, 1) := by decide +kernel
theorem dX12_looksFor_0 : decode cX12_looksFor 0 = .ok (.aload_n 0, 1) := by decide +kernel
theorem dX12_looksFor_1 : decode cX12_looksFor 1 = .ok (.invokevirtual 190, 3) := by decide +kernel
theorem dX12_looksFor_4 : decode cX12_looksFor 4 = .ok (.aload_n 0, 1) := by decide +kernel
theorem dX12_looksFor_5 : decode cX12_looksFor 5 = .ok (.iconst 4, 1) := by decide +kernel
theorem dX12_looksFor_6 : decode cX12_looksFor 6 = .ok (.putfield 209, 3) := by decide +kernel
theorem dX12_looksFor_9 : decode cX12_looksFor 9 = .ok (.aload_n 0, 1) := by decide +kernel
theorem dX12_looksFor_10 : decode cX12_looksFor 10 = .ok (.iconst 0, 1) := by decide +kernel
theorem dX12_looksFor_11 : decode cX12_looksFor 11 = .ok (.putfield 206, 3) := by decide +kernel
theorem dX12_looksFor_14 : decode cX12_looksFor 14 = .ok (.aload_n 0, 1) := by decide +kernel
theorem dX12_looksFor_15 : decode cX12_looksFor 15 = .ok (.getfield 28, 3) := by decide +kernel
theorem dX12_looksFor_18 : decode cX12_looksFor 18 = .ok (.bipush 40, 2) := by decide +kernel
theorem dX12_looksFor_20 : decode cX12_looksFor 20 = .ok (.iload_n 1, 1) := by decide +kernel
theorem dX12_looksFor_21 : decode cX12_looksFor 21 = .ok (.iadd, 1) := by decide +kernel
theorem dX12_looksFor_22 : decode cX12_looksFor 22 = .ok (.iaload, 1) := by decide +kernel
theorem dX12_looksFor_23 : decode cX12_looksFor 23 = .ok (.iload_n 2, 1) := by decide +kernel
theorem dX12_looksFor_24 : decode cX12_looksFor 24 = .ok (.iadd, 1) := by decide +kernel
theorem dX12_looksFor_25 : decode cX12_looksFor 25 = .ok (.istore_n 3, 1) := by decide +kernel
theorem dX12_looksFor_26 : decode cX12_looksFor 26 = .ok (.aload_n 0, 1) := by decide +kernel
theorem dX12_looksFor_27 : decode cX12_looksFor 27 = .ok (.getfield 31, 3) := by decide +kernel
theorem dX12_looksFor_30 : decode cX12_looksFor 30 = .ok (.bipush 40, 2) := by decide +kernel
theorem dX12_looksFor_32 : decode cX12_looksFor 32 = .ok (.iload_n 1, 1) := by decide +kernel
theorem dX12_looksFor_33 : decode cX12_looksFor 33 = .ok (.iadd, 1) := by decide +kernel
theorem dX12_looksFor_34 : decode cX12_looksFor 34 = .ok (.iaload, 1) := by decide +kernel
theorem dX12_looksFor_35 : decode cX12_looksFor 35 = .ok (.iload_n 2, 1) := by decide +kernel
theorem dX12_looksFor_36 : decode cX12_looksFor 36 = .ok (.iadd, 1) := by decide +kernel
theorem dX12_looksFor_37 : decode cX12_looksFor 37 = .ok (.istore 4, 2) := by decide +kernel
theorem dX12_looksFor_39 : decode cX12_looksFor 39 = .ok (.iload_n 3, 1) := by decide +kernel
theorem dX12_looksFor_40 : decode cX12_looksFor 40 = .ok (.iload 4, 2) := by decide +kernel
theorem dX12_looksFor_42 : decode cX12_looksFor 42 = .ok (.iload_n 3, 1) := by decide +kernel
theorem dX12_looksFor_43 : decode cX12_looksFor 43 = .ok (.isub, 1) := by decide +kernel
theorem dX12_looksFor_44 : decode cX12_looksFor 44 = .ok (.iconst 2, 1) := by decide +kernel
theorem dX12_looksFor_45 : decode cX12_looksFor 45 = .ok (.idiv, 1) := by decide +kernel
theorem dX12_looksFor_46 : decode cX12_looksFor 46 = .ok (.iadd, 1) := by decide +kernel
theorem dX12_looksFor_47 : decode cX12_looksFor 47 = .ok (.istore 5, 2) := by decide +kernel
theorem dX12_looksFor_49 : decode cX12_looksFor 49 = .ok (.iconst 0, 1) := by decide +kernel
theorem dX12_looksFor_50 : decode cX12_looksFor 50 = .ok (.istore 6, 2) := by decide +kernel
theorem dX12_looksFor_52 : decode cX12_looksFor 52 = .ok (.iload 6, 2) := by decide +kernel
theorem dX12_looksFor_54 : decode cX12_looksFor 54 = .ok (.aload_n 0, 1) := by decide +kernel
theorem dX12_looksFor_55 : decode cX12_looksFor 55 = .ok (.getfield 7, 3) := by decide +kernel
theorem dX12_looksFor_58 : decode cX12_looksFor 58 = .ok (.iconst 3, 1) := by decide +kernel
theorem dX12_looksFor_59 : decode cX12_looksFor 59 = .ok (.iaload, 1) := by decide +kernel
theorem dX12_looksFor_60 : decode cX12_looksFor 60 = .ok (.if_icmp .ge 72, 3) := by decide +kernel
theorem dX12_looksFor_63 : decode cX12_looksFor 63 = .ok (.aload_n 0, 1) := by decide +kernel
theorem dX12_looksFor_64 : decode cX12_looksFor 64 = .ok (.getfield 7, 3) := by decide +kernel
theorem dX12_looksFor_67 : decode cX12_looksFor 67 = .ok (.sipush 310, 3) := by decide +kernel
theorem dX12_looksFor_70 : decode cX12_looksFor 70 = .ok (.iconst 2, 1) := by decide +kernel
theorem dX12_looksFor_71 : decode cX12_looksFor 71 = .ok (.iload 6, 2) := by decide +kernel
theorem dX12_looksFor_73 : decode cX12_looksFor 73 = .ok (.imul, 1) := by decide +kernel
theorem dX12_looksFor_74 : decode cX12_looksFor 74 = .ok (.iadd, 1) := by decide +kernel
theorem dX12_looksFor_75 : decode cX12_looksFor 75 = .ok (.iaload, 1) := by decide +kernel
theorem dX12_looksFor_76 : decode cX12_looksFor 76 = .ok (.iload_n 1, 1) := by decide +kernel
theorem dX12_looksFor_77 : decode cX12_looksFor 77 = .ok (.if_icmp .ne 49, 3) := by decide +kernel
theorem dX12_looksFor_80 : decode cX12_looksFor 80 = .ok (.aload_n 0, 1) := by decide +kernel
theorem dX12_looksFor_81 : decode cX12_looksFor 81 = .ok (.getfield 7, 3) := by decide +kernel
theorem dX12_looksFor_84 : decode cX12_looksFor 84 = .ok (.sipush 310, 3) := by decide +kernel
theorem dX12_looksFor_87 : decode cX12_looksFor 87 = .ok (.iconst 2, 1) := by decide +kernel
theorem dX12_looksFor_88 : decode cX12_looksFor 88 = .ok (.iload 6, 2) := by decide +kernel
theorem dX12_looksFor_90 : decode cX12_looksFor 90 = .ok (.imul, 1) := by decide +kernel
theorem dX12_looksFor_91 : decode cX12_looksFor 91 = .ok (.iadd, 1) := by decide +kernel
theorem dX12_looksFor_92 : decode cX12_looksFor 92 = .ok (.iconst 1, 1) := by decide +kernel
theorem dX12_looksFor_93 : decode cX12_looksFor 93 = .ok (.iadd, 1) := by decide +kernel
theorem dX12_looksFor_94 : decode cX12_looksFor 94 = .ok (.iaload, 1) := by decide +kernel
theorem dX12_looksFor_95 : decode cX12_looksFor 95 = .ok (.istore 7, 2) := by decide +kernel
theorem dX12_looksFor_97 : decode cX12_looksFor 97 = .ok (.aload_n 0, 1) := by decide +kernel
theorem dX12_looksFor_98 : decode cX12_looksFor 98 = .ok (.iconst 0, 1) := by decide +kernel
theorem dX12_looksFor_99 : decode cX12_looksFor 99 = .ok (.iload 7, 2) := by decide +kernel
theorem dX12_looksFor_101 : decode cX12_looksFor 101 = .ok (.iload_n 3, 1) := by decide +kernel
theorem dX12_looksFor_102 : decode cX12_looksFor 102 = .ok (.isub, 1) := by decide +kernel
theorem dX12_looksFor_103 : decode cX12_looksFor 103 = .ok (.invokevirtual 212, 3) := by decide +kernel
theorem dX12_looksFor_106 : decode cX12_looksFor 106 = .ok (.aload_n 0, 1) := by decide +kernel
theorem dX12_looksFor_107 : decode cX12_looksFor 107 = .ok (.iconst 0, 1) := by decide +kernel
theorem dX12_looksFor_108 : decode cX12_looksFor 108 = .ok (.iload 7, 2) := by decide +kernel
theorem dX12_looksFor_110 : decode cX12_looksFor 110 = .ok (.iload 5, 2) := by decide +kernel
theorem dX12_looksFor_112 : decode cX12_looksFor 112 = .ok (.isub, 1) := by decide +kernel
theorem dX12_looksFor_113 : decode cX12_looksFor 113 = .ok (.invokevirtual 212, 3) := by decide +kernel
theorem dX12_looksFor_116 : decode cX12_looksFor 116 = .ok (.aload_n 0, 1) := by decide +kernel
theorem dX12_looksFor_117 : decode cX12_looksFor 117 = .ok (.iconst 0, 1) := by decide +kernel
theorem dX12_looksFor_118 : decode cX12_looksFor 118 = .ok (.iload 7, 2) := by decide +kernel
theorem dX12_looksFor_120 : decode cX12_looksFor 120 = .ok (.iload 4, 2) := by decide +kernel
theorem dX12_looksFor_122 : decode cX12_looksFor 122 = .ok (.isub, 1) := by decide +kernel
theorem dX12_looksFor_123 : decode cX12_looksFor 123 = .ok (.invokevirtual 212, 3) := by decide +kernel
theorem dX12_looksFor_126 : decode cX12_looksFor 126 = .ok (.iinc 6 1, 3) := by decide +kernel
theorem dX12_looksFor_129 : decode cX12_looksFor 129 = .ok (.goto (-77), 3) := by decide +kernel
theorem dX12_looksFor_132 : decode cX12_looksFor 132 = .ok (.iconst 0, 1) := by decide +kernel
theorem dX12_looksFor_133 : decode cX12_looksFor 133 = .ok (.istore 6, 2) := by decide +kernel
theorem dX12_looksFor_135 : decode cX12_looksFor 135 = .ok (.iload 6, 2) := by decide +kernel
theorem dX12_looksFor_137 : decode cX12_looksFor 137 = .ok (.bipush 20, 2) := by decide +kernel
theorem dX12_looksFor_139 : decode cX12_looksFor 139 = .ok (.if_icmp .ge 102, 3) := by decide +kernel
theorem dX12_looksFor_142 : decode cX12_looksFor 142 = .ok (.aload_n 0, 1) := by decide +kernel
theorem dX12_looksFor_143 : decode cX12_looksFor 143 = .ok (.iload 6, 2) := by decide +kernel
theorem dX12_looksFor_145 : decode cX12_looksFor 145 = .ok (.iconst 0, 1) := by decide +kernel
theorem dX12_looksFor_146 : decode cX12_looksFor 146 = .ok (.invokevirtual 63, 3) := by decide +kernel
theorem dX12_looksFor_149 : decode cX12_looksFor 149 = .ok (.iconst 1, 1) := by decide +kernel
theorem dX12_looksFor_150 : decode cX12_looksFor 150 = .ok (.if_icmp .ne 85, 3) := by decide +kernel
theorem dX12_looksFor_153 : decode cX12_looksFor 153 = .ok (.aload_n 0, 1) := by decide +kernel
theorem dX12_looksFor_154 : decode cX12_looksFor 154 = .ok (.iload 6, 2) := by decide +kernel
theorem dX12_looksFor_156 : decode cX12_looksFor 156 = .ok (.invokevirtual 169, 3) := by decide +kernel
theorem dX12_looksFor_159 : decode cX12_looksFor 159 = .ok (.ifCond .ne 76, 3) := by decide +kernel
theorem dX12_looksFor_162 : decode cX12_looksFor 162 = .ok (.aload_n 0, 1) := by decide +kernel
theorem dX12_looksFor_163 : decode cX12_looksFor 163 = .ok (.iconst 1, 1) := by decide +kernel
theorem dX12_looksFor_164 : decode cX12_looksFor 164 = .ok (.aload_n 0, 1) := by decide +kernel
theorem dX12_looksFor_165 : decode cX12_looksFor 165 = .ok (.iload 6, 2) := by decide +kernel
theorem dX12_looksFor_167 : decode cX12_looksFor 167 = .ok (.iload_n 1, 1) := by decide +kernel
theorem dX12_looksFor_168 : decode cX12_looksFor 168 = .ok (.invokevirtual 121, 3) := by decide +kernel
theorem dX12_looksFor_171 : decode cX12_looksFor 171 = .ok (.iload 5, 2) := by decide +kernel
theorem dX12_looksFor_173 : decode cX12_looksFor 173 = .ok (.isub, 1) := by decide +kernel
theorem dX12_looksFor_174 : decode cX12_looksFor 174 = .ok (.invokevirtual 212, 3) := by decide +kernel
theorem dX12_looksFor_177 : decode cX12_looksFor 177 = .ok (.aload_n 0, 1) := by decide +kernel
theorem dX12_looksFor_178 : decode cX12_looksFor 178 = .ok (.iconst 2, 1) := by decide +kernel
theorem dX12_looksFor_179 : decode cX12_looksFor 179 = .ok (.aload_n 0, 1) := by decide +kernel
theorem dX12_looksFor_180 : decode cX12_looksFor 180 = .ok (.iload 6, 2) := by decide +kernel
theorem dX12_looksFor_182 : decode cX12_looksFor 182 = .ok (.iload_n 1, 1) := by decide +kernel
theorem dX12_looksFor_183 : decode cX12_looksFor 183 = .ok (.invokevirtual 124, 3) := by decide +kernel
theorem dX12_looksFor_186 : decode cX12_looksFor 186 = .ok (.iload_n 3, 1) := by decide +kernel
theorem dX12_looksFor_187 : decode cX12_looksFor 187 = .ok (.isub, 1) := by decide +kernel
theorem dX12_looksFor_188 : decode cX12_looksFor 188 = .ok (.invokevirtual 212, 3) := by decide +kernel
theorem dX12_looksFor_191 : decode cX12_looksFor 191 = .ok (.aload_n 0, 1) := by decide +kernel
theorem dX12_looksFor_192 : decode cX12_looksFor 192 = .ok (.iconst 2, 1) := by decide +kernel
theorem dX12_looksFor_193 : decode cX12_looksFor 193 = .ok (.aload_n 0, 1) := by decide +kernel
theorem dX12_looksFor_194 : decode cX12_looksFor 194 = .ok (.iload 6, 2) := by decide +kernel
theorem dX12_looksFor_196 : decode cX12_looksFor 196 = .ok (.iload_n 1, 1) := by decide +kernel
theorem dX12_looksFor_197 : decode cX12_looksFor 197 = .ok (.invokevirtual 127, 3) := by decide +kernel
theorem dX12_looksFor_200 : decode cX12_looksFor 200 = .ok (.iload_n 3, 1) := by decide +kernel
theorem dX12_looksFor_201 : decode cX12_looksFor 201 = .ok (.isub, 1) := by decide +kernel
theorem dX12_looksFor_202 : decode cX12_looksFor 202 = .ok (.invokevirtual 212, 3) := by decide +kernel
theorem dX12_looksFor_205 : decode cX12_looksFor 205 = .ok (.aload_n 0, 1) := by decide +kernel
theorem dX12_looksFor_206 : decode cX12_looksFor 206 = .ok (.iconst 2, 1) := by decide +kernel
theorem dX12_looksFor_207 : decode cX12_looksFor 207 = .ok (.aload_n 0, 1) := by decide +kernel
theorem dX12_looksFor_208 : decode cX12_looksFor 208 = .ok (.iload 6, 2) := by decide +kernel
theorem dX12_looksFor_210 : decode cX12_looksFor 210 = .ok (.iload_n 1, 1) := by decide +kernel
theorem dX12_looksFor_211 : decode cX12_looksFor 211 = .ok (.invokevirtual 124, 3) := by decide +kernel
theorem dX12_looksFor_214 : decode cX12_looksFor 214 = .ok (.iload 4, 2) := by decide +kernel
theorem dX12_looksFor_216 : decode cX12_looksFor 216 = .ok (.isub, 1) := by decide +kernel
theorem dX12_looksFor_217 : decode cX12_looksFor 217 = .ok (.invokevirtual 212, 3) := by decide +kernel
theorem dX12_looksFor_220 : decode cX12_looksFor 220 = .ok (.aload_n 0, 1) := by decide +kernel
theorem dX12_looksFor_221 : decode cX12_looksFor 221 = .ok (.iconst 2, 1) := by decide +kernel
theorem dX12_looksFor_222 : decode cX12_looksFor 222 = .ok (.aload_n 0, 1) := by decide +kernel
theorem dX12_looksFor_223 : decode cX12_looksFor 223 = .ok (.iload 6, 2) := by decide +kernel
theorem dX12_looksFor_225 : decode cX12_looksFor 225 = .ok (.iload_n 1, 1) := by decide +kernel
theorem dX12_looksFor_226 : decode cX12_looksFor 226 = .ok (.invokevirtual 127, 3) := by decide +kernel
theorem dX12_looksFor_229 : decode cX12_looksFor 229 = .ok (.iload 4, 2) := by decide +kernel
theorem dX12_looksFor_231 : decode cX12_looksFor 231 = .ok (.isub, 1) := by decide +kernel
theorem dX12_looksFor_232 : decode cX12_looksFor 232 = .ok (.invokevirtual 212, 3) := by decide +kernel
theorem dX12_looksFor_235 : decode cX12_looksFor 235 = .ok (.iinc 6 1, 3) := by decide +kernel
theorem dX12_looksFor_238 : decode cX12_looksFor 238 = .ok (.goto (-103), 3) := by decide +kernel
theorem dX12_looksFor_241 : decode cX12_looksFor 241 = .ok (.aload_n 0, 1) := by decide +kernel
theorem dX12_looksFor_242 : decode cX12_looksFor 242 = .ok (.getfield 7, 3) := by decide +kernel
theorem dX12_looksFor_245 : decode cX12_looksFor 245 = .ok (.iconst 4, 1) := by decide +kernel
theorem dX12_looksFor_246 : decode cX12_looksFor 246 = .ok (.iaload, 1) := by decide +kernel
theorem dX12_looksFor_247 : decode cX12_looksFor 247 = .ok (.ifCond .le 56, 3) := by decide +kernel
theorem dX12_looksFor_250 : decode cX12_looksFor 250 = .ok (.iload_n 3, 1) := by decide +kernel
theorem dX12_looksFor_251 : decode cX12_looksFor 251 = .ok (.aload_n 0, 1) := by decide +kernel
theorem dX12_looksFor_252 : decode cX12_looksFor 252 = .ok (.getfield 7, 3) := by decide +kernel
theorem dX12_looksFor_255 : decode cX12_looksFor 255 = .ok (.iconst 4, 1) := by decide +kernel
theorem dX12_looksFor_256 : decode cX12_looksFor 256 = .ok (.iaload, 1) := by decide +kernel
theorem dX12_looksFor_257 : decode cX12_looksFor 257 = .ok (.irem, 1) := by decide +kernel
theorem dX12_looksFor_258 : decode cX12_looksFor 258 = .ok (.istore 6, 2) := by decide +kernel
theorem dX12_looksFor_260 : decode cX12_looksFor 260 = .ok (.iload 6, 2) := by decide +kernel
theorem dX12_looksFor_262 : decode cX12_looksFor 262 = .ok (.ifCond .ge 15, 3) := by decide +kernel
theorem dX12_looksFor_265 : decode cX12_looksFor 265 = .ok (.iload 6, 2) := by decide +kernel
theorem dX12_looksFor_267 : decode cX12_looksFor 267 = .ok (.aload_n 0, 1) := by decide +kernel
theorem dX12_looksFor_268 : decode cX12_looksFor 268 = .ok (.getfield 7, 3) := by decide +kernel
theorem dX12_looksFor_271 : decode cX12_looksFor 271 = .ok (.iconst 4, 1) := by decide +kernel
theorem dX12_looksFor_272 : decode cX12_looksFor 272 = .ok (.iaload, 1) := by decide +kernel
theorem dX12_looksFor_273 : decode cX12_looksFor 273 = .ok (.iadd, 1) := by decide +kernel
theorem dX12_looksFor_274 : decode cX12_looksFor 274 = .ok (.goto 5, 3) := by decide +kernel
theorem dX12_looksFor_277 : decode cX12_looksFor 277 = .ok (.iload 6, 2) := by decide +kernel
theorem dX12_looksFor_279 : decode cX12_looksFor 279 = .ok (.istore 6, 2) := by decide +kernel
theorem dX12_looksFor_281 : decode cX12_looksFor 281 = .ok (.aload_n 0, 1) := by decide +kernel
theorem dX12_looksFor_282 : decode cX12_looksFor 282 = .ok (.iconst 3, 1) := by decide +kernel
theorem dX12_looksFor_283 : decode cX12_looksFor 283 = .ok (.iload 6, 2) := by decide +kernel
theorem dX12_looksFor_285 : decode cX12_looksFor 285 = .ok (.ineg, 1) := by decide +kernel
theorem dX12_looksFor_286 : decode cX12_looksFor 286 = .ok (.invokevirtual 212, 3) := by decide +kernel
theorem dX12_looksFor_289 : decode cX12_looksFor 289 = .ok (.aload_n 0, 1) := by decide +kernel
theorem dX12_looksFor_290 : decode cX12_looksFor 290 = .ok (.iconst 3, 1) := by decide +kernel
theorem dX12_looksFor_291 : decode cX12_looksFor 291 = .ok (.aload_n 0, 1) := by decide +kernel
theorem dX12_looksFor_292 : decode cX12_looksFor 292 = .ok (.getfield 7, 3) := by decide +kernel
theorem dX12_looksFor_295 : decode cX12_looksFor 295 = .ok (.iconst 4, 1) := by decide +kernel
theorem dX12_looksFor_296 : decode cX12_looksFor 296 = .ok (.iaload, 1) := by decide +kernel
theorem dX12_looksFor_297 : decode cX12_looksFor 297 = .ok (.iload 6, 2) := by decide +kernel
theorem dX12_looksFor_299 : decode cX12_looksFor 299 = .ok (.isub, 1) := by decide +kernel
theorem dX12_looksFor_300 : decode cX12_looksFor 300 = .ok (.invokevirtual 212, 3) := by decide +kernel
theorem dX12_looksFor_303 : decode cX12_looksFor 303 = .ok (.return_, 1) := by decide +kernel
theorem dX12_drag_0 : decode cX12_drag 0 = .ok (.iload_n 1, 1) := by decide +kernel
theorem dX12_drag_1 : decode cX12_drag 1 = .ok (.invokestatic 193, 3) := by decide +kernel
theorem dX12_drag_4 : decode cX12_drag 4 = .ok (.ifCond .eq 10, 3) := by decide +kernel
theorem dX12_drag_7 : decode cX12_drag 7 = .ok (.iload_n 2, 1) := by decide +kernel
theorem dX12_drag_8 : decode cX12_drag 8 = .ok (.invokestatic 193, 3) := by decide +kernel
theorem dX12_drag_11 : decode cX12_drag 11 = .ok (.ifCond .ne 5, 3) := by decide +kernel
theorem dX12_drag_14 : decode cX12_drag 14 = .ok (.iconst (-1), 1) := by decide +kernel
theorem dX12_drag_15 : decode cX12_drag 15 = .ok (.ireturn, 1) := by decide +kernel
theorem dX12_drag_16 : decode cX12_drag 16 = .ok (.aload_n 0, 1) := by decide +kernel
theorem dX12_drag_17 : decode cX12_drag 17 = .ok (.invokevirtual 172, 3) := by decide +kernel
theorem dX12_drag_20 : decode cX12_drag 20 = .ok (.ifCond .ne 6, 3) := by decide +kernel
theorem dX12_drag_23 : decode cX12_drag 23 = .ok (.bipush (-2), 2) := by decide +kernel
theorem dX12_drag_25 : decode cX12_drag 25 = .ok (.ireturn, 1) := by decide +kernel
theorem dX12_drag_26 : decode cX12_drag 26 = .ok (.aload_n 0, 1) := by decide +kernel
theorem dX12_drag_27 : decode cX12_drag 27 = .ok (.iconst 0, 1) := by decide +kernel
theorem dX12_drag_28 : decode cX12_drag 28 = .ok (.iload_n 1, 1) := by decide +kernel
theorem dX12_drag_29 : decode cX12_drag 29 = .ok (.invokevirtual 215, 3) := by decide +kernel
theorem dX12_drag_32 : decode cX12_drag 32 = .ok (.aload_n 0, 1) := by decide +kernel
theorem dX12_drag_33 : decode cX12_drag 33 = .ok (.getfield 209, 3) := by decide +kernel
theorem dX12_drag_36 : decode cX12_drag 36 = .ok (.istore_n 3, 1) := by decide +kernel
theorem dX12_drag_37 : decode cX12_drag 37 = .ok (.iload_n 1, 1) := by decide +kernel
theorem dX12_drag_38 : decode cX12_drag 38 = .ok (.aload_n 0, 1) := by decide +kernel
theorem dX12_drag_39 : decode cX12_drag 39 = .ok (.getfield 206, 3) := by decide +kernel
theorem dX12_drag_42 : decode cX12_drag 42 = .ok (.iadd, 1) := by decide +kernel
theorem dX12_drag_43 : decode cX12_drag 43 = .ok (.istore 4, 2) := by decide +kernel
theorem dX12_drag_45 : decode cX12_drag 45 = .ok (.aload_n 0, 1) := by decide +kernel
theorem dX12_drag_46 : decode cX12_drag 46 = .ok (.iconst 1, 1) := by decide +kernel
theorem dX12_drag_47 : decode cX12_drag 47 = .ok (.iload_n 2, 1) := by decide +kernel
theorem dX12_drag_48 : decode cX12_drag 48 = .ok (.invokevirtual 215, 3) := by decide +kernel
theorem dX12_drag_51 : decode cX12_drag 51 = .ok (.iload_n 3, 1) := by decide +kernel
theorem dX12_drag_52 : decode cX12_drag 52 = .ok (.bipush 10, 2) := by decide +kernel
theorem dX12_drag_54 : decode cX12_drag 54 = .ok (.aload_n 0, 1) := by decide +kernel
theorem dX12_drag_55 : decode cX12_drag 55 = .ok (.getfield 209, 3) := by decide +kernel
theorem dX12_drag_58 : decode cX12_drag 58 = .ok (.imul, 1) := by decide +kernel
theorem dX12_drag_59 : decode cX12_drag 59 = .ok (.iadd, 1) := by decide +kernel
theorem dX12_drag_60 : decode cX12_drag 60 = .ok (.istore_n 3, 1) := by decide +kernel
theorem dX12_drag_61 : decode cX12_drag 61 = .ok (.aload_n 0, 1) := by decide +kernel
theorem dX12_drag_62 : decode cX12_drag 62 = .ok (.iload 4, 2) := by decide +kernel
theorem dX12_drag_64 : decode cX12_drag 64 = .ok (.iload_n 2, 1) := by decide +kernel
theorem dX12_drag_65 : decode cX12_drag 65 = .ok (.aload_n 0, 1) := by decide +kernel
theorem dX12_drag_66 : decode cX12_drag 66 = .ok (.getfield 206, 3) := by decide +kernel
theorem dX12_drag_69 : decode cX12_drag 69 = .ok (.iadd, 1) := by decide +kernel
theorem dX12_drag_70 : decode cX12_drag 70 = .ok (.invokevirtual 196, 3) := by decide +kernel
theorem dX12_drag_73 : decode cX12_drag 73 = .ok (.aload_n 0, 1) := by decide +kernel
theorem dX12_drag_74 : decode cX12_drag 74 = .ok (.invokevirtual 199, 3) := by decide +kernel
theorem dX12_drag_77 : decode cX12_drag 77 = .ok (.ifCond .ne 6, 3) := by decide +kernel
theorem dX12_drag_80 : decode cX12_drag 80 = .ok (.bipush (-4), 2) := by decide +kernel
theorem dX12_drag_82 : decode cX12_drag 82 = .ok (.ireturn, 1) := by decide +kernel
theorem dX12_drag_83 : decode cX12_drag 83 = .ok (.aload_n 0, 1) := by decide +kernel
theorem dX12_drag_84 : decode cX12_drag 84 = .ok (.invokevirtual 91, 3) := by decide +kernel
theorem dX12_drag_87 : decode cX12_drag 87 = .ok (.aload_n 0, 1) := by decide +kernel
theorem dX12_drag_88 : decode cX12_drag 88 = .ok (.invokevirtual 203, 3) := by decide +kernel
theorem dX12_drag_91 : decode cX12_drag 91 = .ok (.iload_n 3, 1) := by decide +kernel
theorem dX12_drag_92 : decode cX12_drag 92 = .ok (.ireturn, 1) := by decide +kernel
theorem dX12_correction_0 : decode cX12_correction 0 = .ok (.iload_n 1, 1) := by decide +kernel
theorem dX12_correction_1 : decode cX12_correction 1 = .ok (.invokestatic 193, 3) := by decide +kernel
theorem dX12_correction_4 : decode cX12_correction 4 = .ok (.ifCond .eq 26, 3) := by decide +kernel
theorem dX12_correction_7 : decode cX12_correction 7 = .ok (.iload_n 2, 1) := by decide +kernel
theorem dX12_correction_8 : decode cX12_correction 8 = .ok (.invokestatic 193, 3) := by decide +kernel
theorem dX12_correction_11 : decode cX12_correction 11 = .ok (.ifCond .eq 19, 3) := by decide +kernel
theorem dX12_correction_14 : decode cX12_correction 14 = .ok (.iload_n 3, 1) := by decide +kernel
theorem dX12_correction_15 : decode cX12_correction 15 = .ok (.iconst 0, 1) := by decide +kernel
theorem dX12_correction_16 : decode cX12_correction 16 = .ok (.iconst 1, 1) := by decide +kernel
theorem dX12_correction_17 : decode cX12_correction 17 = .ok (.invokestatic 59, 3) := by decide +kernel
theorem dX12_correction_20 : decode cX12_correction 20 = .ok (.ifCond .eq 10, 3) := by decide +kernel
theorem dX12_correction_23 : decode cX12_correction 23 = .ok (.aload_n 0, 1) := by decide +kernel
theorem dX12_correction_24 : decode cX12_correction 24 = .ok (.invokevirtual 172, 3) := by decide +kernel
theorem dX12_correction_27 : decode cX12_correction 27 = .ok (.ifCond .ne 6, 3) := by decide +kernel
theorem dX12_correction_30 : decode cX12_correction 30 = .ok (.ldc 117, 2) := by decide +kernel
theorem dX12_correction_32 : decode cX12_correction 32 = .ok (.ireturn, 1) := by decide +kernel
theorem dX12_correction_33 : decode cX12_correction 33 = .ok (.aload_n 0, 1) := by decide +kernel
theorem dX12_correction_34 : decode cX12_correction 34 = .ok (.iload_n 3, 1) := by decide +kernel
theorem dX12_correction_35 : decode cX12_correction 35 = .ok (.iload_n 3, 1) := by decide +kernel
theorem dX12_correction_36 : decode cX12_correction 36 = .ok (.ifCond .ne 7, 3) := by decide +kernel
theorem dX12_correction_39 : decode cX12_correction 39 = .ok (.iload_n 1, 1) := by decide +kernel
theorem dX12_correction_40 : decode cX12_correction 40 = .ok (.goto 4, 3) := by decide +kernel
theorem dX12_correction_43 : decode cX12_correction 43 = .ok (.iload_n 2, 1) := by decide +kernel
theorem dX12_correction_44 : decode cX12_correction 44 = .ok (.invokevirtual 215, 3) := by decide +kernel
theorem dX12_correction_47 : decode cX12_correction 47 = .ok (.aload_n 0, 1) := by decide +kernel
theorem dX12_correction_48 : decode cX12_correction 48 = .ok (.getfield 206, 3) := by decide +kernel
theorem dX12_correction_51 : decode cX12_correction 51 = .ok (.ireturn, 1) := by decide +kernel
theorem dX12_lineOf_0 : decode cX12_lineOf 0 = .ok (.aload_n 0, 1) := by decide +kernel
theorem dX12_lineOf_1 : decode cX12_lineOf 1 = .ok (.getfield 28, 3) := by decide +kernel
theorem dX12_lineOf_4 : decode cX12_lineOf 4 = .ok (.iconst 2, 1) := by decide +kernel
theorem dX12_lineOf_5 : decode cX12_lineOf 5 = .ok (.iload_n 1, 1) := by decide +kernel
theorem dX12_lineOf_6 : decode cX12_lineOf 6 = .ok (.imul, 1) := by decide +kernel
theorem dX12_lineOf_7 : decode cX12_lineOf 7 = .ok (.iload_n 2, 1) := by decide +kernel
theorem dX12_lineOf_8 : decode cX12_lineOf 8 = .ok (.iadd, 1) := by decide +kernel
theorem dX12_lineOf_9 : decode cX12_lineOf 9 = .ok (.iaload, 1) := by decide +kernel
theorem dX12_lineOf_10 : decode cX12_lineOf 10 = .ok (.istore 4, 2) := by decide +kernel
theorem dX12_lineOf_12 : decode cX12_lineOf 12 = .ok (.aload_n 0, 1) := by decide +kernel
theorem dX12_lineOf_13 : decode cX12_lineOf 13 = .ok (.getfield 31, 3) := by decide +kernel
theorem dX12_lineOf_16 : decode cX12_lineOf 16 = .ok (.iconst 2, 1) := by decide +kernel
theorem dX12_lineOf_17 : decode cX12_lineOf 17 = .ok (.iload_n 1, 1) := by decide +kernel
theorem dX12_lineOf_18 : decode cX12_lineOf 18 = .ok (.imul, 1) := by decide +kernel
theorem dX12_lineOf_19 : decode cX12_lineOf 19 = .ok (.iload_n 2, 1) := by decide +kernel
theorem dX12_lineOf_20 : decode cX12_lineOf 20 = .ok (.iadd, 1) := by decide +kernel
theorem dX12_lineOf_21 : decode cX12_lineOf 21 = .ok (.iaload, 1) := by decide +kernel
theorem dX12_lineOf_22 : decode cX12_lineOf 22 = .ok (.istore 5, 2) := by decide +kernel
theorem dX12_lineOf_24 : decode cX12_lineOf 24 = .ok (.iload_n 3, 1) := by decide +kernel
theorem dX12_lineOf_25 : decode cX12_lineOf 25 = .ok (.ifCond .ne 8, 3) := by decide +kernel
theorem dX12_lineOf_28 : decode cX12_lineOf 28 = .ok (.iload 4, 2) := by decide +kernel
theorem dX12_lineOf_30 : decode cX12_lineOf 30 = .ok (.goto 23, 3) := by decide +kernel
theorem dX12_lineOf_33 : decode cX12_lineOf 33 = .ok (.iload_n 3, 1) := by decide +kernel
theorem dX12_lineOf_34 : decode cX12_lineOf 34 = .ok (.iconst 2, 1) := by decide +kernel
theorem dX12_lineOf_35 : decode cX12_lineOf 35 = .ok (.if_icmp .ne 8, 3) := by decide +kernel
theorem dX12_lineOf_38 : decode cX12_lineOf 38 = .ok (.iload 5, 2) := by decide +kernel
theorem dX12_lineOf_40 : decode cX12_lineOf 40 = .ok (.goto 13, 3) := by decide +kernel
theorem dX12_lineOf_43 : decode cX12_lineOf 43 = .ok (.iload 4, 2) := by decide +kernel
theorem dX12_lineOf_45 : decode cX12_lineOf 45 = .ok (.iload 5, 2) := by decide +kernel
theorem dX12_lineOf_47 : decode cX12_lineOf 47 = .ok (.iload 4, 2) := by decide +kernel
theorem dX12_lineOf_49 : decode cX12_lineOf 49 = .ok (.isub, 1) := by decide +kernel
theorem dX12_lineOf_50 : decode cX12_lineOf 50 = .ok (.iconst 2, 1) := by decide +kernel
theorem dX12_lineOf_51 : decode cX12_lineOf 51 = .ok (.idiv, 1) := by decide +kernel
theorem dX12_lineOf_52 : decode cX12_lineOf 52 = .ok (.iadd, 1) := by decide +kernel
theorem dX12_lineOf_53 : decode cX12_lineOf 53 = .ok (.ireturn, 1) := by decide +kernel
theorem dX12_laysUnit_0 : decode cX12_laysUnit 0 = .ok (.iconst 0, 1) := by decide +kernel
theorem dX12_laysUnit_1 : decode cX12_laysUnit 1 = .ok (.istore 4, 2) := by decide +kernel
theorem dX12_laysUnit_3 : decode cX12_laysUnit 3 = .ok (.iload 4, 2) := by decide +kernel
theorem dX12_laysUnit_5 : decode cX12_laysUnit 5 = .ok (.bipush 20, 2) := by decide +kernel
theorem dX12_laysUnit_7 : decode cX12_laysUnit 7 = .ok (.if_icmp .ge 62, 3) := by decide +kernel
theorem dX12_laysUnit_10 : decode cX12_laysUnit 10 = .ok (.aload_n 0, 1) := by decide +kernel
theorem dX12_laysUnit_11 : decode cX12_laysUnit 11 = .ok (.iload 4, 2) := by decide +kernel
theorem dX12_laysUnit_13 : decode cX12_laysUnit 13 = .ok (.invokevirtual 169, 3) := by decide +kernel
theorem dX12_laysUnit_16 : decode cX12_laysUnit 16 = .ok (.ifCond .eq 47, 3) := by decide +kernel
theorem dX12_laysUnit_19 : decode cX12_laysUnit 19 = .ok (.aload_n 0, 1) := by decide +kernel
theorem dX12_laysUnit_20 : decode cX12_laysUnit 20 = .ok (.getfield 34, 3) := by decide +kernel
theorem dX12_laysUnit_23 : decode cX12_laysUnit 23 = .ok (.iload 4, 2) := by decide +kernel
theorem dX12_laysUnit_25 : decode cX12_laysUnit 25 = .ok (.iaload, 1) := by decide +kernel
theorem dX12_laysUnit_26 : decode cX12_laysUnit 26 = .ok (.iload_n 1, 1) := by decide +kernel
theorem dX12_laysUnit_27 : decode cX12_laysUnit 27 = .ok (.if_icmp .ne 36, 3) := by decide +kernel
theorem dX12_laysUnit_30 : decode cX12_laysUnit 30 = .ok (.aload_n 0, 1) := by decide +kernel
theorem dX12_laysUnit_31 : decode cX12_laysUnit 31 = .ok (.getfield 37, 3) := by decide +kernel
theorem dX12_laysUnit_34 : decode cX12_laysUnit 34 = .ok (.iload 4, 2) := by decide +kernel
theorem dX12_laysUnit_36 : decode cX12_laysUnit 36 = .ok (.iload_n 2, 1) := by decide +kernel
theorem dX12_laysUnit_37 : decode cX12_laysUnit 37 = .ok (.ifCond .ne 7, 3) := by decide +kernel
theorem dX12_laysUnit_40 : decode cX12_laysUnit 40 = .ok (.iload_n 3, 1) := by decide +kernel
theorem dX12_laysUnit_41 : decode cX12_laysUnit 41 = .ok (.goto 4, 3) := by decide +kernel
theorem dX12_laysUnit_44 : decode cX12_laysUnit 44 = .ok (.iconst 0, 1) := by decide +kernel
theorem dX12_laysUnit_45 : decode cX12_laysUnit 45 = .ok (.iastore, 1) := by decide +kernel
theorem dX12_laysUnit_46 : decode cX12_laysUnit 46 = .ok (.aload_n 0, 1) := by decide +kernel
theorem dX12_laysUnit_47 : decode cX12_laysUnit 47 = .ok (.getfield 40, 3) := by decide +kernel
theorem dX12_laysUnit_50 : decode cX12_laysUnit 50 = .ok (.iload 4, 2) := by decide +kernel
theorem dX12_laysUnit_52 : decode cX12_laysUnit 52 = .ok (.iload_n 2, 1) := by decide +kernel
theorem dX12_laysUnit_53 : decode cX12_laysUnit 53 = .ok (.iconst 1, 1) := by decide +kernel
theorem dX12_laysUnit_54 : decode cX12_laysUnit 54 = .ok (.if_icmp .ne 7, 3) := by decide +kernel
theorem dX12_laysUnit_57 : decode cX12_laysUnit 57 = .ok (.iload_n 3, 1) := by decide +kernel
theorem dX12_laysUnit_58 : decode cX12_laysUnit 58 = .ok (.goto 4, 3) := by decide +kernel
theorem dX12_laysUnit_61 : decode cX12_laysUnit 61 = .ok (.iconst 0, 1) := by decide +kernel
theorem dX12_laysUnit_62 : decode cX12_laysUnit 62 = .ok (.iastore, 1) := by decide +kernel
theorem dX12_laysUnit_63 : decode cX12_laysUnit 63 = .ok (.iinc 4 1, 3) := by decide +kernel
theorem dX12_laysUnit_66 : decode cX12_laysUnit 66 = .ok (.goto (-63), 3) := by decide +kernel
theorem dX12_laysUnit_69 : decode cX12_laysUnit 69 = .ok (.return_, 1) := by decide +kernel
theorem dX12_align_0 : decode cX12_align 0 = .ok (.iload_n 1, 1) := by decide +kernel
theorem dX12_align_1 : decode cX12_align 1 = .ok (.iconst 0, 1) := by decide +kernel
theorem dX12_align_2 : decode cX12_align 2 = .ok (.iconst 5, 1) := by decide +kernel
theorem dX12_align_3 : decode cX12_align 3 = .ok (.invokestatic 59, 3) := by decide +kernel
theorem dX12_align_6 : decode cX12_align 6 = .ok (.ifCond .ne 5, 3) := by decide +kernel
theorem dX12_align_9 : decode cX12_align 9 = .ok (.iconst (-1), 1) := by decide +kernel
theorem dX12_align_10 : decode cX12_align 10 = .ok (.ireturn, 1) := by decide +kernel
theorem dX12_align_11 : decode cX12_align 11 = .ok (.aload_n 0, 1) := by decide +kernel
theorem dX12_align_12 : decode cX12_align 12 = .ok (.invokevirtual 190, 3) := by decide +kernel
theorem dX12_align_15 : decode cX12_align 15 = .ok (.aload_n 0, 1) := by decide +kernel
theorem dX12_align_16 : decode cX12_align 16 = .ok (.getfield 181, 3) := by decide +kernel
theorem dX12_align_19 : decode cX12_align 19 = .ok (.iconst 2, 1) := by decide +kernel
theorem dX12_align_20 : decode cX12_align 20 = .ok (.if_icmp .ge 6, 3) := by decide +kernel
theorem dX12_align_23 : decode cX12_align 23 = .ok (.bipush (-2), 2) := by decide +kernel
theorem dX12_align_25 : decode cX12_align 25 = .ok (.ireturn, 1) := by decide +kernel
theorem dX12_align_26 : decode cX12_align 26 = .ok (.aload_n 0, 1) := by decide +kernel
theorem dX12_align_27 : decode cX12_align 27 = .ok (.invokevirtual 218, 3) := by decide +kernel
theorem dX12_align_30 : decode cX12_align 30 = .ok (.iconst 0, 1) := by decide +kernel
theorem dX12_align_31 : decode cX12_align 31 = .ok (.istore_n 2, 1) := by decide +kernel
theorem dX12_align_32 : decode cX12_align 32 = .ok (.iload_n 1, 1) := by decide +kernel
theorem dX12_align_33 : decode cX12_align 33 = .ok (.iconst 3, 1) := by decide +kernel
theorem dX12_align_34 : decode cX12_align 34 = .ok (.idiv, 1) := by decide +kernel
theorem dX12_align_35 : decode cX12_align 35 = .ok (.istore_n 3, 1) := by decide +kernel
theorem dX12_align_36 : decode cX12_align 36 = .ok (.iconst 0, 1) := by decide +kernel
theorem dX12_align_37 : decode cX12_align 37 = .ok (.istore 4, 2) := by decide +kernel
theorem dX12_align_39 : decode cX12_align 39 = .ok (.iload 4, 2) := by decide +kernel
theorem dX12_align_41 : decode cX12_align 41 = .ok (.aload_n 0, 1) := by decide +kernel
theorem dX12_align_42 : decode cX12_align 42 = .ok (.getfield 181, 3) := by decide +kernel
theorem dX12_align_45 : decode cX12_align 45 = .ok (.if_icmp .ge 54, 3) := by decide +kernel
theorem dX12_align_48 : decode cX12_align 48 = .ok (.aload_n 0, 1) := by decide +kernel
theorem dX12_align_49 : decode cX12_align 49 = .ok (.bipush 20, 2) := by decide +kernel
theorem dX12_align_51 : decode cX12_align 51 = .ok (.iload_n 3, 1) := by decide +kernel
theorem dX12_align_52 : decode cX12_align 52 = .ok (.iload_n 1, 1) := by decide +kernel
theorem dX12_align_53 : decode cX12_align 53 = .ok (.iconst 3, 1) := by decide +kernel
theorem dX12_align_54 : decode cX12_align 54 = .ok (.irem, 1) := by decide +kernel
theorem dX12_align_55 : decode cX12_align 55 = .ok (.invokevirtual 221, 3) := by decide +kernel
theorem dX12_align_58 : decode cX12_align 58 = .ok (.aload_n 0, 1) := by decide +kernel
theorem dX12_align_59 : decode cX12_align 59 = .ok (.iload 4, 2) := by decide +kernel
theorem dX12_align_61 : decode cX12_align 61 = .ok (.iload_n 3, 1) := by decide +kernel
theorem dX12_align_62 : decode cX12_align 62 = .ok (.iload_n 1, 1) := by decide +kernel
theorem dX12_align_63 : decode cX12_align 63 = .ok (.iconst 3, 1) := by decide +kernel
theorem dX12_align_64 : decode cX12_align 64 = .ok (.irem, 1) := by decide +kernel
theorem dX12_align_65 : decode cX12_align 65 = .ok (.invokevirtual 221, 3) := by decide +kernel
theorem dX12_align_68 : decode cX12_align 68 = .ok (.isub, 1) := by decide +kernel
theorem dX12_align_69 : decode cX12_align 69 = .ok (.istore 5, 2) := by decide +kernel
theorem dX12_align_71 : decode cX12_align 71 = .ok (.aload_n 0, 1) := by decide +kernel
theorem dX12_align_72 : decode cX12_align 72 = .ok (.iload 4, 2) := by decide +kernel
theorem dX12_align_74 : decode cX12_align 74 = .ok (.iload_n 3, 1) := by decide +kernel
theorem dX12_align_75 : decode cX12_align 75 = .ok (.iload 5, 2) := by decide +kernel
theorem dX12_align_77 : decode cX12_align 77 = .ok (.invokevirtual 224, 3) := by decide +kernel
theorem dX12_align_80 : decode cX12_align 80 = .ok (.iload_n 2, 1) := by decide +kernel
theorem dX12_align_81 : decode cX12_align 81 = .ok (.iload 5, 2) := by decide +kernel
theorem dX12_align_83 : decode cX12_align 83 = .ok (.ifCond .eq 7, 3) := by decide +kernel
theorem dX12_align_86 : decode cX12_align 86 = .ok (.iconst 1, 1) := by decide +kernel
theorem dX12_align_87 : decode cX12_align 87 = .ok (.goto 4, 3) := by decide +kernel
theorem dX12_align_90 : decode cX12_align 90 = .ok (.iconst 0, 1) := by decide +kernel
theorem dX12_align_91 : decode cX12_align 91 = .ok (.iadd, 1) := by decide +kernel
theorem dX12_align_92 : decode cX12_align 92 = .ok (.istore_n 2, 1) := by decide +kernel
theorem dX12_align_93 : decode cX12_align 93 = .ok (.iinc 4 1, 3) := by decide +kernel
theorem dX12_align_96 : decode cX12_align 96 = .ok (.goto (-57), 3) := by decide +kernel
theorem dX12_align_99 : decode cX12_align 99 = .ok (.aload_n 0, 1) := by decide +kernel
theorem dX12_align_100 : decode cX12_align 100 = .ok (.invokevirtual 199, 3) := by decide +kernel
theorem dX12_align_103 : decode cX12_align 103 = .ok (.ifCond .ne 6, 3) := by decide +kernel
theorem dX12_align_106 : decode cX12_align 106 = .ok (.bipush (-4), 2) := by decide +kernel
theorem dX12_align_108 : decode cX12_align 108 = .ok (.ireturn, 1) := by decide +kernel
theorem dX12_align_109 : decode cX12_align 109 = .ok (.aload_n 0, 1) := by decide +kernel
theorem dX12_align_110 : decode cX12_align 110 = .ok (.invokevirtual 91, 3) := by decide +kernel
theorem dX12_align_113 : decode cX12_align 113 = .ok (.aload_n 0, 1) := by decide +kernel
theorem dX12_align_114 : decode cX12_align 114 = .ok (.invokevirtual 203, 3) := by decide +kernel
theorem dX12_align_117 : decode cX12_align 117 = .ok (.iload_n 2, 1) := by decide +kernel
theorem dX12_align_118 : decode cX12_align 118 = .ok (.ireturn, 1) := by decide +kernel
theorem dX12_sorts_0 : decode cX12_sorts 0 = .ok (.iconst 0, 1) := by decide +kernel
theorem dX12_sorts_1 : decode cX12_sorts 1 = .ok (.istore_n 2, 1) := by decide +kernel
theorem dX12_sorts_2 : decode cX12_sorts 2 = .ok (.iload_n 2, 1) := by decide +kernel
theorem dX12_sorts_3 : decode cX12_sorts 3 = .ok (.aload_n 0, 1) := by decide +kernel
theorem dX12_sorts_4 : decode cX12_sorts 4 = .ok (.getfield 181, 3) := by decide +kernel
theorem dX12_sorts_7 : decode cX12_sorts 7 = .ok (.if_icmp .ge 72, 3) := by decide +kernel
theorem dX12_sorts_10 : decode cX12_sorts 10 = .ok (.iload_n 2, 1) := by decide +kernel
theorem dX12_sorts_11 : decode cX12_sorts 11 = .ok (.istore_n 3, 1) := by decide +kernel
theorem dX12_sorts_12 : decode cX12_sorts 12 = .ok (.iload_n 3, 1) := by decide +kernel
theorem dX12_sorts_13 : decode cX12_sorts 13 = .ok (.ifCond .le 53, 3) := by decide +kernel
theorem dX12_sorts_16 : decode cX12_sorts 16 = .ok (.aload_n 0, 1) := by decide +kernel
theorem dX12_sorts_17 : decode cX12_sorts 17 = .ok (.getfield 28, 3) := by decide +kernel
theorem dX12_sorts_20 : decode cX12_sorts 20 = .ok (.iconst 2, 1) := by decide +kernel
theorem dX12_sorts_21 : decode cX12_sorts 21 = .ok (.aload_n 0, 1) := by decide +kernel
theorem dX12_sorts_22 : decode cX12_sorts 22 = .ok (.getfield 43, 3) := by decide +kernel
theorem dX12_sorts_25 : decode cX12_sorts 25 = .ok (.iload_n 3, 1) := by decide +kernel
theorem dX12_sorts_26 : decode cX12_sorts 26 = .ok (.iconst 1, 1) := by decide +kernel
theorem dX12_sorts_27 : decode cX12_sorts 27 = .ok (.isub, 1) := by decide +kernel
theorem dX12_sorts_28 : decode cX12_sorts 28 = .ok (.iaload, 1) := by decide +kernel
theorem dX12_sorts_29 : decode cX12_sorts 29 = .ok (.imul, 1) := by decide +kernel
theorem dX12_sorts_30 : decode cX12_sorts 30 = .ok (.iload_n 1, 1) := by decide +kernel
theorem dX12_sorts_31 : decode cX12_sorts 31 = .ok (.iadd, 1) := by decide +kernel
theorem dX12_sorts_32 : decode cX12_sorts 32 = .ok (.iaload, 1) := by decide +kernel
theorem dX12_sorts_33 : decode cX12_sorts 33 = .ok (.aload_n 0, 1) := by decide +kernel
theorem dX12_sorts_34 : decode cX12_sorts 34 = .ok (.getfield 28, 3) := by decide +kernel
theorem dX12_sorts_37 : decode cX12_sorts 37 = .ok (.iconst 2, 1) := by decide +kernel
theorem dX12_sorts_38 : decode cX12_sorts 38 = .ok (.iload_n 2, 1) := by decide +kernel
theorem dX12_sorts_39 : decode cX12_sorts 39 = .ok (.imul, 1) := by decide +kernel
theorem dX12_sorts_40 : decode cX12_sorts 40 = .ok (.iload_n 1, 1) := by decide +kernel
theorem dX12_sorts_41 : decode cX12_sorts 41 = .ok (.iadd, 1) := by decide +kernel
theorem dX12_sorts_42 : decode cX12_sorts 42 = .ok (.iaload, 1) := by decide +kernel
theorem dX12_sorts_43 : decode cX12_sorts 43 = .ok (.if_icmp .le 23, 3) := by decide +kernel
theorem dX12_sorts_46 : decode cX12_sorts 46 = .ok (.aload_n 0, 1) := by decide +kernel
theorem dX12_sorts_47 : decode cX12_sorts 47 = .ok (.getfield 43, 3) := by decide +kernel
theorem dX12_sorts_50 : decode cX12_sorts 50 = .ok (.iload_n 3, 1) := by decide +kernel
theorem dX12_sorts_51 : decode cX12_sorts 51 = .ok (.aload_n 0, 1) := by decide +kernel
theorem dX12_sorts_52 : decode cX12_sorts 52 = .ok (.getfield 43, 3) := by decide +kernel
theorem dX12_sorts_55 : decode cX12_sorts 55 = .ok (.iload_n 3, 1) := by decide +kernel
theorem dX12_sorts_56 : decode cX12_sorts 56 = .ok (.iconst 1, 1) := by decide +kernel
theorem dX12_sorts_57 : decode cX12_sorts 57 = .ok (.isub, 1) := by decide +kernel
theorem dX12_sorts_58 : decode cX12_sorts 58 = .ok (.iaload, 1) := by decide +kernel
theorem dX12_sorts_59 : decode cX12_sorts 59 = .ok (.iastore, 1) := by decide +kernel
theorem dX12_sorts_60 : decode cX12_sorts 60 = .ok (.iinc 3 (-1), 3) := by decide +kernel
theorem dX12_sorts_63 : decode cX12_sorts 63 = .ok (.goto (-51), 3) := by decide +kernel
theorem dX12_sorts_66 : decode cX12_sorts 66 = .ok (.aload_n 0, 1) := by decide +kernel
theorem dX12_sorts_67 : decode cX12_sorts 67 = .ok (.getfield 43, 3) := by decide +kernel
theorem dX12_sorts_70 : decode cX12_sorts 70 = .ok (.iload_n 3, 1) := by decide +kernel
theorem dX12_sorts_71 : decode cX12_sorts 71 = .ok (.iload_n 2, 1) := by decide +kernel
theorem dX12_sorts_72 : decode cX12_sorts 72 = .ok (.iastore, 1) := by decide +kernel
theorem dX12_sorts_73 : decode cX12_sorts 73 = .ok (.iinc 2 1, 3) := by decide +kernel
theorem dX12_sorts_76 : decode cX12_sorts 76 = .ok (.goto (-74), 3) := by decide +kernel
theorem dX12_sorts_79 : decode cX12_sorts 79 = .ok (.return_, 1) := by decide +kernel
theorem dX12_distribute_0 : decode cX12_distribute 0 = .ok (.aload_n 0, 1) := by decide +kernel
theorem dX12_distribute_1 : decode cX12_distribute 1 = .ok (.invokevirtual 190, 3) := by decide +kernel
theorem dX12_distribute_4 : decode cX12_distribute 4 = .ok (.iload_n 1, 1) := by decide +kernel
theorem dX12_distribute_5 : decode cX12_distribute 5 = .ok (.iconst 0, 1) := by decide +kernel
theorem dX12_distribute_6 : decode cX12_distribute 6 = .ok (.iconst 1, 1) := by decide +kernel
theorem dX12_distribute_7 : decode cX12_distribute 7 = .ok (.invokestatic 59, 3) := by decide +kernel
theorem dX12_distribute_10 : decode cX12_distribute 10 = .ok (.ifCond .eq 11, 3) := by decide +kernel
theorem dX12_distribute_13 : decode cX12_distribute 13 = .ok (.aload_n 0, 1) := by decide +kernel
theorem dX12_distribute_14 : decode cX12_distribute 14 = .ok (.getfield 181, 3) := by decide +kernel
theorem dX12_distribute_17 : decode cX12_distribute 17 = .ok (.iconst 3, 1) := by decide +kernel
theorem dX12_distribute_18 : decode cX12_distribute 18 = .ok (.if_icmp .ge 6, 3) := by decide +kernel
theorem dX12_distribute_21 : decode cX12_distribute 21 = .ok (.ldc 117, 2) := by decide +kernel
theorem dX12_distribute_23 : decode cX12_distribute 23 = .ok (.ireturn, 1) := by decide +kernel
theorem dX12_distribute_24 : decode cX12_distribute 24 = .ok (.aload_n 0, 1) := by decide +kernel
theorem dX12_distribute_25 : decode cX12_distribute 25 = .ok (.iload_n 1, 1) := by decide +kernel
theorem dX12_distribute_26 : decode cX12_distribute 26 = .ok (.invokevirtual 228, 3) := by decide +kernel
theorem dX12_distribute_29 : decode cX12_distribute 29 = .ok (.aload_n 0, 1) := by decide +kernel
theorem dX12_distribute_30 : decode cX12_distribute 30 = .ok (.invokevirtual 218, 3) := by decide +kernel
theorem dX12_distribute_33 : decode cX12_distribute 33 = .ok (.aload_n 0, 1) := by decide +kernel
theorem dX12_distribute_34 : decode cX12_distribute 34 = .ok (.getfield 181, 3) := by decide +kernel
theorem dX12_distribute_37 : decode cX12_distribute 37 = .ok (.iconst 1, 1) := by decide +kernel
theorem dX12_distribute_38 : decode cX12_distribute 38 = .ok (.isub, 1) := by decide +kernel
theorem dX12_distribute_39 : decode cX12_distribute 39 = .ok (.istore_n 2, 1) := by decide +kernel
theorem dX12_distribute_40 : decode cX12_distribute 40 = .ok (.aload_n 0, 1) := by decide +kernel
theorem dX12_distribute_41 : decode cX12_distribute 41 = .ok (.getfield 28, 3) := by decide +kernel
theorem dX12_distribute_44 : decode cX12_distribute 44 = .ok (.iconst 2, 1) := by decide +kernel
theorem dX12_distribute_45 : decode cX12_distribute 45 = .ok (.aload_n 0, 1) := by decide +kernel
theorem dX12_distribute_46 : decode cX12_distribute 46 = .ok (.getfield 43, 3) := by decide +kernel
theorem dX12_distribute_49 : decode cX12_distribute 49 = .ok (.iload_n 2, 1) := by decide +kernel
theorem dX12_distribute_50 : decode cX12_distribute 50 = .ok (.iaload, 1) := by decide +kernel
theorem dX12_distribute_51 : decode cX12_distribute 51 = .ok (.imul, 1) := by decide +kernel
theorem dX12_distribute_52 : decode cX12_distribute 52 = .ok (.iload_n 1, 1) := by decide +kernel
theorem dX12_distribute_53 : decode cX12_distribute 53 = .ok (.iadd, 1) := by decide +kernel
theorem dX12_distribute_54 : decode cX12_distribute 54 = .ok (.iaload, 1) := by decide +kernel
theorem dX12_distribute_55 : decode cX12_distribute 55 = .ok (.aload_n 0, 1) := by decide +kernel
theorem dX12_distribute_56 : decode cX12_distribute 56 = .ok (.getfield 31, 3) := by decide +kernel
theorem dX12_distribute_59 : decode cX12_distribute 59 = .ok (.iconst 2, 1) := by decide +kernel
theorem dX12_distribute_60 : decode cX12_distribute 60 = .ok (.aload_n 0, 1) := by decide +kernel
theorem dX12_distribute_61 : decode cX12_distribute 61 = .ok (.getfield 43, 3) := by decide +kernel
theorem dX12_distribute_64 : decode cX12_distribute 64 = .ok (.iconst 0, 1) := by decide +kernel
theorem dX12_distribute_65 : decode cX12_distribute 65 = .ok (.iaload, 1) := by decide +kernel
theorem dX12_distribute_66 : decode cX12_distribute 66 = .ok (.imul, 1) := by decide +kernel
theorem dX12_distribute_67 : decode cX12_distribute 67 = .ok (.iload_n 1, 1) := by decide +kernel
theorem dX12_distribute_68 : decode cX12_distribute 68 = .ok (.iadd, 1) := by decide +kernel
theorem dX12_distribute_69 : decode cX12_distribute 69 = .ok (.iaload, 1) := by decide +kernel
theorem dX12_distribute_70 : decode cX12_distribute 70 = .ok (.isub, 1) := by decide +kernel
theorem dX12_distribute_71 : decode cX12_distribute 71 = .ok (.istore_n 3, 1) := by decide +kernel
theorem dX12_distribute_72 : decode cX12_distribute 72 = .ok (.iconst 1, 1) := by decide +kernel
theorem dX12_distribute_73 : decode cX12_distribute 73 = .ok (.istore 4, 2) := by decide +kernel
theorem dX12_distribute_75 : decode cX12_distribute 75 = .ok (.iload 4, 2) := by decide +kernel
theorem dX12_distribute_77 : decode cX12_distribute 77 = .ok (.iload_n 2, 1) := by decide +kernel
theorem dX12_distribute_78 : decode cX12_distribute 78 = .ok (.if_icmp .ge 45, 3) := by decide +kernel
theorem dX12_distribute_81 : decode cX12_distribute 81 = .ok (.iload_n 3, 1) := by decide +kernel
theorem dX12_distribute_82 : decode cX12_distribute 82 = .ok (.aload_n 0, 1) := by decide +kernel
theorem dX12_distribute_83 : decode cX12_distribute 83 = .ok (.getfield 31, 3) := by decide +kernel
theorem dX12_distribute_86 : decode cX12_distribute 86 = .ok (.iconst 2, 1) := by decide +kernel
theorem dX12_distribute_87 : decode cX12_distribute 87 = .ok (.aload_n 0, 1) := by decide +kernel
theorem dX12_distribute_88 : decode cX12_distribute 88 = .ok (.getfield 43, 3) := by decide +kernel
theorem dX12_distribute_91 : decode cX12_distribute 91 = .ok (.iload 4, 2) := by decide +kernel
theorem dX12_distribute_93 : decode cX12_distribute 93 = .ok (.iaload, 1) := by decide +kernel
theorem dX12_distribute_94 : decode cX12_distribute 94 = .ok (.imul, 1) := by decide +kernel
theorem dX12_distribute_95 : decode cX12_distribute 95 = .ok (.iload_n 1, 1) := by decide +kernel
theorem dX12_distribute_96 : decode cX12_distribute 96 = .ok (.iadd, 1) := by decide +kernel
theorem dX12_distribute_97 : decode cX12_distribute 97 = .ok (.iaload, 1) := by decide +kernel
theorem dX12_distribute_98 : decode cX12_distribute 98 = .ok (.aload_n 0, 1) := by decide +kernel
theorem dX12_distribute_99 : decode cX12_distribute 99 = .ok (.getfield 28, 3) := by decide +kernel
theorem dX12_distribute_102 : decode cX12_distribute 102 = .ok (.iconst 2, 1) := by decide +kernel
theorem dX12_distribute_103 : decode cX12_distribute 103 = .ok (.aload_n 0, 1) := by decide +kernel
theorem dX12_distribute_104 : decode cX12_distribute 104 = .ok (.getfield 43, 3) := by decide +kernel
theorem dX12_distribute_107 : decode cX12_distribute 107 = .ok (.iload 4, 2) := by decide +kernel
theorem dX12_distribute_109 : decode cX12_distribute 109 = .ok (.iaload, 1) := by decide +kernel
theorem dX12_distribute_110 : decode cX12_distribute 110 = .ok (.imul, 1) := by decide +kernel
theorem dX12_distribute_111 : decode cX12_distribute 111 = .ok (.iload_n 1, 1) := by decide +kernel
theorem dX12_distribute_112 : decode cX12_distribute 112 = .ok (.iadd, 1) := by decide +kernel
theorem dX12_distribute_113 : decode cX12_distribute 113 = .ok (.iaload, 1) := by decide +kernel
theorem dX12_distribute_114 : decode cX12_distribute 114 = .ok (.isub, 1) := by decide +kernel
theorem dX12_distribute_115 : decode cX12_distribute 115 = .ok (.isub, 1) := by decide +kernel
theorem dX12_distribute_116 : decode cX12_distribute 116 = .ok (.istore_n 3, 1) := by decide +kernel
theorem dX12_distribute_117 : decode cX12_distribute 117 = .ok (.iinc 4 1, 3) := by decide +kernel
theorem dX12_distribute_120 : decode cX12_distribute 120 = .ok (.goto (-45), 3) := by decide +kernel
theorem dX12_distribute_123 : decode cX12_distribute 123 = .ok (.iload_n 3, 1) := by decide +kernel
theorem dX12_distribute_124 : decode cX12_distribute 124 = .ok (.iload_n 2, 1) := by decide +kernel
theorem dX12_distribute_125 : decode cX12_distribute 125 = .ok (.irem, 1) := by decide +kernel
theorem dX12_distribute_126 : decode cX12_distribute 126 = .ok (.istore 4, 2) := by decide +kernel
theorem dX12_distribute_128 : decode cX12_distribute 128 = .ok (.iload 4, 2) := by decide +kernel
theorem dX12_distribute_130 : decode cX12_distribute 130 = .ok (.ifCond .ge 10, 3) := by decide +kernel
theorem dX12_distribute_133 : decode cX12_distribute 133 = .ok (.iload 4, 2) := by decide +kernel
theorem dX12_distribute_135 : decode cX12_distribute 135 = .ok (.iload_n 2, 1) := by decide +kernel
theorem dX12_distribute_136 : decode cX12_distribute 136 = .ok (.iadd, 1) := by decide +kernel
theorem dX12_distribute_137 : decode cX12_distribute 137 = .ok (.goto 5, 3) := by decide +kernel
theorem dX12_distribute_140 : decode cX12_distribute 140 = .ok (.iload 4, 2) := by decide +kernel
theorem dX12_distribute_142 : decode cX12_distribute 142 = .ok (.istore 4, 2) := by decide +kernel
theorem dX12_distribute_144 : decode cX12_distribute 144 = .ok (.iload_n 3, 1) := by decide +kernel
theorem dX12_distribute_145 : decode cX12_distribute 145 = .ok (.iload 4, 2) := by decide +kernel
theorem dX12_distribute_147 : decode cX12_distribute 147 = .ok (.isub, 1) := by decide +kernel
theorem dX12_distribute_148 : decode cX12_distribute 148 = .ok (.iload_n 2, 1) := by decide +kernel
theorem dX12_distribute_149 : decode cX12_distribute 149 = .ok (.idiv, 1) := by decide +kernel
theorem dX12_distribute_150 : decode cX12_distribute 150 = .ok (.istore 5, 2) := by decide +kernel
theorem dX12_distribute_152 : decode cX12_distribute 152 = .ok (.aload_n 0, 1) := by decide +kernel
theorem dX12_distribute_153 : decode cX12_distribute 153 = .ok (.getfield 31, 3) := by decide +kernel
theorem dX12_distribute_156 : decode cX12_distribute 156 = .ok (.iconst 2, 1) := by decide +kernel
theorem dX12_distribute_157 : decode cX12_distribute 157 = .ok (.aload_n 0, 1) := by decide +kernel
theorem dX12_distribute_158 : decode cX12_distribute 158 = .ok (.getfield 43, 3) := by decide +kernel
theorem dX12_distribute_161 : decode cX12_distribute 161 = .ok (.iconst 0, 1) := by decide +kernel
theorem dX12_distribute_162 : decode cX12_distribute 162 = .ok (.iaload, 1) := by decide +kernel
theorem dX12_distribute_163 : decode cX12_distribute 163 = .ok (.imul, 1) := by decide +kernel
theorem dX12_distribute_164 : decode cX12_distribute 164 = .ok (.iload_n 1, 1) := by decide +kernel
theorem dX12_distribute_165 : decode cX12_distribute 165 = .ok (.iadd, 1) := by decide +kernel
theorem dX12_distribute_166 : decode cX12_distribute 166 = .ok (.iaload, 1) := by decide +kernel
theorem dX12_distribute_167 : decode cX12_distribute 167 = .ok (.istore 6, 2) := by decide +kernel
theorem dX12_distribute_169 : decode cX12_distribute 169 = .ok (.iconst 1, 1) := by decide +kernel
theorem dX12_distribute_170 : decode cX12_distribute 170 = .ok (.istore 7, 2) := by decide +kernel
theorem dX12_distribute_172 : decode cX12_distribute 172 = .ok (.iload 7, 2) := by decide +kernel
theorem dX12_distribute_174 : decode cX12_distribute 174 = .ok (.aload_n 0, 1) := by decide +kernel
theorem dX12_distribute_175 : decode cX12_distribute 175 = .ok (.getfield 181, 3) := by decide +kernel
theorem dX12_distribute_178 : decode cX12_distribute 178 = .ok (.if_icmp .ge 86, 3) := by decide +kernel
theorem dX12_distribute_181 : decode cX12_distribute 181 = .ok (.iconst 2, 1) := by decide +kernel
theorem dX12_distribute_182 : decode cX12_distribute 182 = .ok (.aload_n 0, 1) := by decide +kernel
theorem dX12_distribute_183 : decode cX12_distribute 183 = .ok (.getfield 43, 3) := by decide +kernel
theorem dX12_distribute_186 : decode cX12_distribute 186 = .ok (.iload 7, 2) := by decide +kernel
theorem dX12_distribute_188 : decode cX12_distribute 188 = .ok (.iaload, 1) := by decide +kernel
theorem dX12_distribute_189 : decode cX12_distribute 189 = .ok (.imul, 1) := by decide +kernel
theorem dX12_distribute_190 : decode cX12_distribute 190 = .ok (.iload_n 1, 1) := by decide +kernel
theorem dX12_distribute_191 : decode cX12_distribute 191 = .ok (.iadd, 1) := by decide +kernel
theorem dX12_distribute_192 : decode cX12_distribute 192 = .ok (.istore 8, 2) := by decide +kernel
theorem dX12_distribute_194 : decode cX12_distribute 194 = .ok (.iload 6, 2) := by decide +kernel
theorem dX12_distribute_196 : decode cX12_distribute 196 = .ok (.iload 5, 2) := by decide +kernel
theorem dX12_distribute_198 : decode cX12_distribute 198 = .ok (.iload 7, 2) := by decide +kernel
theorem dX12_distribute_200 : decode cX12_distribute 200 = .ok (.iconst 1, 1) := by decide +kernel
theorem dX12_distribute_201 : decode cX12_distribute 201 = .ok (.isub, 1) := by decide +kernel
theorem dX12_distribute_202 : decode cX12_distribute 202 = .ok (.iload 4, 2) := by decide +kernel
theorem dX12_distribute_204 : decode cX12_distribute 204 = .ok (.if_icmp .ge 7, 3) := by decide +kernel
theorem dX12_distribute_207 : decode cX12_distribute 207 = .ok (.iconst 1, 1) := by decide +kernel
theorem dX12_distribute_208 : decode cX12_distribute 208 = .ok (.goto 4, 3) := by decide +kernel
theorem dX12_distribute_211 : decode cX12_distribute 211 = .ok (.iconst 0, 1) := by decide +kernel
theorem dX12_distribute_212 : decode cX12_distribute 212 = .ok (.iadd, 1) := by decide +kernel
theorem dX12_distribute_213 : decode cX12_distribute 213 = .ok (.iadd, 1) := by decide +kernel
theorem dX12_distribute_214 : decode cX12_distribute 214 = .ok (.istore 6, 2) := by decide +kernel
theorem dX12_distribute_216 : decode cX12_distribute 216 = .ok (.aload_n 0, 1) := by decide +kernel
theorem dX12_distribute_217 : decode cX12_distribute 217 = .ok (.aload_n 0, 1) := by decide +kernel
theorem dX12_distribute_218 : decode cX12_distribute 218 = .ok (.getfield 43, 3) := by decide +kernel
theorem dX12_distribute_221 : decode cX12_distribute 221 = .ok (.iload 7, 2) := by decide +kernel
theorem dX12_distribute_223 : decode cX12_distribute 223 = .ok (.iaload, 1) := by decide +kernel
theorem dX12_distribute_224 : decode cX12_distribute 224 = .ok (.iload_n 1, 1) := by decide +kernel
theorem dX12_distribute_225 : decode cX12_distribute 225 = .ok (.iload 6, 2) := by decide +kernel
theorem dX12_distribute_227 : decode cX12_distribute 227 = .ok (.aload_n 0, 1) := by decide +kernel
theorem dX12_distribute_228 : decode cX12_distribute 228 = .ok (.getfield 28, 3) := by decide +kernel
theorem dX12_distribute_231 : decode cX12_distribute 231 = .ok (.iload 8, 2) := by decide +kernel
theorem dX12_distribute_233 : decode cX12_distribute 233 = .ok (.iaload, 1) := by decide +kernel
theorem dX12_distribute_234 : decode cX12_distribute 234 = .ok (.isub, 1) := by decide +kernel
theorem dX12_distribute_235 : decode cX12_distribute 235 = .ok (.invokevirtual 224, 3) := by decide +kernel
theorem dX12_distribute_238 : decode cX12_distribute 238 = .ok (.iload 6, 2) := by decide +kernel
theorem dX12_distribute_240 : decode cX12_distribute 240 = .ok (.aload_n 0, 1) := by decide +kernel
theorem dX12_distribute_241 : decode cX12_distribute 241 = .ok (.getfield 31, 3) := by decide +kernel
theorem dX12_distribute_244 : decode cX12_distribute 244 = .ok (.iload 8, 2) := by decide +kernel
theorem dX12_distribute_246 : decode cX12_distribute 246 = .ok (.iaload, 1) := by decide +kernel
theorem dX12_distribute_247 : decode cX12_distribute 247 = .ok (.aload_n 0, 1) := by decide +kernel
theorem dX12_distribute_248 : decode cX12_distribute 248 = .ok (.getfield 28, 3) := by decide +kernel
theorem dX12_distribute_251 : decode cX12_distribute 251 = .ok (.iload 8, 2) := by decide +kernel
theorem dX12_distribute_253 : decode cX12_distribute 253 = .ok (.iaload, 1) := by decide +kernel
theorem dX12_distribute_254 : decode cX12_distribute 254 = .ok (.isub, 1) := by decide +kernel
theorem dX12_distribute_255 : decode cX12_distribute 255 = .ok (.iadd, 1) := by decide +kernel
theorem dX12_distribute_256 : decode cX12_distribute 256 = .ok (.istore 6, 2) := by decide +kernel
theorem dX12_distribute_258 : decode cX12_distribute 258 = .ok (.iinc 7 1, 3) := by decide +kernel
theorem dX12_distribute_261 : decode cX12_distribute 261 = .ok (.goto (-89), 3) := by decide +kernel
theorem dX12_distribute_264 : decode cX12_distribute 264 = .ok (.aload_n 0, 1) := by decide +kernel
theorem dX12_distribute_265 : decode cX12_distribute 265 = .ok (.invokevirtual 199, 3) := by decide +kernel
theorem dX12_distribute_268 : decode cX12_distribute 268 = .ok (.ifCond .ne 6, 3) := by decide +kernel
theorem dX12_distribute_271 : decode cX12_distribute 271 = .ok (.ldc 117, 2) := by decide +kernel
theorem dX12_distribute_273 : decode cX12_distribute 273 = .ok (.ireturn, 1) := by decide +kernel
theorem dX12_distribute_274 : decode cX12_distribute 274 = .ok (.aload_n 0, 1) := by decide +kernel
theorem dX12_distribute_275 : decode cX12_distribute 275 = .ok (.invokevirtual 91, 3) := by decide +kernel
theorem dX12_distribute_278 : decode cX12_distribute 278 = .ok (.aload_n 0, 1) := by decide +kernel
theorem dX12_distribute_279 : decode cX12_distribute 279 = .ok (.invokevirtual 203, 3) := by decide +kernel
theorem dX12_distribute_282 : decode cX12_distribute 282 = .ok (.iload_n 3, 1) := by decide +kernel
theorem dX12_distribute_283 : decode cX12_distribute 283 = .ok (.ireturn, 1) := by decide +kernel
theorem dX12_addGuide_0 : decode cX12_addGuide 0 = .ok (.iload_n 1, 1) := by decide +kernel
theorem dX12_addGuide_1 : decode cX12_addGuide 1 = .ok (.iconst 0, 1) := by decide +kernel
theorem dX12_addGuide_2 : decode cX12_addGuide 2 = .ok (.iconst 1, 1) := by decide +kernel
theorem dX12_addGuide_3 : decode cX12_addGuide 3 = .ok (.invokestatic 59, 3) := by decide +kernel
theorem dX12_addGuide_6 : decode cX12_addGuide 6 = .ok (.ifCond .eq 10, 3) := by decide +kernel
theorem dX12_addGuide_9 : decode cX12_addGuide 9 = .ok (.iload_n 2, 1) := by decide +kernel
theorem dX12_addGuide_10 : decode cX12_addGuide 10 = .ok (.invokestatic 85, 3) := by decide +kernel
theorem dX12_addGuide_13 : decode cX12_addGuide 13 = .ok (.ifCond .ne 5, 3) := by decide +kernel
theorem dX12_addGuide_16 : decode cX12_addGuide 16 = .ok (.iconst (-1), 1) := by decide +kernel
theorem dX12_addGuide_17 : decode cX12_addGuide 17 = .ok (.ireturn, 1) := by decide +kernel
theorem dX12_addGuide_18 : decode cX12_addGuide 18 = .ok (.aload_n 0, 1) := by decide +kernel
theorem dX12_addGuide_19 : decode cX12_addGuide 19 = .ok (.getfield 7, 3) := by decide +kernel
theorem dX12_addGuide_22 : decode cX12_addGuide 22 = .ok (.iconst 3, 1) := by decide +kernel
theorem dX12_addGuide_23 : decode cX12_addGuide 23 = .ok (.iaload, 1) := by decide +kernel
theorem dX12_addGuide_24 : decode cX12_addGuide 24 = .ok (.bipush 10, 2) := by decide +kernel
theorem dX12_addGuide_26 : decode cX12_addGuide 26 = .ok (.if_icmp .ne 6, 3) := by decide +kernel
theorem dX12_addGuide_29 : decode cX12_addGuide 29 = .ok (.bipush (-3), 2) := by decide +kernel
theorem dX12_addGuide_31 : decode cX12_addGuide 31 = .ok (.ireturn, 1) := by decide +kernel
theorem dX12_addGuide_32 : decode cX12_addGuide 32 = .ok (.aload_n 0, 1) := by decide +kernel
theorem dX12_addGuide_33 : decode cX12_addGuide 33 = .ok (.invokevirtual 91, 3) := by decide +kernel
theorem dX12_addGuide_36 : decode cX12_addGuide 36 = .ok (.aload_n 0, 1) := by decide +kernel
theorem dX12_addGuide_37 : decode cX12_addGuide 37 = .ok (.getfield 7, 3) := by decide +kernel
theorem dX12_addGuide_40 : decode cX12_addGuide 40 = .ok (.sipush 310, 3) := by decide +kernel
theorem dX12_addGuide_43 : decode cX12_addGuide 43 = .ok (.iconst 2, 1) := by decide +kernel
theorem dX12_addGuide_44 : decode cX12_addGuide 44 = .ok (.aload_n 0, 1) := by decide +kernel
theorem dX12_addGuide_45 : decode cX12_addGuide 45 = .ok (.getfield 7, 3) := by decide +kernel
theorem dX12_addGuide_48 : decode cX12_addGuide 48 = .ok (.iconst 3, 1) := by decide +kernel
theorem dX12_addGuide_49 : decode cX12_addGuide 49 = .ok (.iaload, 1) := by decide +kernel
theorem dX12_addGuide_50 : decode cX12_addGuide 50 = .ok (.imul, 1) := by decide +kernel
theorem dX12_addGuide_51 : decode cX12_addGuide 51 = .ok (.iadd, 1) := by decide +kernel
theorem dX12_addGuide_52 : decode cX12_addGuide 52 = .ok (.iload_n 1, 1) := by decide +kernel
theorem dX12_addGuide_53 : decode cX12_addGuide 53 = .ok (.iastore, 1) := by decide +kernel
theorem dX12_addGuide_54 : decode cX12_addGuide 54 = .ok (.aload_n 0, 1) := by decide +kernel
theorem dX12_addGuide_55 : decode cX12_addGuide 55 = .ok (.getfield 7, 3) := by decide +kernel
theorem dX12_addGuide_58 : decode cX12_addGuide 58 = .ok (.sipush 310, 3) := by decide +kernel
theorem dX12_addGuide_61 : decode cX12_addGuide 61 = .ok (.iconst 2, 1) := by decide +kernel
theorem dX12_addGuide_62 : decode cX12_addGuide 62 = .ok (.aload_n 0, 1) := by decide +kernel
theorem dX12_addGuide_63 : decode cX12_addGuide 63 = .ok (.getfield 7, 3) := by decide +kernel
theorem dX12_addGuide_66 : decode cX12_addGuide 66 = .ok (.iconst 3, 1) := by decide +kernel
theorem dX12_addGuide_67 : decode cX12_addGuide 67 = .ok (.iaload, 1) := by decide +kernel
theorem dX12_addGuide_68 : decode cX12_addGuide 68 = .ok (.imul, 1) := by decide +kernel
theorem dX12_addGuide_69 : decode cX12_addGuide 69 = .ok (.iadd, 1) := by decide +kernel
theorem dX12_addGuide_70 : decode cX12_addGuide 70 = .ok (.iconst 1, 1) := by decide +kernel
theorem dX12_addGuide_71 : decode cX12_addGuide 71 = .ok (.iadd, 1) := by decide +kernel
theorem dX12_addGuide_72 : decode cX12_addGuide 72 = .ok (.iload_n 2, 1) := by decide +kernel
theorem dX12_addGuide_73 : decode cX12_addGuide 73 = .ok (.iastore, 1) := by decide +kernel
theorem dX12_addGuide_74 : decode cX12_addGuide 74 = .ok (.aload_n 0, 1) := by decide +kernel
theorem dX12_addGuide_75 : decode cX12_addGuide 75 = .ok (.getfield 7, 3) := by decide +kernel
theorem dX12_addGuide_78 : decode cX12_addGuide 78 = .ok (.iconst 3, 1) := by decide +kernel
theorem dX12_addGuide_79 : decode cX12_addGuide 79 = .ok (.dup2, 1) := by decide +kernel
theorem dX12_addGuide_80 : decode cX12_addGuide 80 = .ok (.iaload, 1) := by decide +kernel
theorem dX12_addGuide_81 : decode cX12_addGuide 81 = .ok (.iconst 1, 1) := by decide +kernel
theorem dX12_addGuide_82 : decode cX12_addGuide 82 = .ok (.iadd, 1) := by decide +kernel
theorem dX12_addGuide_83 : decode cX12_addGuide 83 = .ok (.iastore, 1) := by decide +kernel
theorem dX12_addGuide_84 : decode cX12_addGuide 84 = .ok (.aload_n 0, 1) := by decide +kernel
theorem dX12_addGuide_85 : decode cX12_addGuide 85 = .ok (.getfield 7, 3) := by decide +kernel
theorem dX12_addGuide_88 : decode cX12_addGuide 88 = .ok (.iconst 3, 1) := by decide +kernel
theorem dX12_addGuide_89 : decode cX12_addGuide 89 = .ok (.iaload, 1) := by decide +kernel
theorem dX12_addGuide_90 : decode cX12_addGuide 90 = .ok (.ireturn, 1) := by decide +kernel
theorem dX12_sets_0 : decode cX12_sets 0 = .ok (.aload_n 0, 1) := by decide +kernel
theorem dX12_sets_1 : decode cX12_sets 1 = .ok (.invokevirtual 91, 3) := by decide +kernel
theorem dX12_sets_4 : decode cX12_sets 4 = .ok (.aload_n 0, 1) := by decide +kernel
theorem dX12_sets_5 : decode cX12_sets 5 = .ok (.getfield 7, 3) := by decide +kernel
theorem dX12_sets_8 : decode cX12_sets 8 = .ok (.iload_n 1, 1) := by decide +kernel
theorem dX12_sets_9 : decode cX12_sets 9 = .ok (.iaload, 1) := by decide +kernel
theorem dX12_sets_10 : decode cX12_sets 10 = .ok (.istore_n 3, 1) := by decide +kernel
theorem dX12_sets_11 : decode cX12_sets 11 = .ok (.aload_n 0, 1) := by decide +kernel
theorem dX12_sets_12 : decode cX12_sets 12 = .ok (.getfield 7, 3) := by decide +kernel
theorem dX12_sets_15 : decode cX12_sets 15 = .ok (.iload_n 1, 1) := by decide +kernel
theorem dX12_sets_16 : decode cX12_sets 16 = .ok (.iload_n 2, 1) := by decide +kernel
theorem dX12_sets_17 : decode cX12_sets 17 = .ok (.iastore, 1) := by decide +kernel
theorem dX12_sets_18 : decode cX12_sets 18 = .ok (.iload_n 3, 1) := by decide +kernel
theorem dX12_sets_19 : decode cX12_sets 19 = .ok (.ireturn, 1) := by decide +kernel
theorem dX12_clearGuides_0 : decode cX12_clearGuides 0 = .ok (.aload_n 0, 1) := by decide +kernel
theorem dX12_clearGuides_1 : decode cX12_clearGuides 1 = .ok (.iconst 3, 1) := by decide +kernel
theorem dX12_clearGuides_2 : decode cX12_clearGuides 2 = .ok (.iconst 0, 1) := by decide +kernel
theorem dX12_clearGuides_3 : decode cX12_clearGuides 3 = .ok (.invokevirtual 231, 3) := by decide +kernel
theorem dX12_clearGuides_6 : decode cX12_clearGuides 6 = .ok (.ireturn, 1) := by decide +kernel
theorem dX12_setGrid_0 : decode cX12_setGrid 0 = .ok (.iload_n 1, 1) := by decide +kernel
theorem dX12_setGrid_1 : decode cX12_setGrid 1 = .ok (.iconst 0, 1) := by decide +kernel
theorem dX12_setGrid_2 : decode cX12_setGrid 2 = .ok (.bipush 100, 2) := by decide +kernel
theorem dX12_setGrid_4 : decode cX12_setGrid 4 = .ok (.invokestatic 59, 3) := by decide +kernel
theorem dX12_setGrid_7 : decode cX12_setGrid 7 = .ok (.ifCond .eq 12, 3) := by decide +kernel
theorem dX12_setGrid_10 : decode cX12_setGrid 10 = .ok (.aload_n 0, 1) := by decide +kernel
theorem dX12_setGrid_11 : decode cX12_setGrid 11 = .ok (.iconst 4, 1) := by decide +kernel
theorem dX12_setGrid_12 : decode cX12_setGrid 12 = .ok (.iload_n 1, 1) := by decide +kernel
theorem dX12_setGrid_13 : decode cX12_setGrid 13 = .ok (.invokevirtual 231, 3) := by decide +kernel
theorem dX12_setGrid_16 : decode cX12_setGrid 16 = .ok (.goto 4, 3) := by decide +kernel
theorem dX12_setGrid_19 : decode cX12_setGrid 19 = .ok (.iconst (-1), 1) := by decide +kernel
theorem dX12_setGrid_20 : decode cX12_setGrid 20 = .ok (.ireturn, 1) := by decide +kernel
theorem dX12_setTolerance_0 : decode cX12_setTolerance 0 = .ok (.iload_n 1, 1) := by decide +kernel
theorem dX12_setTolerance_1 : decode cX12_setTolerance 1 = .ok (.iconst 0, 1) := by decide +kernel
theorem dX12_setTolerance_2 : decode cX12_setTolerance 2 = .ok (.bipush 50, 2) := by decide +kernel
theorem dX12_setTolerance_4 : decode cX12_setTolerance 4 = .ok (.invokestatic 59, 3) := by decide +kernel
theorem dX12_setTolerance_7 : decode cX12_setTolerance 7 = .ok (.ifCond .eq 12, 3) := by decide +kernel
theorem dX12_setTolerance_10 : decode cX12_setTolerance 10 = .ok (.aload_n 0, 1) := by decide +kernel
theorem dX12_setTolerance_11 : decode cX12_setTolerance 11 = .ok (.iconst 5, 1) := by decide +kernel
theorem dX12_setTolerance_12 : decode cX12_setTolerance 12 = .ok (.iload_n 1, 1) := by decide +kernel
theorem dX12_setTolerance_13 : decode cX12_setTolerance 13 = .ok (.invokevirtual 231, 3) := by decide +kernel
theorem dX12_setTolerance_16 : decode cX12_setTolerance 16 = .ok (.goto 4, 3) := by decide +kernel
theorem dX12_setTolerance_19 : decode cX12_setTolerance 19 = .ok (.iconst (-1), 1) := by decide +kernel
theorem dX12_setTolerance_20 : decode cX12_setTolerance 20 = .ok (.ireturn, 1) := by decide +kernel
theorem dX12_type_0 : decode cX12_type 0 = .ok (.iload_n 1, 1) := by decide +kernel
theorem dX12_type_1 : decode cX12_type 1 = .ok (.bipush 32, 2) := by decide +kernel
theorem dX12_type_3 : decode cX12_type 3 = .ok (.bipush 126, 2) := by decide +kernel
theorem dX12_type_5 : decode cX12_type 5 = .ok (.invokestatic 59, 3) := by decide +kernel
theorem dX12_type_8 : decode cX12_type 8 = .ok (.ifCond .ne 5, 3) := by decide +kernel
theorem dX12_type_11 : decode cX12_type 11 = .ok (.iconst (-1), 1) := by decide +kernel
theorem dX12_type_12 : decode cX12_type 12 = .ok (.ireturn, 1) := by decide +kernel
theorem dX12_type_13 : decode cX12_type 13 = .ok (.aload_n 0, 1) := by decide +kernel
theorem dX12_type_14 : decode cX12_type 14 = .ok (.getfield 234, 3) := by decide +kernel
theorem dX12_type_17 : decode cX12_type 17 = .ok (.bipush 60, 2) := by decide +kernel
theorem dX12_type_19 : decode cX12_type 19 = .ok (.if_icmp .ne 6, 3) := by decide +kernel
theorem dX12_type_22 : decode cX12_type 22 = .ok (.bipush (-3), 2) := by decide +kernel
theorem dX12_type_24 : decode cX12_type 24 = .ok (.ireturn, 1) := by decide +kernel
theorem dX12_type_25 : decode cX12_type 25 = .ok (.aload_n 0, 1) := by decide +kernel
theorem dX12_type_26 : decode cX12_type 26 = .ok (.getfield 46, 3) := by decide +kernel
theorem dX12_type_29 : decode cX12_type 29 = .ok (.aload_n 0, 1) := by decide +kernel
theorem dX12_type_30 : decode cX12_type 30 = .ok (.getfield 234, 3) := by decide +kernel
theorem dX12_type_33 : decode cX12_type 33 = .ok (.iload_n 1, 1) := by decide +kernel
theorem dX12_type_34 : decode cX12_type 34 = .ok (.iastore, 1) := by decide +kernel
theorem dX12_type_35 : decode cX12_type 35 = .ok (.aload_n 0, 1) := by decide +kernel
theorem dX12_type_36 : decode cX12_type 36 = .ok (.dup, 1) := by decide +kernel
theorem dX12_type_37 : decode cX12_type 37 = .ok (.getfield 234, 3) := by decide +kernel
theorem dX12_type_40 : decode cX12_type 40 = .ok (.iconst 1, 1) := by decide +kernel
theorem dX12_type_41 : decode cX12_type 41 = .ok (.iadd, 1) := by decide +kernel
theorem dX12_type_42 : decode cX12_type 42 = .ok (.putfield 234, 3) := by decide +kernel
theorem dX12_type_45 : decode cX12_type 45 = .ok (.aload_n 0, 1) := by decide +kernel
theorem dX12_type_46 : decode cX12_type 46 = .ok (.getfield 234, 3) := by decide +kernel
theorem dX12_type_49 : decode cX12_type 49 = .ok (.ireturn, 1) := by decide +kernel
theorem dX12_clear_0 : decode cX12_clear 0 = .ok (.aload_n 0, 1) := by decide +kernel
theorem dX12_clear_1 : decode cX12_clear 1 = .ok (.getfield 234, 3) := by decide +kernel
theorem dX12_clear_4 : decode cX12_clear 4 = .ok (.istore_n 1, 1) := by decide +kernel
theorem dX12_clear_5 : decode cX12_clear 5 = .ok (.aload_n 0, 1) := by decide +kernel
theorem dX12_clear_6 : decode cX12_clear 6 = .ok (.iconst 0, 1) := by decide +kernel
theorem dX12_clear_7 : decode cX12_clear 7 = .ok (.putfield 234, 3) := by decide +kernel
theorem dX12_clear_10 : decode cX12_clear 10 = .ok (.iload_n 1, 1) := by decide +kernel
theorem dX12_clear_11 : decode cX12_clear 11 = .ok (.ireturn, 1) := by decide +kernel
theorem dX12_sign_0 : decode cX12_sign 0 = .ok (.aload_n 0, 1) := by decide +kernel
theorem dX12_sign_1 : decode cX12_sign 1 = .ok (.getfield 237, 3) := by decide +kernel
theorem dX12_sign_4 : decode cX12_sign 4 = .ok (.aload_n 0, 1) := by decide +kernel
theorem dX12_sign_5 : decode cX12_sign 5 = .ok (.getfield 234, 3) := by decide +kernel
theorem dX12_sign_8 : decode cX12_sign 8 = .ok (.if_icmp .ge 15, 3) := by decide +kernel
theorem dX12_sign_11 : decode cX12_sign 11 = .ok (.aload_n 0, 1) := by decide +kernel
theorem dX12_sign_12 : decode cX12_sign 12 = .ok (.getfield 46, 3) := by decide +kernel
theorem dX12_sign_15 : decode cX12_sign 15 = .ok (.aload_n 0, 1) := by decide +kernel
theorem dX12_sign_16 : decode cX12_sign 16 = .ok (.getfield 237, 3) := by decide +kernel
theorem dX12_sign_19 : decode cX12_sign 19 = .ok (.iaload, 1) := by decide +kernel
theorem dX12_sign_20 : decode cX12_sign 20 = .ok (.goto 4, 3) := by decide +kernel
theorem dX12_sign_23 : decode cX12_sign 23 = .ok (.iconst (-1), 1) := by decide +kernel
theorem dX12_sign_24 : decode cX12_sign 24 = .ok (.ireturn, 1) := by decide +kernel
theorem dX12_reads_0 : decode cX12_reads 0 = .ok (.aload_n 0, 1) := by decide +kernel
theorem dX12_reads_1 : decode cX12_reads 1 = .ok (.getfield 237, 3) := by decide +kernel
theorem dX12_reads_4 : decode cX12_reads 4 = .ok (.istore_n 2, 1) := by decide +kernel
theorem dX12_reads_5 : decode cX12_reads 5 = .ok (.aload_n 0, 1) := by decide +kernel
theorem dX12_reads_6 : decode cX12_reads 6 = .ok (.invokevirtual 240, 3) := by decide +kernel
theorem dX12_reads_9 : decode cX12_reads 9 = .ok (.bipush 45, 2) := by decide +kernel
theorem dX12_reads_11 : decode cX12_reads 11 = .ok (.if_icmp .ne 7, 3) := by decide +kernel
theorem dX12_reads_14 : decode cX12_reads 14 = .ok (.iconst 1, 1) := by decide +kernel
theorem dX12_reads_15 : decode cX12_reads 15 = .ok (.goto 4, 3) := by decide +kernel
theorem dX12_reads_18 : decode cX12_reads 18 = .ok (.iconst 0, 1) := by decide +kernel
theorem dX12_reads_19 : decode cX12_reads 19 = .ok (.istore_n 3, 1) := by decide +kernel
theorem dX12_reads_20 : decode cX12_reads 20 = .ok (.aload_n 0, 1) := by decide +kernel
theorem dX12_reads_21 : decode cX12_reads 21 = .ok (.dup, 1) := by decide +kernel
theorem dX12_reads_22 : decode cX12_reads 22 = .ok (.getfield 237, 3) := by decide +kernel
theorem dX12_reads_25 : decode cX12_reads 25 = .ok (.iload_n 3, 1) := by decide +kernel
theorem dX12_reads_26 : decode cX12_reads 26 = .ok (.ifCond .eq 7, 3) := by decide +kernel
theorem dX12_reads_29 : decode cX12_reads 29 = .ok (.iconst 1, 1) := by decide +kernel
theorem dX12_reads_30 : decode cX12_reads 30 = .ok (.goto 4, 3) := by decide +kernel
theorem dX12_reads_33 : decode cX12_reads 33 = .ok (.iconst 0, 1) := by decide +kernel
theorem dX12_reads_34 : decode cX12_reads 34 = .ok (.iadd, 1) := by decide +kernel
theorem dX12_reads_35 : decode cX12_reads 35 = .ok (.putfield 237, 3) := by decide +kernel
theorem dX12_reads_38 : decode cX12_reads 38 = .ok (.iconst 0, 1) := by decide +kernel
theorem dX12_reads_39 : decode cX12_reads 39 = .ok (.istore 4, 2) := by decide +kernel
theorem dX12_reads_41 : decode cX12_reads 41 = .ok (.iconst 0, 1) := by decide +kernel
theorem dX12_reads_42 : decode cX12_reads 42 = .ok (.istore 5, 2) := by decide +kernel
theorem dX12_reads_44 : decode cX12_reads 44 = .ok (.iload 4, 2) := by decide +kernel
theorem dX12_reads_46 : decode cX12_reads 46 = .ok (.iconst 5, 1) := by decide +kernel
theorem dX12_reads_47 : decode cX12_reads 47 = .ok (.if_icmp .ge 48, 3) := by decide +kernel
theorem dX12_reads_50 : decode cX12_reads 50 = .ok (.aload_n 0, 1) := by decide +kernel
theorem dX12_reads_51 : decode cX12_reads 51 = .ok (.invokevirtual 240, 3) := by decide +kernel
theorem dX12_reads_54 : decode cX12_reads 54 = .ok (.bipush 48, 2) := by decide +kernel
theorem dX12_reads_56 : decode cX12_reads 56 = .ok (.bipush 57, 2) := by decide +kernel
theorem dX12_reads_58 : decode cX12_reads 58 = .ok (.invokestatic 59, 3) := by decide +kernel
theorem dX12_reads_61 : decode cX12_reads 61 = .ok (.ifCond .eq 34, 3) := by decide +kernel
theorem dX12_reads_64 : decode cX12_reads 64 = .ok (.bipush 10, 2) := by decide +kernel
theorem dX12_reads_66 : decode cX12_reads 66 = .ok (.iload 5, 2) := by decide +kernel
theorem dX12_reads_68 : decode cX12_reads 68 = .ok (.imul, 1) := by decide +kernel
theorem dX12_reads_69 : decode cX12_reads 69 = .ok (.aload_n 0, 1) := by decide +kernel
theorem dX12_reads_70 : decode cX12_reads 70 = .ok (.invokevirtual 240, 3) := by decide +kernel
theorem dX12_reads_73 : decode cX12_reads 73 = .ok (.iadd, 1) := by decide +kernel
theorem dX12_reads_74 : decode cX12_reads 74 = .ok (.bipush 48, 2) := by decide +kernel
theorem dX12_reads_76 : decode cX12_reads 76 = .ok (.isub, 1) := by decide +kernel
theorem dX12_reads_77 : decode cX12_reads 77 = .ok (.istore 5, 2) := by decide +kernel
theorem dX12_reads_79 : decode cX12_reads 79 = .ok (.aload_n 0, 1) := by decide +kernel
theorem dX12_reads_80 : decode cX12_reads 80 = .ok (.dup, 1) := by decide +kernel
theorem dX12_reads_81 : decode cX12_reads 81 = .ok (.getfield 237, 3) := by decide +kernel
theorem dX12_reads_84 : decode cX12_reads 84 = .ok (.iconst 1, 1) := by decide +kernel
theorem dX12_reads_85 : decode cX12_reads 85 = .ok (.iadd, 1) := by decide +kernel
theorem dX12_reads_86 : decode cX12_reads 86 = .ok (.putfield 237, 3) := by decide +kernel
theorem dX12_reads_89 : decode cX12_reads 89 = .ok (.iinc 4 1, 3) := by decide +kernel
theorem dX12_reads_92 : decode cX12_reads 92 = .ok (.goto (-48), 3) := by decide +kernel
theorem dX12_reads_95 : decode cX12_reads 95 = .ok (.iload_n 3, 1) := by decide +kernel
theorem dX12_reads_96 : decode cX12_reads 96 = .ok (.ifCond .eq 9, 3) := by decide +kernel
theorem dX12_reads_99 : decode cX12_reads 99 = .ok (.iload 5, 2) := by decide +kernel
theorem dX12_reads_101 : decode cX12_reads 101 = .ok (.ineg, 1) := by decide +kernel
theorem dX12_reads_102 : decode cX12_reads 102 = .ok (.goto 5, 3) := by decide +kernel
theorem dX12_reads_105 : decode cX12_reads 105 = .ok (.iload 5, 2) := by decide +kernel
theorem dX12_reads_107 : decode cX12_reads 107 = .ok (.istore 5, 2) := by decide +kernel
theorem dX12_reads_109 : decode cX12_reads 109 = .ok (.aload_n 0, 1) := by decide +kernel
theorem dX12_reads_110 : decode cX12_reads 110 = .ok (.getfield 52, 3) := by decide +kernel
theorem dX12_reads_113 : decode cX12_reads 113 = .ok (.iconst 4, 1) := by decide +kernel
theorem dX12_reads_114 : decode cX12_reads 114 = .ok (.aload_n 0, 1) := by decide +kernel
theorem dX12_reads_115 : decode cX12_reads 115 = .ok (.getfield 243, 3) := by decide +kernel
theorem dX12_reads_118 : decode cX12_reads 118 = .ok (.imul, 1) := by decide +kernel
theorem dX12_reads_119 : decode cX12_reads 119 = .ok (.iload_n 1, 1) := by decide +kernel
theorem dX12_reads_120 : decode cX12_reads 120 = .ok (.iadd, 1) := by decide +kernel
theorem dX12_reads_121 : decode cX12_reads 121 = .ok (.iload 5, 2) := by decide +kernel
theorem dX12_reads_123 : decode cX12_reads 123 = .ok (.iastore, 1) := by decide +kernel
theorem dX12_reads_124 : decode cX12_reads 124 = .ok (.iload_n 1, 1) := by decide +kernel
theorem dX12_reads_125 : decode cX12_reads 125 = .ok (.iconst 2, 1) := by decide +kernel
theorem dX12_reads_126 : decode cX12_reads 126 = .ok (.if_icmp .ge 11, 3) := by decide +kernel
theorem dX12_reads_129 : decode cX12_reads 129 = .ok (.iload 5, 2) := by decide +kernel
theorem dX12_reads_131 : decode cX12_reads 131 = .ok (.invokestatic 85, 3) := by decide +kernel
theorem dX12_reads_134 : decode cX12_reads 134 = .ok (.goto 8, 3) := by decide +kernel
theorem dX12_reads_137 : decode cX12_reads 137 = .ok (.iload 5, 2) := by decide +kernel
theorem dX12_reads_139 : decode cX12_reads 139 = .ok (.invokestatic 88, 3) := by decide +kernel
theorem dX12_reads_142 : decode cX12_reads 142 = .ok (.istore 6, 2) := by decide +kernel
theorem dX12_reads_144 : decode cX12_reads 144 = .ok (.aload_n 0, 1) := by decide +kernel
theorem dX12_reads_145 : decode cX12_reads 145 = .ok (.aload_n 0, 1) := by decide +kernel
theorem dX12_reads_146 : decode cX12_reads 146 = .ok (.getfield 246, 3) := by decide +kernel
theorem dX12_reads_149 : decode cX12_reads 149 = .ok (.ifCond .ge 12, 3) := by decide +kernel
theorem dX12_reads_152 : decode cX12_reads 152 = .ok (.iload 6, 2) := by decide +kernel
theorem dX12_reads_154 : decode cX12_reads 154 = .ok (.ifCond .ne 7, 3) := by decide +kernel
theorem dX12_reads_157 : decode cX12_reads 157 = .ok (.iload_n 2, 1) := by decide +kernel
theorem dX12_reads_158 : decode cX12_reads 158 = .ok (.goto 7, 3) := by decide +kernel
theorem dX12_reads_161 : decode cX12_reads 161 = .ok (.aload_n 0, 1) := by decide +kernel
theorem dX12_reads_162 : decode cX12_reads 162 = .ok (.getfield 246, 3) := by decide +kernel
theorem dX12_reads_165 : decode cX12_reads 165 = .ok (.putfield 246, 3) := by decide +kernel
theorem dX12_reads_168 : decode cX12_reads 168 = .ok (.iload 4, 2) := by decide +kernel
theorem dX12_reads_170 : decode cX12_reads 170 = .ok (.ifCond .le 7, 3) := by decide +kernel
theorem dX12_reads_173 : decode cX12_reads 173 = .ok (.iconst 1, 1) := by decide +kernel
theorem dX12_reads_174 : decode cX12_reads 174 = .ok (.goto 4, 3) := by decide +kernel
theorem dX12_reads_177 : decode cX12_reads 177 = .ok (.iconst 0, 1) := by decide +kernel
theorem dX12_reads_178 : decode cX12_reads 178 = .ok (.ireturn, 1) := by decide +kernel
theorem dX12_readsShape_0 : decode cX12_readsShape 0 = .ok (.aload_n 0, 1) := by decide +kernel
theorem dX12_readsShape_1 : decode cX12_readsShape 1 = .ok (.invokevirtual 240, 3) := by decide +kernel
theorem dX12_readsShape_4 : decode cX12_readsShape 4 = .ok (.istore_n 1, 1) := by decide +kernel
theorem dX12_readsShape_5 : decode cX12_readsShape 5 = .ok (.iload_n 1, 1) := by decide +kernel
theorem dX12_readsShape_6 : decode cX12_readsShape 6 = .ok (.bipush 98, 2) := by decide +kernel
theorem dX12_readsShape_8 : decode cX12_readsShape 8 = .ok (.if_icmp .eq 17, 3) := by decide +kernel
theorem dX12_readsShape_11 : decode cX12_readsShape 11 = .ok (.iload_n 1, 1) := by decide +kernel
theorem dX12_readsShape_12 : decode cX12_readsShape 12 = .ok (.bipush 101, 2) := by decide +kernel
theorem dX12_readsShape_14 : decode cX12_readsShape 14 = .ok (.if_icmp .eq 11, 3) := by decide +kernel
theorem dX12_readsShape_17 : decode cX12_readsShape 17 = .ok (.iload_n 1, 1) := by decide +kernel
theorem dX12_readsShape_18 : decode cX12_readsShape 18 = .ok (.bipush 100, 2) := by decide +kernel
theorem dX12_readsShape_20 : decode cX12_readsShape 20 = .ok (.if_icmp .eq 5, 3) := by decide +kernel
theorem dX12_readsShape_23 : decode cX12_readsShape 23 = .ok (.iconst 0, 1) := by decide +kernel
theorem dX12_readsShape_24 : decode cX12_readsShape 24 = .ok (.ireturn, 1) := by decide +kernel
theorem dX12_readsShape_25 : decode cX12_readsShape 25 = .ok (.aload_n 0, 1) := by decide +kernel
theorem dX12_readsShape_26 : decode cX12_readsShape 26 = .ok (.getfield 49, 3) := by decide +kernel
theorem dX12_readsShape_29 : decode cX12_readsShape 29 = .ok (.aload_n 0, 1) := by decide +kernel
theorem dX12_readsShape_30 : decode cX12_readsShape 30 = .ok (.getfield 243, 3) := by decide +kernel
theorem dX12_readsShape_33 : decode cX12_readsShape 33 = .ok (.iload_n 1, 1) := by decide +kernel
theorem dX12_readsShape_34 : decode cX12_readsShape 34 = .ok (.bipush 98, 2) := by decide +kernel
theorem dX12_readsShape_36 : decode cX12_readsShape 36 = .ok (.if_icmp .ne 7, 3) := by decide +kernel
theorem dX12_readsShape_39 : decode cX12_readsShape 39 = .ok (.iconst 0, 1) := by decide +kernel
theorem dX12_readsShape_40 : decode cX12_readsShape 40 = .ok (.goto 14, 3) := by decide +kernel
theorem dX12_readsShape_43 : decode cX12_readsShape 43 = .ok (.iload_n 1, 1) := by decide +kernel
theorem dX12_readsShape_44 : decode cX12_readsShape 44 = .ok (.bipush 101, 2) := by decide +kernel
theorem dX12_readsShape_46 : decode cX12_readsShape 46 = .ok (.if_icmp .ne 7, 3) := by decide +kernel
theorem dX12_readsShape_49 : decode cX12_readsShape 49 = .ok (.iconst 1, 1) := by decide +kernel
theorem dX12_readsShape_50 : decode cX12_readsShape 50 = .ok (.goto 4, 3) := by decide +kernel
theorem dX12_readsShape_53 : decode cX12_readsShape 53 = .ok (.iconst 2, 1) := by decide +kernel
theorem dX12_readsShape_54 : decode cX12_readsShape 54 = .ok (.iastore, 1) := by decide +kernel
theorem dX12_readsShape_55 : decode cX12_readsShape 55 = .ok (.aload_n 0, 1) := by decide +kernel
theorem dX12_readsShape_56 : decode cX12_readsShape 56 = .ok (.dup, 1) := by decide +kernel
theorem dX12_readsShape_57 : decode cX12_readsShape 57 = .ok (.getfield 237, 3) := by decide +kernel
theorem dX12_readsShape_60 : decode cX12_readsShape 60 = .ok (.iconst 1, 1) := by decide +kernel
theorem dX12_readsShape_61 : decode cX12_readsShape 61 = .ok (.iadd, 1) := by decide +kernel
theorem dX12_readsShape_62 : decode cX12_readsShape 62 = .ok (.putfield 237, 3) := by decide +kernel
theorem dX12_readsShape_65 : decode cX12_readsShape 65 = .ok (.iconst 0, 1) := by decide +kernel
theorem dX12_readsShape_66 : decode cX12_readsShape 66 = .ok (.istore_n 2, 1) := by decide +kernel
theorem dX12_readsShape_67 : decode cX12_readsShape 67 = .ok (.iload_n 2, 1) := by decide +kernel
theorem dX12_readsShape_68 : decode cX12_readsShape 68 = .ok (.iconst 4, 1) := by decide +kernel
theorem dX12_readsShape_69 : decode cX12_readsShape 69 = .ok (.if_icmp .ge 44, 3) := by decide +kernel
theorem dX12_readsShape_72 : decode cX12_readsShape 72 = .ok (.iload_n 2, 1) := by decide +kernel
theorem dX12_readsShape_73 : decode cX12_readsShape 73 = .ok (.ifCond .le 24, 3) := by decide +kernel
theorem dX12_readsShape_76 : decode cX12_readsShape 76 = .ok (.aload_n 0, 1) := by decide +kernel
theorem dX12_readsShape_77 : decode cX12_readsShape 77 = .ok (.invokevirtual 240, 3) := by decide +kernel
theorem dX12_readsShape_80 : decode cX12_readsShape 80 = .ok (.bipush 44, 2) := by decide +kernel
theorem dX12_readsShape_82 : decode cX12_readsShape 82 = .ok (.if_icmp .eq 5, 3) := by decide +kernel
theorem dX12_readsShape_85 : decode cX12_readsShape 85 = .ok (.iconst 0, 1) := by decide +kernel
theorem dX12_readsShape_86 : decode cX12_readsShape 86 = .ok (.ireturn, 1) := by decide +kernel
theorem dX12_readsShape_87 : decode cX12_readsShape 87 = .ok (.aload_n 0, 1) := by decide +kernel
theorem dX12_readsShape_88 : decode cX12_readsShape 88 = .ok (.dup, 1) := by decide +kernel
theorem dX12_readsShape_89 : decode cX12_readsShape 89 = .ok (.getfield 237, 3) := by decide +kernel
theorem dX12_readsShape_92 : decode cX12_readsShape 92 = .ok (.iconst 1, 1) := by decide +kernel
theorem dX12_readsShape_93 : decode cX12_readsShape 93 = .ok (.iadd, 1) := by decide +kernel
theorem dX12_readsShape_94 : decode cX12_readsShape 94 = .ok (.putfield 237, 3) := by decide +kernel
theorem dX12_readsShape_97 : decode cX12_readsShape 97 = .ok (.aload_n 0, 1) := by decide +kernel
theorem dX12_readsShape_98 : decode cX12_readsShape 98 = .ok (.iload_n 2, 1) := by decide +kernel
theorem dX12_readsShape_99 : decode cX12_readsShape 99 = .ok (.invokevirtual 249, 3) := by decide +kernel
theorem dX12_readsShape_102 : decode cX12_readsShape 102 = .ok (.ifCond .ne 5, 3) := by decide +kernel
theorem dX12_readsShape_105 : decode cX12_readsShape 105 = .ok (.iconst 0, 1) := by decide +kernel
theorem dX12_readsShape_106 : decode cX12_readsShape 106 = .ok (.ireturn, 1) := by decide +kernel
theorem dX12_readsShape_107 : decode cX12_readsShape 107 = .ok (.iinc 2 1, 3) := by decide +kernel
theorem dX12_readsShape_110 : decode cX12_readsShape 110 = .ok (.goto (-43), 3) := by decide +kernel
theorem dX12_readsShape_113 : decode cX12_readsShape 113 = .ok (.iconst 1, 1) := by decide +kernel
theorem dX12_readsShape_114 : decode cX12_readsShape 114 = .ok (.ireturn, 1) := by decide +kernel
theorem dX12_wrongAt_0 : decode cX12_wrongAt 0 = .ok (.aload_n 0, 1) := by decide +kernel
theorem dX12_wrongAt_1 : decode cX12_wrongAt 1 = .ok (.iconst 0, 1) := by decide +kernel
theorem dX12_wrongAt_2 : decode cX12_wrongAt 2 = .ok (.putfield 237, 3) := by decide +kernel
theorem dX12_wrongAt_5 : decode cX12_wrongAt 5 = .ok (.aload_n 0, 1) := by decide +kernel
theorem dX12_wrongAt_6 : decode cX12_wrongAt 6 = .ok (.iconst 0, 1) := by decide +kernel
theorem dX12_wrongAt_7 : decode cX12_wrongAt 7 = .ok (.putfield 243, 3) := by decide +kernel
theorem dX12_wrongAt_10 : decode cX12_wrongAt 10 = .ok (.aload_n 0, 1) := by decide +kernel
theorem dX12_wrongAt_11 : decode cX12_wrongAt 11 = .ok (.iconst (-1), 1) := by decide +kernel
theorem dX12_wrongAt_12 : decode cX12_wrongAt 12 = .ok (.putfield 246, 3) := by decide +kernel
theorem dX12_wrongAt_15 : decode cX12_wrongAt 15 = .ok (.iconst 1, 1) := by decide +kernel
theorem dX12_wrongAt_16 : decode cX12_wrongAt 16 = .ok (.istore_n 1, 1) := by decide +kernel
theorem dX12_wrongAt_17 : decode cX12_wrongAt 17 = .ok (.iload_n 1, 1) := by decide +kernel
theorem dX12_wrongAt_18 : decode cX12_wrongAt 18 = .ok (.ifCond .eq 61, 3) := by decide +kernel
theorem dX12_wrongAt_21 : decode cX12_wrongAt 21 = .ok (.aload_n 0, 1) := by decide +kernel
theorem dX12_wrongAt_22 : decode cX12_wrongAt 22 = .ok (.invokevirtual 252, 3) := by decide +kernel
theorem dX12_wrongAt_25 : decode cX12_wrongAt 25 = .ok (.ifCond .ne 8, 3) := by decide +kernel
theorem dX12_wrongAt_28 : decode cX12_wrongAt 28 = .ok (.aload_n 0, 1) := by decide +kernel
theorem dX12_wrongAt_29 : decode cX12_wrongAt 29 = .ok (.getfield 237, 3) := by decide +kernel
theorem dX12_wrongAt_32 : decode cX12_wrongAt 32 = .ok (.ireturn, 1) := by decide +kernel
theorem dX12_wrongAt_33 : decode cX12_wrongAt 33 = .ok (.aload_n 0, 1) := by decide +kernel
theorem dX12_wrongAt_34 : decode cX12_wrongAt 34 = .ok (.dup, 1) := by decide +kernel
theorem dX12_wrongAt_35 : decode cX12_wrongAt 35 = .ok (.getfield 243, 3) := by decide +kernel
theorem dX12_wrongAt_38 : decode cX12_wrongAt 38 = .ok (.iconst 1, 1) := by decide +kernel
theorem dX12_wrongAt_39 : decode cX12_wrongAt 39 = .ok (.iadd, 1) := by decide +kernel
theorem dX12_wrongAt_40 : decode cX12_wrongAt 40 = .ok (.putfield 243, 3) := by decide +kernel
theorem dX12_wrongAt_43 : decode cX12_wrongAt 43 = .ok (.aload_n 0, 1) := by decide +kernel
theorem dX12_wrongAt_44 : decode cX12_wrongAt 44 = .ok (.invokevirtual 240, 3) := by decide +kernel
theorem dX12_wrongAt_47 : decode cX12_wrongAt 47 = .ok (.bipush 59, 2) := by decide +kernel
theorem dX12_wrongAt_49 : decode cX12_wrongAt 49 = .ok (.if_icmp .ne 7, 3) := by decide +kernel
theorem dX12_wrongAt_52 : decode cX12_wrongAt 52 = .ok (.iconst 1, 1) := by decide +kernel
theorem dX12_wrongAt_53 : decode cX12_wrongAt 53 = .ok (.goto 4, 3) := by decide +kernel
theorem dX12_wrongAt_56 : decode cX12_wrongAt 56 = .ok (.iconst 0, 1) := by decide +kernel
theorem dX12_wrongAt_57 : decode cX12_wrongAt 57 = .ok (.istore_n 1, 1) := by decide +kernel
theorem dX12_wrongAt_58 : decode cX12_wrongAt 58 = .ok (.aload_n 0, 1) := by decide +kernel
theorem dX12_wrongAt_59 : decode cX12_wrongAt 59 = .ok (.dup, 1) := by decide +kernel
theorem dX12_wrongAt_60 : decode cX12_wrongAt 60 = .ok (.getfield 237, 3) := by decide +kernel
theorem dX12_wrongAt_63 : decode cX12_wrongAt 63 = .ok (.iload_n 1, 1) := by decide +kernel
theorem dX12_wrongAt_64 : decode cX12_wrongAt 64 = .ok (.ifCond .eq 7, 3) := by decide +kernel
theorem dX12_wrongAt_67 : decode cX12_wrongAt 67 = .ok (.iconst 1, 1) := by decide +kernel
theorem dX12_wrongAt_68 : decode cX12_wrongAt 68 = .ok (.goto 4, 3) := by decide +kernel
theorem dX12_wrongAt_71 : decode cX12_wrongAt 71 = .ok (.iconst 0, 1) := by decide +kernel
theorem dX12_wrongAt_72 : decode cX12_wrongAt 72 = .ok (.iadd, 1) := by decide +kernel
theorem dX12_wrongAt_73 : decode cX12_wrongAt 73 = .ok (.putfield 237, 3) := by decide +kernel
theorem dX12_wrongAt_76 : decode cX12_wrongAt 76 = .ok (.goto (-59), 3) := by decide +kernel
theorem dX12_wrongAt_79 : decode cX12_wrongAt 79 = .ok (.aload_n 0, 1) := by decide +kernel
theorem dX12_wrongAt_80 : decode cX12_wrongAt 80 = .ok (.getfield 237, 3) := by decide +kernel
theorem dX12_wrongAt_83 : decode cX12_wrongAt 83 = .ok (.aload_n 0, 1) := by decide +kernel
theorem dX12_wrongAt_84 : decode cX12_wrongAt 84 = .ok (.getfield 234, 3) := by decide +kernel
theorem dX12_wrongAt_87 : decode cX12_wrongAt 87 = .ok (.if_icmp .ge 10, 3) := by decide +kernel
theorem dX12_wrongAt_90 : decode cX12_wrongAt 90 = .ok (.aload_n 0, 1) := by decide +kernel
theorem dX12_wrongAt_91 : decode cX12_wrongAt 91 = .ok (.getfield 237, 3) := by decide +kernel
theorem dX12_wrongAt_94 : decode cX12_wrongAt 94 = .ok (.goto 7, 3) := by decide +kernel
theorem dX12_wrongAt_97 : decode cX12_wrongAt 97 = .ok (.aload_n 0, 1) := by decide +kernel
theorem dX12_wrongAt_98 : decode cX12_wrongAt 98 = .ok (.getfield 246, 3) := by decide +kernel
theorem dX12_wrongAt_101 : decode cX12_wrongAt 101 = .ok (.ireturn, 1) := by decide +kernel
theorem dX12_read_0 : decode cX12_read 0 = .ok (.aload_n 0, 1) := by decide +kernel
theorem dX12_read_1 : decode cX12_read 1 = .ok (.invokevirtual 255, 3) := by decide +kernel
theorem dX12_read_4 : decode cX12_read 4 = .ok (.istore_n 1, 1) := by decide +kernel
theorem dX12_read_5 : decode cX12_read 5 = .ok (.iload_n 1, 1) := by decide +kernel
theorem dX12_read_6 : decode cX12_read 6 = .ok (.ifCond .lt 8, 3) := by decide +kernel
theorem dX12_read_9 : decode cX12_read 9 = .ok (.bipush (-100), 2) := by decide +kernel
theorem dX12_read_11 : decode cX12_read 11 = .ok (.iload_n 1, 1) := by decide +kernel
theorem dX12_read_12 : decode cX12_read 12 = .ok (.isub, 1) := by decide +kernel
theorem dX12_read_13 : decode cX12_read 13 = .ok (.ireturn, 1) := by decide +kernel
theorem dX12_read_14 : decode cX12_read 14 = .ok (.aload_n 0, 1) := by decide +kernel
theorem dX12_read_15 : decode cX12_read 15 = .ok (.getfield 7, 3) := by decide +kernel
theorem dX12_read_18 : decode cX12_read 18 = .ok (.iconst 0, 1) := by decide +kernel
theorem dX12_read_19 : decode cX12_read 19 = .ok (.iaload, 1) := by decide +kernel
theorem dX12_read_20 : decode cX12_read 20 = .ok (.aload_n 0, 1) := by decide +kernel
theorem dX12_read_21 : decode cX12_read 21 = .ok (.getfield 243, 3) := by decide +kernel
theorem dX12_read_24 : decode cX12_read 24 = .ok (.iadd, 1) := by decide +kernel
theorem dX12_read_25 : decode cX12_read 25 = .ok (.bipush 20, 2) := by decide +kernel
theorem dX12_read_27 : decode cX12_read 27 = .ok (.if_icmp .le 6, 3) := by decide +kernel
theorem dX12_read_30 : decode cX12_read 30 = .ok (.bipush (-3), 2) := by decide +kernel
theorem dX12_read_32 : decode cX12_read 32 = .ok (.ireturn, 1) := by decide +kernel
theorem dX12_read_33 : decode cX12_read 33 = .ok (.aload_n 0, 1) := by decide +kernel
theorem dX12_read_34 : decode cX12_read 34 = .ok (.invokevirtual 91, 3) := by decide +kernel
theorem dX12_read_37 : decode cX12_read 37 = .ok (.iconst 0, 1) := by decide +kernel
theorem dX12_read_38 : decode cX12_read 38 = .ok (.istore_n 2, 1) := by decide +kernel
theorem dX12_read_39 : decode cX12_read 39 = .ok (.iload_n 2, 1) := by decide +kernel
theorem dX12_read_40 : decode cX12_read 40 = .ok (.aload_n 0, 1) := by decide +kernel
theorem dX12_read_41 : decode cX12_read 41 = .ok (.getfield 243, 3) := by decide +kernel
theorem dX12_read_44 : decode cX12_read 44 = .ok (.if_icmp .ge 58, 3) := by decide +kernel
theorem dX12_read_47 : decode cX12_read 47 = .ok (.aload_n 0, 1) := by decide +kernel
theorem dX12_read_48 : decode cX12_read 48 = .ok (.aload_n 0, 1) := by decide +kernel
theorem dX12_read_49 : decode cX12_read 49 = .ok (.getfield 49, 3) := by decide +kernel
theorem dX12_read_52 : decode cX12_read 52 = .ok (.iload_n 2, 1) := by decide +kernel
theorem dX12_read_53 : decode cX12_read 53 = .ok (.iaload, 1) := by decide +kernel
theorem dX12_read_54 : decode cX12_read 54 = .ok (.aload_n 0, 1) := by decide +kernel
theorem dX12_read_55 : decode cX12_read 55 = .ok (.getfield 52, 3) := by decide +kernel
theorem dX12_read_58 : decode cX12_read 58 = .ok (.iconst 4, 1) := by decide +kernel
theorem dX12_read_59 : decode cX12_read 59 = .ok (.iload_n 2, 1) := by decide +kernel
theorem dX12_read_60 : decode cX12_read 60 = .ok (.imul, 1) := by decide +kernel
theorem dX12_read_61 : decode cX12_read 61 = .ok (.iaload, 1) := by decide +kernel
theorem dX12_read_62 : decode cX12_read 62 = .ok (.aload_n 0, 1) := by decide +kernel
theorem dX12_read_63 : decode cX12_read 63 = .ok (.getfield 52, 3) := by decide +kernel
theorem dX12_read_66 : decode cX12_read 66 = .ok (.iconst 4, 1) := by decide +kernel
theorem dX12_read_67 : decode cX12_read 67 = .ok (.iload_n 2, 1) := by decide +kernel
theorem dX12_read_68 : decode cX12_read 68 = .ok (.imul, 1) := by decide +kernel
theorem dX12_read_69 : decode cX12_read 69 = .ok (.iconst 1, 1) := by decide +kernel
theorem dX12_read_70 : decode cX12_read 70 = .ok (.iadd, 1) := by decide +kernel
theorem dX12_read_71 : decode cX12_read 71 = .ok (.iaload, 1) := by decide +kernel
theorem dX12_read_72 : decode cX12_read 72 = .ok (.aload_n 0, 1) := by decide +kernel
theorem dX12_read_73 : decode cX12_read 73 = .ok (.getfield 52, 3) := by decide +kernel
theorem dX12_read_76 : decode cX12_read 76 = .ok (.iconst 4, 1) := by decide +kernel
theorem dX12_read_77 : decode cX12_read 77 = .ok (.iload_n 2, 1) := by decide +kernel
theorem dX12_read_78 : decode cX12_read 78 = .ok (.imul, 1) := by decide +kernel
theorem dX12_read_79 : decode cX12_read 79 = .ok (.iconst 2, 1) := by decide +kernel
theorem dX12_read_80 : decode cX12_read 80 = .ok (.iadd, 1) := by decide +kernel
theorem dX12_read_81 : decode cX12_read 81 = .ok (.iaload, 1) := by decide +kernel
theorem dX12_read_82 : decode cX12_read 82 = .ok (.aload_n 0, 1) := by decide +kernel
theorem dX12_read_83 : decode cX12_read 83 = .ok (.getfield 52, 3) := by decide +kernel
theorem dX12_read_86 : decode cX12_read 86 = .ok (.iconst 4, 1) := by decide +kernel
theorem dX12_read_87 : decode cX12_read 87 = .ok (.iload_n 2, 1) := by decide +kernel
theorem dX12_read_88 : decode cX12_read 88 = .ok (.imul, 1) := by decide +kernel
theorem dX12_read_89 : decode cX12_read 89 = .ok (.iconst 3, 1) := by decide +kernel
theorem dX12_read_90 : decode cX12_read 90 = .ok (.iadd, 1) := by decide +kernel
theorem dX12_read_91 : decode cX12_read 91 = .ok (.iaload, 1) := by decide +kernel
theorem dX12_read_92 : decode cX12_read 92 = .ok (.invokevirtual 94, 3) := by decide +kernel
theorem dX12_read_95 : decode cX12_read 95 = .ok (.istore_n 3, 1) := by decide +kernel
theorem dX12_read_96 : decode cX12_read 96 = .ok (.iinc 2 1, 3) := by decide +kernel
theorem dX12_read_99 : decode cX12_read 99 = .ok (.goto (-60), 3) := by decide +kernel
theorem dX12_read_102 : decode cX12_read 102 = .ok (.aload_n 0, 1) := by decide +kernel
theorem dX12_read_103 : decode cX12_read 103 = .ok (.iconst 0, 1) := by decide +kernel
theorem dX12_read_104 : decode cX12_read 104 = .ok (.putfield 234, 3) := by decide +kernel
theorem dX12_read_107 : decode cX12_read 107 = .ok (.aload_n 0, 1) := by decide +kernel
theorem dX12_read_108 : decode cX12_read 108 = .ok (.getfield 243, 3) := by decide +kernel
theorem dX12_read_111 : decode cX12_read 111 = .ok (.ireturn, 1) := by decide +kernel
theorem dX12_undo_0 : decode cX12_undo 0 = .ok (.aload_n 0, 1) := by decide +kernel
theorem dX12_undo_1 : decode cX12_undo 1 = .ok (.getfield 55, 3) := by decide +kernel
theorem dX12_undo_4 : decode cX12_undo 4 = .ok (.ifCond .ne 6, 3) := by decide +kernel
theorem dX12_undo_7 : decode cX12_undo 7 = .ok (.ldc 117, 2) := by decide +kernel
theorem dX12_undo_9 : decode cX12_undo 9 = .ok (.ireturn, 1) := by decide +kernel
theorem dX12_undo_10 : decode cX12_undo 10 = .ok (.aload_n 0, 1) := by decide +kernel
theorem dX12_undo_11 : decode cX12_undo 11 = .ok (.dup, 1) := by decide +kernel
theorem dX12_undo_12 : decode cX12_undo 12 = .ok (.getfield 55, 3) := by decide +kernel
theorem dX12_undo_15 : decode cX12_undo 15 = .ok (.iconst 1, 1) := by decide +kernel
theorem dX12_undo_16 : decode cX12_undo 16 = .ok (.isub, 1) := by decide +kernel
theorem dX12_undo_17 : decode cX12_undo 17 = .ok (.putfield 55, 3) := by decide +kernel
theorem dX12_undo_20 : decode cX12_undo 20 = .ok (.iconst 0, 1) := by decide +kernel
theorem dX12_undo_21 : decode cX12_undo 21 = .ok (.istore_n 1, 1) := by decide +kernel
theorem dX12_undo_22 : decode cX12_undo 22 = .ok (.iload_n 1, 1) := by decide +kernel
theorem dX12_undo_23 : decode cX12_undo 23 = .ok (.sipush 380, 3) := by decide +kernel
theorem dX12_undo_26 : decode cX12_undo 26 = .ok (.if_icmp .ge 30, 3) := by decide +kernel
theorem dX12_undo_29 : decode cX12_undo 29 = .ok (.aload_n 0, 1) := by decide +kernel
theorem dX12_undo_30 : decode cX12_undo 30 = .ok (.getfield 7, 3) := by decide +kernel
theorem dX12_undo_33 : decode cX12_undo 33 = .ok (.iload_n 1, 1) := by decide +kernel
theorem dX12_undo_34 : decode cX12_undo 34 = .ok (.aload_n 0, 1) := by decide +kernel
theorem dX12_undo_35 : decode cX12_undo 35 = .ok (.getfield 13, 3) := by decide +kernel
theorem dX12_undo_38 : decode cX12_undo 38 = .ok (.sipush 380, 3) := by decide +kernel
theorem dX12_undo_41 : decode cX12_undo 41 = .ok (.aload_n 0, 1) := by decide +kernel
theorem dX12_undo_42 : decode cX12_undo 42 = .ok (.getfield 55, 3) := by decide +kernel
theorem dX12_undo_45 : decode cX12_undo 45 = .ok (.imul, 1) := by decide +kernel
theorem dX12_undo_46 : decode cX12_undo 46 = .ok (.iload_n 1, 1) := by decide +kernel
theorem dX12_undo_47 : decode cX12_undo 47 = .ok (.iadd, 1) := by decide +kernel
theorem dX12_undo_48 : decode cX12_undo 48 = .ok (.iaload, 1) := by decide +kernel
theorem dX12_undo_49 : decode cX12_undo 49 = .ok (.iastore, 1) := by decide +kernel
theorem dX12_undo_50 : decode cX12_undo 50 = .ok (.iinc 1 1, 3) := by decide +kernel
theorem dX12_undo_53 : decode cX12_undo 53 = .ok (.goto (-31), 3) := by decide +kernel
theorem dX12_undo_56 : decode cX12_undo 56 = .ok (.aload_n 0, 1) := by decide +kernel
theorem dX12_undo_57 : decode cX12_undo 57 = .ok (.getfield 55, 3) := by decide +kernel
theorem dX12_undo_60 : decode cX12_undo 60 = .ok (.ireturn, 1) := by decide +kernel
theorem dX12_fingerprint_0 : decode cX12_fingerprint 0 = .ok (.ldc2_w 258, 3) := by decide +kernel
theorem dX12_fingerprint_3 : decode cX12_fingerprint 3 = .ok (.lstore_n 1, 1) := by decide +kernel
theorem dX12_fingerprint_4 : decode cX12_fingerprint 4 = .ok (.iconst 0, 1) := by decide +kernel
theorem dX12_fingerprint_5 : decode cX12_fingerprint 5 = .ok (.istore_n 3, 1) := by decide +kernel
theorem dX12_fingerprint_6 : decode cX12_fingerprint 6 = .ok (.iload_n 3, 1) := by decide +kernel
theorem dX12_fingerprint_7 : decode cX12_fingerprint 7 = .ok (.bipush 20, 2) := by decide +kernel
theorem dX12_fingerprint_9 : decode cX12_fingerprint 9 = .ok (.if_icmp .ge 59, 3) := by decide +kernel
theorem dX12_fingerprint_12 : decode cX12_fingerprint 12 = .ok (.aload_n 0, 1) := by decide +kernel
theorem dX12_fingerprint_13 : decode cX12_fingerprint 13 = .ok (.iload_n 3, 1) := by decide +kernel
theorem dX12_fingerprint_14 : decode cX12_fingerprint 14 = .ok (.iconst 0, 1) := by decide +kernel
theorem dX12_fingerprint_15 : decode cX12_fingerprint 15 = .ok (.invokevirtual 63, 3) := by decide +kernel
theorem dX12_fingerprint_18 : decode cX12_fingerprint 18 = .ok (.iconst 1, 1) := by decide +kernel
theorem dX12_fingerprint_19 : decode cX12_fingerprint 19 = .ok (.if_icmp .ne 43, 3) := by decide +kernel
theorem dX12_fingerprint_22 : decode cX12_fingerprint 22 = .ok (.ldc2_w 260, 3) := by decide +kernel
theorem dX12_fingerprint_25 : decode cX12_fingerprint 25 = .ok (.lload_n 1, 1) := by decide +kernel
theorem dX12_fingerprint_26 : decode cX12_fingerprint 26 = .ok (.lmul, 1) := by decide +kernel
theorem dX12_fingerprint_27 : decode cX12_fingerprint 27 = .ok (.iload_n 3, 1) := by decide +kernel
theorem dX12_fingerprint_28 : decode cX12_fingerprint 28 = .ok (.i2l, 1) := by decide +kernel
theorem dX12_fingerprint_29 : decode cX12_fingerprint 29 = .ok (.ladd, 1) := by decide +kernel
theorem dX12_fingerprint_30 : decode cX12_fingerprint 30 = .ok (.lstore_n 1, 1) := by decide +kernel
theorem dX12_fingerprint_31 : decode cX12_fingerprint 31 = .ok (.iconst 0, 1) := by decide +kernel
theorem dX12_fingerprint_32 : decode cX12_fingerprint 32 = .ok (.istore 4, 2) := by decide +kernel
theorem dX12_fingerprint_34 : decode cX12_fingerprint 34 = .ok (.iload 4, 2) := by decide +kernel
theorem dX12_fingerprint_36 : decode cX12_fingerprint 36 = .ok (.bipush 9, 2) := by decide +kernel
theorem dX12_fingerprint_38 : decode cX12_fingerprint 38 = .ok (.if_icmp .ge 24, 3) := by decide +kernel
theorem dX12_fingerprint_41 : decode cX12_fingerprint 41 = .ok (.ldc2_w 260, 3) := by decide +kernel
theorem dX12_fingerprint_44 : decode cX12_fingerprint 44 = .ok (.lload_n 1, 1) := by decide +kernel
theorem dX12_fingerprint_45 : decode cX12_fingerprint 45 = .ok (.lmul, 1) := by decide +kernel
theorem dX12_fingerprint_46 : decode cX12_fingerprint 46 = .ok (.aload_n 0, 1) := by decide +kernel
theorem dX12_fingerprint_47 : decode cX12_fingerprint 47 = .ok (.iload_n 3, 1) := by decide +kernel
theorem dX12_fingerprint_48 : decode cX12_fingerprint 48 = .ok (.iload 4, 2) := by decide +kernel
theorem dX12_fingerprint_50 : decode cX12_fingerprint 50 = .ok (.invokevirtual 118, 3) := by decide +kernel
theorem dX12_fingerprint_53 : decode cX12_fingerprint 53 = .ok (.i2l, 1) := by decide +kernel
theorem dX12_fingerprint_54 : decode cX12_fingerprint 54 = .ok (.ladd, 1) := by decide +kernel
theorem dX12_fingerprint_55 : decode cX12_fingerprint 55 = .ok (.lstore_n 1, 1) := by decide +kernel
theorem dX12_fingerprint_56 : decode cX12_fingerprint 56 = .ok (.iinc 4 1, 3) := by decide +kernel
theorem dX12_fingerprint_59 : decode cX12_fingerprint 59 = .ok (.goto (-25), 3) := by decide +kernel
theorem dX12_fingerprint_62 : decode cX12_fingerprint 62 = .ok (.iinc 3 1, 3) := by decide +kernel
theorem dX12_fingerprint_65 : decode cX12_fingerprint 65 = .ok (.goto (-59), 3) := by decide +kernel
theorem dX12_fingerprint_68 : decode cX12_fingerprint 68 = .ok (.ldc2_w 260, 3) := by decide +kernel
theorem dX12_fingerprint_71 : decode cX12_fingerprint 71 = .ok (.lload_n 1, 1) := by decide +kernel
theorem dX12_fingerprint_72 : decode cX12_fingerprint 72 = .ok (.lmul, 1) := by decide +kernel
theorem dX12_fingerprint_73 : decode cX12_fingerprint 73 = .ok (.aload_n 0, 1) := by decide +kernel
theorem dX12_fingerprint_74 : decode cX12_fingerprint 74 = .ok (.getfield 7, 3) := by decide +kernel
theorem dX12_fingerprint_77 : decode cX12_fingerprint 77 = .ok (.iconst 2, 1) := by decide +kernel
theorem dX12_fingerprint_78 : decode cX12_fingerprint 78 = .ok (.iaload, 1) := by decide +kernel
theorem dX12_fingerprint_79 : decode cX12_fingerprint 79 = .ok (.i2l, 1) := by decide +kernel
theorem dX12_fingerprint_80 : decode cX12_fingerprint 80 = .ok (.ladd, 1) := by decide +kernel
theorem dX12_fingerprint_81 : decode cX12_fingerprint 81 = .ok (.lstore_n 1, 1) := by decide +kernel
theorem dX12_fingerprint_82 : decode cX12_fingerprint 82 = .ok (.iconst 0, 1) := by decide +kernel
theorem dX12_fingerprint_83 : decode cX12_fingerprint 83 = .ok (.istore_n 3, 1) := by decide +kernel
theorem dX12_fingerprint_84 : decode cX12_fingerprint 84 = .ok (.iload_n 3, 1) := by decide +kernel
theorem dX12_fingerprint_85 : decode cX12_fingerprint 85 = .ok (.aload_n 0, 1) := by decide +kernel
theorem dX12_fingerprint_86 : decode cX12_fingerprint 86 = .ok (.getfield 7, 3) := by decide +kernel
theorem dX12_fingerprint_89 : decode cX12_fingerprint 89 = .ok (.iconst 2, 1) := by decide +kernel
theorem dX12_fingerprint_90 : decode cX12_fingerprint 90 = .ok (.iaload, 1) := by decide +kernel
theorem dX12_fingerprint_91 : decode cX12_fingerprint 91 = .ok (.if_icmp .ge 79, 3) := by decide +kernel
theorem dX12_fingerprint_94 : decode cX12_fingerprint 94 = .ok (.ldc2_w 260, 3) := by decide +kernel
theorem dX12_fingerprint_97 : decode cX12_fingerprint 97 = .ok (.ldc2_w 260, 3) := by decide +kernel
theorem dX12_fingerprint_100 : decode cX12_fingerprint 100 = .ok (.lload_n 1, 1) := by decide +kernel
theorem dX12_fingerprint_101 : decode cX12_fingerprint 101 = .ok (.lmul, 1) := by decide +kernel
theorem dX12_fingerprint_102 : decode cX12_fingerprint 102 = .ok (.aload_n 0, 1) := by decide +kernel
theorem dX12_fingerprint_103 : decode cX12_fingerprint 103 = .ok (.iload_n 3, 1) := by decide +kernel
theorem dX12_fingerprint_104 : decode cX12_fingerprint 104 = .ok (.invokevirtual 160, 3) := by decide +kernel
theorem dX12_fingerprint_107 : decode cX12_fingerprint 107 = .ok (.i2l, 1) := by decide +kernel
theorem dX12_fingerprint_108 : decode cX12_fingerprint 108 = .ok (.ladd, 1) := by decide +kernel
theorem dX12_fingerprint_109 : decode cX12_fingerprint 109 = .ok (.lmul, 1) := by decide +kernel
theorem dX12_fingerprint_110 : decode cX12_fingerprint 110 = .ok (.aload_n 0, 1) := by decide +kernel
theorem dX12_fingerprint_111 : decode cX12_fingerprint 111 = .ok (.iload_n 3, 1) := by decide +kernel
theorem dX12_fingerprint_112 : decode cX12_fingerprint 112 = .ok (.invokevirtual 166, 3) := by decide +kernel
theorem dX12_fingerprint_115 : decode cX12_fingerprint 115 = .ok (.i2l, 1) := by decide +kernel
theorem dX12_fingerprint_116 : decode cX12_fingerprint 116 = .ok (.ladd, 1) := by decide +kernel
theorem dX12_fingerprint_117 : decode cX12_fingerprint 117 = .ok (.lstore_n 1, 1) := by decide +kernel
theorem dX12_fingerprint_118 : decode cX12_fingerprint 118 = .ok (.iconst 0, 1) := by decide +kernel
theorem dX12_fingerprint_119 : decode cX12_fingerprint 119 = .ok (.istore 4, 2) := by decide +kernel
theorem dX12_fingerprint_121 : decode cX12_fingerprint 121 = .ok (.iload 4, 2) := by decide +kernel
theorem dX12_fingerprint_123 : decode cX12_fingerprint 123 = .ok (.aload_n 0, 1) := by decide +kernel
theorem dX12_fingerprint_124 : decode cX12_fingerprint 124 = .ok (.getfield 144, 3) := by decide +kernel
theorem dX12_fingerprint_127 : decode cX12_fingerprint 127 = .ok (.if_icmp .ge 37, 3) := by decide +kernel
theorem dX12_fingerprint_130 : decode cX12_fingerprint 130 = .ok (.ldc2_w 260, 3) := by decide +kernel
theorem dX12_fingerprint_133 : decode cX12_fingerprint 133 = .ok (.ldc2_w 260, 3) := by decide +kernel
theorem dX12_fingerprint_136 : decode cX12_fingerprint 136 = .ok (.lload_n 1, 1) := by decide +kernel
theorem dX12_fingerprint_137 : decode cX12_fingerprint 137 = .ok (.lmul, 1) := by decide +kernel
theorem dX12_fingerprint_138 : decode cX12_fingerprint 138 = .ok (.aload_n 0, 1) := by decide +kernel
theorem dX12_fingerprint_139 : decode cX12_fingerprint 139 = .ok (.getfield 16, 3) := by decide +kernel
theorem dX12_fingerprint_142 : decode cX12_fingerprint 142 = .ok (.iload 4, 2) := by decide +kernel
theorem dX12_fingerprint_144 : decode cX12_fingerprint 144 = .ok (.iaload, 1) := by decide +kernel
theorem dX12_fingerprint_145 : decode cX12_fingerprint 145 = .ok (.i2l, 1) := by decide +kernel
theorem dX12_fingerprint_146 : decode cX12_fingerprint 146 = .ok (.ladd, 1) := by decide +kernel
theorem dX12_fingerprint_147 : decode cX12_fingerprint 147 = .ok (.lmul, 1) := by decide +kernel
theorem dX12_fingerprint_148 : decode cX12_fingerprint 148 = .ok (.aload_n 0, 1) := by decide +kernel
theorem dX12_fingerprint_149 : decode cX12_fingerprint 149 = .ok (.getfield 19, 3) := by decide +kernel
theorem dX12_fingerprint_152 : decode cX12_fingerprint 152 = .ok (.iload 4, 2) := by decide +kernel
theorem dX12_fingerprint_154 : decode cX12_fingerprint 154 = .ok (.iaload, 1) := by decide +kernel
theorem dX12_fingerprint_155 : decode cX12_fingerprint 155 = .ok (.i2l, 1) := by decide +kernel
theorem dX12_fingerprint_156 : decode cX12_fingerprint 156 = .ok (.ladd, 1) := by decide +kernel
theorem dX12_fingerprint_157 : decode cX12_fingerprint 157 = .ok (.lstore_n 1, 1) := by decide +kernel
theorem dX12_fingerprint_158 : decode cX12_fingerprint 158 = .ok (.iinc 4 1, 3) := by decide +kernel
theorem dX12_fingerprint_161 : decode cX12_fingerprint 161 = .ok (.goto (-40), 3) := by decide +kernel
theorem dX12_fingerprint_164 : decode cX12_fingerprint 164 = .ok (.iinc 3 1, 3) := by decide +kernel
theorem dX12_fingerprint_167 : decode cX12_fingerprint 167 = .ok (.goto (-83), 3) := by decide +kernel
theorem dX12_fingerprint_170 : decode cX12_fingerprint 170 = .ok (.iconst 0, 1) := by decide +kernel
theorem dX12_fingerprint_171 : decode cX12_fingerprint 171 = .ok (.istore_n 3, 1) := by decide +kernel
theorem dX12_fingerprint_172 : decode cX12_fingerprint 172 = .ok (.iload_n 3, 1) := by decide +kernel
theorem dX12_fingerprint_173 : decode cX12_fingerprint 173 = .ok (.bipush 8, 2) := by decide +kernel
theorem dX12_fingerprint_175 : decode cX12_fingerprint 175 = .ok (.if_icmp .ge 37, 3) := by decide +kernel
theorem dX12_fingerprint_178 : decode cX12_fingerprint 178 = .ok (.aload_n 0, 1) := by decide +kernel
theorem dX12_fingerprint_179 : decode cX12_fingerprint 179 = .ok (.iload_n 3, 1) := by decide +kernel
theorem dX12_fingerprint_180 : decode cX12_fingerprint 180 = .ok (.invokevirtual 78, 3) := by decide +kernel
theorem dX12_fingerprint_183 : decode cX12_fingerprint 183 = .ok (.ifCond .eq 23, 3) := by decide +kernel
theorem dX12_fingerprint_186 : decode cX12_fingerprint 186 = .ok (.ldc2_w 260, 3) := by decide +kernel
theorem dX12_fingerprint_189 : decode cX12_fingerprint 189 = .ok (.ldc2_w 260, 3) := by decide +kernel
theorem dX12_fingerprint_192 : decode cX12_fingerprint 192 = .ok (.lload_n 1, 1) := by decide +kernel
theorem dX12_fingerprint_193 : decode cX12_fingerprint 193 = .ok (.lmul, 1) := by decide +kernel
theorem dX12_fingerprint_194 : decode cX12_fingerprint 194 = .ok (.iload_n 3, 1) := by decide +kernel
theorem dX12_fingerprint_195 : decode cX12_fingerprint 195 = .ok (.i2l, 1) := by decide +kernel
theorem dX12_fingerprint_196 : decode cX12_fingerprint 196 = .ok (.ladd, 1) := by decide +kernel
theorem dX12_fingerprint_197 : decode cX12_fingerprint 197 = .ok (.lmul, 1) := by decide +kernel
theorem dX12_fingerprint_198 : decode cX12_fingerprint 198 = .ok (.aload_n 0, 1) := by decide +kernel
theorem dX12_fingerprint_199 : decode cX12_fingerprint 199 = .ok (.iload_n 3, 1) := by decide +kernel
theorem dX12_fingerprint_200 : decode cX12_fingerprint 200 = .ok (.invokevirtual 82, 3) := by decide +kernel
theorem dX12_fingerprint_203 : decode cX12_fingerprint 203 = .ok (.i2l, 1) := by decide +kernel
theorem dX12_fingerprint_204 : decode cX12_fingerprint 204 = .ok (.ladd, 1) := by decide +kernel
theorem dX12_fingerprint_205 : decode cX12_fingerprint 205 = .ok (.lstore_n 1, 1) := by decide +kernel
theorem dX12_fingerprint_206 : decode cX12_fingerprint 206 = .ok (.iinc 3 1, 3) := by decide +kernel
theorem dX12_fingerprint_209 : decode cX12_fingerprint 209 = .ok (.goto (-37), 3) := by decide +kernel
theorem dX12_fingerprint_212 : decode cX12_fingerprint 212 = .ok (.lload_n 1, 1) := by decide +kernel
theorem dX12_fingerprint_213 : decode cX12_fingerprint 213 = .ok (.lreturn, 1) := by decide +kernel
theorem dJ6_bitCount_0f7a4_0 : decode cJ6_bitCount_0f7a4 0 = .ok (.iload_n 0, 1) := by decide +kernel
theorem dJ6_bitCount_0f7a4_1 : decode cJ6_bitCount_0f7a4 1 = .ok (.iload_n 0, 1) := by decide +kernel
theorem dJ6_bitCount_0f7a4_2 : decode cJ6_bitCount_0f7a4 2 = .ok (.iconst 1, 1) := by decide +kernel
theorem dJ6_bitCount_0f7a4_3 : decode cJ6_bitCount_0f7a4 3 = .ok (.iushr, 1) := by decide +kernel
theorem dJ6_bitCount_0f7a4_4 : decode cJ6_bitCount_0f7a4 4 = .ok (.ldc_w 265, 3) := by decide +kernel
theorem dJ6_bitCount_0f7a4_7 : decode cJ6_bitCount_0f7a4 7 = .ok (.iand, 1) := by decide +kernel
theorem dJ6_bitCount_0f7a4_8 : decode cJ6_bitCount_0f7a4 8 = .ok (.isub, 1) := by decide +kernel
theorem dJ6_bitCount_0f7a4_9 : decode cJ6_bitCount_0f7a4 9 = .ok (.istore_n 0, 1) := by decide +kernel
theorem dJ6_bitCount_0f7a4_10 : decode cJ6_bitCount_0f7a4 10 = .ok (.iload_n 0, 1) := by decide +kernel
theorem dJ6_bitCount_0f7a4_11 : decode cJ6_bitCount_0f7a4 11 = .ok (.ldc_w 266, 3) := by decide +kernel
theorem dJ6_bitCount_0f7a4_14 : decode cJ6_bitCount_0f7a4 14 = .ok (.iand, 1) := by decide +kernel
theorem dJ6_bitCount_0f7a4_15 : decode cJ6_bitCount_0f7a4 15 = .ok (.iload_n 0, 1) := by decide +kernel
theorem dJ6_bitCount_0f7a4_16 : decode cJ6_bitCount_0f7a4 16 = .ok (.iconst 2, 1) := by decide +kernel
theorem dJ6_bitCount_0f7a4_17 : decode cJ6_bitCount_0f7a4 17 = .ok (.iushr, 1) := by decide +kernel
theorem dJ6_bitCount_0f7a4_18 : decode cJ6_bitCount_0f7a4 18 = .ok (.ldc_w 266, 3) := by decide +kernel
theorem dJ6_bitCount_0f7a4_21 : decode cJ6_bitCount_0f7a4 21 = .ok (.iand, 1) := by decide +kernel
theorem dJ6_bitCount_0f7a4_22 : decode cJ6_bitCount_0f7a4 22 = .ok (.iadd, 1) := by decide +kernel
theorem dJ6_bitCount_0f7a4_23 : decode cJ6_bitCount_0f7a4 23 = .ok (.istore_n 0, 1) := by decide +kernel
theorem dJ6_bitCount_0f7a4_24 : decode cJ6_bitCount_0f7a4 24 = .ok (.iload_n 0, 1) := by decide +kernel
theorem dJ6_bitCount_0f7a4_25 : decode cJ6_bitCount_0f7a4 25 = .ok (.iload_n 0, 1) := by decide +kernel
theorem dJ6_bitCount_0f7a4_26 : decode cJ6_bitCount_0f7a4 26 = .ok (.iconst 4, 1) := by decide +kernel
theorem dJ6_bitCount_0f7a4_27 : decode cJ6_bitCount_0f7a4 27 = .ok (.iushr, 1) := by decide +kernel
theorem dJ6_bitCount_0f7a4_28 : decode cJ6_bitCount_0f7a4 28 = .ok (.iadd, 1) := by decide +kernel
theorem dJ6_bitCount_0f7a4_29 : decode cJ6_bitCount_0f7a4 29 = .ok (.ldc_w 267, 3) := by decide +kernel
theorem dJ6_bitCount_0f7a4_32 : decode cJ6_bitCount_0f7a4 32 = .ok (.iand, 1) := by decide +kernel
theorem dJ6_bitCount_0f7a4_33 : decode cJ6_bitCount_0f7a4 33 = .ok (.istore_n 0, 1) := by decide +kernel
theorem dJ6_bitCount_0f7a4_34 : decode cJ6_bitCount_0f7a4 34 = .ok (.iload_n 0, 1) := by decide +kernel
theorem dJ6_bitCount_0f7a4_35 : decode cJ6_bitCount_0f7a4 35 = .ok (.iload_n 0, 1) := by decide +kernel
theorem dJ6_bitCount_0f7a4_36 : decode cJ6_bitCount_0f7a4 36 = .ok (.bipush 8, 2) := by decide +kernel
theorem dJ6_bitCount_0f7a4_38 : decode cJ6_bitCount_0f7a4 38 = .ok (.iushr, 1) := by decide +kernel
theorem dJ6_bitCount_0f7a4_39 : decode cJ6_bitCount_0f7a4 39 = .ok (.iadd, 1) := by decide +kernel
theorem dJ6_bitCount_0f7a4_40 : decode cJ6_bitCount_0f7a4 40 = .ok (.istore_n 0, 1) := by decide +kernel
theorem dJ6_bitCount_0f7a4_41 : decode cJ6_bitCount_0f7a4 41 = .ok (.iload_n 0, 1) := by decide +kernel
theorem dJ6_bitCount_0f7a4_42 : decode cJ6_bitCount_0f7a4 42 = .ok (.iload_n 0, 1) := by decide +kernel
theorem dJ6_bitCount_0f7a4_43 : decode cJ6_bitCount_0f7a4 43 = .ok (.bipush 16, 2) := by decide +kernel
theorem dJ6_bitCount_0f7a4_45 : decode cJ6_bitCount_0f7a4 45 = .ok (.iushr, 1) := by decide +kernel
theorem dJ6_bitCount_0f7a4_46 : decode cJ6_bitCount_0f7a4 46 = .ok (.iadd, 1) := by decide +kernel
theorem dJ6_bitCount_0f7a4_47 : decode cJ6_bitCount_0f7a4 47 = .ok (.istore_n 0, 1) := by decide +kernel
theorem dJ6_bitCount_0f7a4_48 : decode cJ6_bitCount_0f7a4 48 = .ok (.iload_n 0, 1) := by decide +kernel
theorem dJ6_bitCount_0f7a4_49 : decode cJ6_bitCount_0f7a4 49 = .ok (.bipush 63, 2) := by decide +kernel
theorem dJ6_bitCount_0f7a4_51 : decode cJ6_bitCount_0f7a4 51 = .ok (.iand, 1) := by decide +kernel
theorem dJ6_bitCount_0f7a4_52 : decode cJ6_bitCount_0f7a4 52 = .ok (.ireturn, 1) := by decide +kernel
theorem dJ9_floorDiv_7cf53_0 : decode cJ9_floorDiv_7cf53 0 = .ok (.iload_n 0, 1) := by decide +kernel
theorem dJ9_floorDiv_7cf53_1 : decode cJ9_floorDiv_7cf53 1 = .ok (.iload_n 1, 1) := by decide +kernel
theorem dJ9_floorDiv_7cf53_2 : decode cJ9_floorDiv_7cf53 2 = .ok (.idiv, 1) := by decide +kernel
theorem dJ9_floorDiv_7cf53_3 : decode cJ9_floorDiv_7cf53 3 = .ok (.istore_n 2, 1) := by decide +kernel
theorem dJ9_floorDiv_7cf53_4 : decode cJ9_floorDiv_7cf53 4 = .ok (.iload_n 0, 1) := by decide +kernel
theorem dJ9_floorDiv_7cf53_5 : decode cJ9_floorDiv_7cf53 5 = .ok (.iload_n 1, 1) := by decide +kernel
theorem dJ9_floorDiv_7cf53_6 : decode cJ9_floorDiv_7cf53 6 = .ok (.ixor, 1) := by decide +kernel
theorem dJ9_floorDiv_7cf53_7 : decode cJ9_floorDiv_7cf53 7 = .ok (.ifCond .ge 14, 3) := by decide +kernel
theorem dJ9_floorDiv_7cf53_10 : decode cJ9_floorDiv_7cf53 10 = .ok (.iload_n 2, 1) := by decide +kernel
theorem dJ9_floorDiv_7cf53_11 : decode cJ9_floorDiv_7cf53 11 = .ok (.iload_n 1, 1) := by decide +kernel
theorem dJ9_floorDiv_7cf53_12 : decode cJ9_floorDiv_7cf53 12 = .ok (.imul, 1) := by decide +kernel
theorem dJ9_floorDiv_7cf53_13 : decode cJ9_floorDiv_7cf53 13 = .ok (.iload_n 0, 1) := by decide +kernel
theorem dJ9_floorDiv_7cf53_14 : decode cJ9_floorDiv_7cf53 14 = .ok (.if_icmp .eq 7, 3) := by decide +kernel
theorem dJ9_floorDiv_7cf53_17 : decode cJ9_floorDiv_7cf53 17 = .ok (.iload_n 2, 1) := by decide +kernel
theorem dJ9_floorDiv_7cf53_18 : decode cJ9_floorDiv_7cf53 18 = .ok (.iconst 1, 1) := by decide +kernel
theorem dJ9_floorDiv_7cf53_19 : decode cJ9_floorDiv_7cf53 19 = .ok (.isub, 1) := by decide +kernel
theorem dJ9_floorDiv_7cf53_20 : decode cJ9_floorDiv_7cf53 20 = .ok (.ireturn, 1) := by decide +kernel
theorem dJ9_floorDiv_7cf53_21 : decode cJ9_floorDiv_7cf53 21 = .ok (.iload_n 2, 1) := by decide +kernel
theorem dJ9_floorDiv_7cf53_22 : decode cJ9_floorDiv_7cf53 22 = .ok (.ireturn, 1) := by decide +kernel
theorem dJ9_floorMod_7cf53_0 : decode cJ9_floorMod_7cf53 0 = .ok (.iload_n 0, 1) := by decide +kernel
theorem dJ9_floorMod_7cf53_1 : decode cJ9_floorMod_7cf53 1 = .ok (.iload_n 1, 1) := by decide +kernel
theorem dJ9_floorMod_7cf53_2 : decode cJ9_floorMod_7cf53 2 = .ok (.irem, 1) := by decide +kernel
theorem dJ9_floorMod_7cf53_3 : decode cJ9_floorMod_7cf53 3 = .ok (.istore_n 2, 1) := by decide +kernel
theorem dJ9_floorMod_7cf53_4 : decode cJ9_floorMod_7cf53 4 = .ok (.iload_n 0, 1) := by decide +kernel
theorem dJ9_floorMod_7cf53_5 : decode cJ9_floorMod_7cf53 5 = .ok (.iload_n 1, 1) := by decide +kernel
theorem dJ9_floorMod_7cf53_6 : decode cJ9_floorMod_7cf53 6 = .ok (.ixor, 1) := by decide +kernel
theorem dJ9_floorMod_7cf53_7 : decode cJ9_floorMod_7cf53 7 = .ok (.ifCond .ge 11, 3) := by decide +kernel
theorem dJ9_floorMod_7cf53_10 : decode cJ9_floorMod_7cf53 10 = .ok (.iload_n 2, 1) := by decide +kernel
theorem dJ9_floorMod_7cf53_11 : decode cJ9_floorMod_7cf53 11 = .ok (.ifCond .eq 7, 3) := by decide +kernel
theorem dJ9_floorMod_7cf53_14 : decode cJ9_floorMod_7cf53 14 = .ok (.iload_n 2, 1) := by decide +kernel
theorem dJ9_floorMod_7cf53_15 : decode cJ9_floorMod_7cf53 15 = .ok (.iload_n 1, 1) := by decide +kernel
theorem dJ9_floorMod_7cf53_16 : decode cJ9_floorMod_7cf53 16 = .ok (.iadd, 1) := by decide +kernel
theorem dJ9_floorMod_7cf53_17 : decode cJ9_floorMod_7cf53 17 = .ok (.ireturn, 1) := by decide +kernel
theorem dJ9_floorMod_7cf53_18 : decode cJ9_floorMod_7cf53 18 = .ok (.iload_n 2, 1) := by decide +kernel
theorem dJ9_floorMod_7cf53_19 : decode cJ9_floorMod_7cf53 19 = .ok (.ireturn, 1) := by decide +kernel
theorem dJ9_abs_0f7a4_0 : decode cJ9_abs_0f7a4 0 = .ok (.iload_n 0, 1) := by decide +kernel
theorem dJ9_abs_0f7a4_1 : decode cJ9_abs_0f7a4 1 = .ok (.ifCond .ge 8, 3) := by decide +kernel
theorem dJ9_abs_0f7a4_4 : decode cJ9_abs_0f7a4 4 = .ok (.iload_n 0, 1) := by decide +kernel
theorem dJ9_abs_0f7a4_5 : decode cJ9_abs_0f7a4 5 = .ok (.ineg, 1) := by decide +kernel
theorem dJ9_abs_0f7a4_6 : decode cJ9_abs_0f7a4 6 = .ok (.goto 4, 3) := by decide +kernel
