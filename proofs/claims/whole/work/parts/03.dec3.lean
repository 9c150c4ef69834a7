theorem dX10_ring_80 : decode cX10_ring 80 = .ok (.if_icmp .ge 146, 3) := by decide +kernel
theorem dX10_ring_83 : decode cX10_ring 83 = .ok (.iconst 0, 1) := by decide +kernel
theorem dX10_ring_84 : decode cX10_ring 84 = .ok (.istore 10, 2) := by decide +kernel
theorem dX10_ring_86 : decode cX10_ring 86 = .ok (.iload 10, 2) := by decide +kernel
theorem dX10_ring_88 : decode cX10_ring 88 = .ok (.iload 8, 2) := by decide +kernel
theorem dX10_ring_90 : decode cX10_ring 90 = .ok (.if_icmp .ge 130, 3) := by decide +kernel
theorem dX10_ring_93 : decode cX10_ring 93 = .ok (.iload 5, 2) := by decide +kernel
theorem dX10_ring_95 : decode cX10_ring 95 = .ok (.iload 9, 2) := by decide +kernel
theorem dX10_ring_97 : decode cX10_ring 97 = .ok (.ishr, 1) := by decide +kernel
theorem dX10_ring_98 : decode cX10_ring 98 = .ok (.iconst 1, 1) := by decide +kernel
theorem dX10_ring_99 : decode cX10_ring 99 = .ok (.iand, 1) := by decide +kernel
theorem dX10_ring_100 : decode cX10_ring 100 = .ok (.iconst 1, 1) := by decide +kernel
theorem dX10_ring_101 : decode cX10_ring 101 = .ok (.if_icmp .ne 119, 3) := by decide +kernel
theorem dX10_ring_104 : decode cX10_ring 104 = .ok (.iload 6, 2) := by decide +kernel
theorem dX10_ring_106 : decode cX10_ring 106 = .ok (.iload 10, 2) := by decide +kernel
theorem dX10_ring_108 : decode cX10_ring 108 = .ok (.ishr, 1) := by decide +kernel
theorem dX10_ring_109 : decode cX10_ring 109 = .ok (.iconst 1, 1) := by decide +kernel
theorem dX10_ring_110 : decode cX10_ring 110 = .ok (.iand, 1) := by decide +kernel
theorem dX10_ring_111 : decode cX10_ring 111 = .ok (.ifCond .eq 103, 3) := by decide +kernel
theorem dX10_ring_114 : decode cX10_ring 114 = .ok (.aload_n 0, 1) := by decide +kernel
theorem dX10_ring_115 : decode cX10_ring 115 = .ok (.iload_n 2, 1) := by decide +kernel
theorem dX10_ring_116 : decode cX10_ring 116 = .ok (.iload 6, 2) := by decide +kernel
theorem dX10_ring_118 : decode cX10_ring 118 = .ok (.iload 10, 2) := by decide +kernel
theorem dX10_ring_120 : decode cX10_ring 120 = .ok (.iload 9, 2) := by decide +kernel
theorem dX10_ring_122 : decode cX10_ring 122 = .ok (.invokevirtual 311, 3) := by decide +kernel
theorem dX10_ring_125 : decode cX10_ring 125 = .ok (.ifCond .ne 6, 3) := by decide +kernel
theorem dX10_ring_128 : decode cX10_ring 128 = .ok (.goto 86, 3) := by decide +kernel
theorem dX10_ring_131 : decode cX10_ring 131 = .ok (.iconst 0, 1) := by decide +kernel
theorem dX10_ring_132 : decode cX10_ring 132 = .ok (.istore 11, 2) := by decide +kernel
theorem dX10_ring_134 : decode cX10_ring 134 = .ok (.iload 11, 2) := by decide +kernel
theorem dX10_ring_136 : decode cX10_ring 136 = .ok (.iload 8, 2) := by decide +kernel
theorem dX10_ring_138 : decode cX10_ring 138 = .ok (.if_icmp .ge 76, 3) := by decide +kernel
theorem dX10_ring_141 : decode cX10_ring 141 = .ok (.iload 7, 2) := by decide +kernel
theorem dX10_ring_143 : decode cX10_ring 143 = .ok (.iload 11, 2) := by decide +kernel
theorem dX10_ring_145 : decode cX10_ring 145 = .ok (.ishr, 1) := by decide +kernel
theorem dX10_ring_146 : decode cX10_ring 146 = .ok (.iconst 1, 1) := by decide +kernel
theorem dX10_ring_147 : decode cX10_ring 147 = .ok (.iand, 1) := by decide +kernel
theorem dX10_ring_148 : decode cX10_ring 148 = .ok (.iconst 1, 1) := by decide +kernel
theorem dX10_ring_149 : decode cX10_ring 149 = .ok (.if_icmp .ne 59, 3) := by decide +kernel
theorem dX10_ring_152 : decode cX10_ring 152 = .ok (.aload_n 0, 1) := by decide +kernel
theorem dX10_ring_153 : decode cX10_ring 153 = .ok (.iload_n 3, 1) := by decide +kernel
theorem dX10_ring_154 : decode cX10_ring 154 = .ok (.iload 7, 2) := by decide +kernel
theorem dX10_ring_156 : decode cX10_ring 156 = .ok (.iload 11, 2) := by decide +kernel
theorem dX10_ring_158 : decode cX10_ring 158 = .ok (.iload 10, 2) := by decide +kernel
theorem dX10_ring_160 : decode cX10_ring 160 = .ok (.invokevirtual 311, 3) := by decide +kernel
theorem dX10_ring_163 : decode cX10_ring 163 = .ok (.ifCond .eq 45, 3) := by decide +kernel
theorem dX10_ring_166 : decode cX10_ring 166 = .ok (.aload_n 0, 1) := by decide +kernel
theorem dX10_ring_167 : decode cX10_ring 167 = .ok (.iload_n 1, 1) := by decide +kernel
theorem dX10_ring_168 : decode cX10_ring 168 = .ok (.iload 5, 2) := by decide +kernel
theorem dX10_ring_170 : decode cX10_ring 170 = .ok (.iload 9, 2) := by decide +kernel
theorem dX10_ring_172 : decode cX10_ring 172 = .ok (.iload 11, 2) := by decide +kernel
theorem dX10_ring_174 : decode cX10_ring 174 = .ok (.invokevirtual 311, 3) := by decide +kernel
theorem dX10_ring_177 : decode cX10_ring 177 = .ok (.ifCond .eq 31, 3) := by decide +kernel
theorem dX10_ring_180 : decode cX10_ring 180 = .ok (.aload_n 0, 1) := by decide +kernel
theorem dX10_ring_181 : decode cX10_ring 181 = .ok (.iload 4, 2) := by decide +kernel
theorem dX10_ring_183 : decode cX10_ring 183 = .ok (.ifCond .ne 8, 3) := by decide +kernel
theorem dX10_ring_186 : decode cX10_ring 186 = .ok (.iload 9, 2) := by decide +kernel
theorem dX10_ring_188 : decode cX10_ring 188 = .ok (.goto 16, 3) := by decide +kernel
theorem dX10_ring_191 : decode cX10_ring 191 = .ok (.iload 4, 2) := by decide +kernel
theorem dX10_ring_193 : decode cX10_ring 193 = .ok (.iconst 1, 1) := by decide +kernel
theorem dX10_ring_194 : decode cX10_ring 194 = .ok (.if_icmp .ne 8, 3) := by decide +kernel
theorem dX10_ring_197 : decode cX10_ring 197 = .ok (.iload 10, 2) := by decide +kernel
theorem dX10_ring_199 : decode cX10_ring 199 = .ok (.goto 5, 3) := by decide +kernel
theorem dX10_ring_202 : decode cX10_ring 202 = .ok (.iload 11, 2) := by decide +kernel
theorem dX10_ring_204 : decode cX10_ring 204 = .ok (.invokevirtual 204, 3) := by decide +kernel
theorem dX10_ring_207 : decode cX10_ring 207 = .ok (.ireturn, 1) := by decide +kernel
theorem dX10_ring_208 : decode cX10_ring 208 = .ok (.iinc 11 1, 3) := by decide +kernel
theorem dX10_ring_211 : decode cX10_ring 211 = .ok (.goto (-77), 3) := by decide +kernel
theorem dX10_ring_214 : decode cX10_ring 214 = .ok (.iinc 10 1, 3) := by decide +kernel
theorem dX10_ring_217 : decode cX10_ring 217 = .ok (.goto (-131), 3) := by decide +kernel
theorem dX10_ring_220 : decode cX10_ring 220 = .ok (.iinc 9 1, 3) := by decide +kernel
theorem dX10_ring_223 : decode cX10_ring 223 = .ok (.goto (-147), 3) := by decide +kernel
theorem dX10_ring_226 : decode cX10_ring 226 = .ok (.aload_n 0, 1) := by decide +kernel
theorem dX10_ring_227 : decode cX10_ring 227 = .ok (.bipush 6, 2) := by decide +kernel
theorem dX10_ring_229 : decode cX10_ring 229 = .ok (.invokevirtual 194, 3) := by decide +kernel
theorem dX10_ring_232 : decode cX10_ring 232 = .ok (.ireturn, 1) := by decide +kernel
theorem dX10_settles_0 : decode cX10_settles 0 = .ok (.iconst 0, 1) := by decide +kernel
theorem dX10_settles_1 : decode cX10_settles 1 = .ok (.istore_n 1, 1) := by decide +kernel
theorem dX10_settles_2 : decode cX10_settles 2 = .ok (.iload_n 1, 1) := by decide +kernel
theorem dX10_settles_3 : decode cX10_settles 3 = .ok (.aload_n 0, 1) := by decide +kernel
theorem dX10_settles_4 : decode cX10_settles 4 = .ok (.getfield 7, 3) := by decide +kernel
theorem dX10_settles_7 : decode cX10_settles 7 = .ok (.iconst 2, 1) := by decide +kernel
theorem dX10_settles_8 : decode cX10_settles 8 = .ok (.iaload, 1) := by decide +kernel
theorem dX10_settles_9 : decode cX10_settles 9 = .ok (.if_icmp .ge 78, 3) := by decide +kernel
theorem dX10_settles_12 : decode cX10_settles 12 = .ok (.iload_n 1, 1) := by decide +kernel
theorem dX10_settles_13 : decode cX10_settles 13 = .ok (.iconst 1, 1) := by decide +kernel
theorem dX10_settles_14 : decode cX10_settles 14 = .ok (.iadd, 1) := by decide +kernel
theorem dX10_settles_15 : decode cX10_settles 15 = .ok (.istore_n 2, 1) := by decide +kernel
theorem dX10_settles_16 : decode cX10_settles 16 = .ok (.iload_n 2, 1) := by decide +kernel
theorem dX10_settles_17 : decode cX10_settles 17 = .ok (.aload_n 0, 1) := by decide +kernel
theorem dX10_settles_18 : decode cX10_settles 18 = .ok (.getfield 7, 3) := by decide +kernel
theorem dX10_settles_21 : decode cX10_settles 21 = .ok (.iconst 2, 1) := by decide +kernel
theorem dX10_settles_22 : decode cX10_settles 22 = .ok (.iaload, 1) := by decide +kernel
theorem dX10_settles_23 : decode cX10_settles 23 = .ok (.if_icmp .ge 58, 3) := by decide +kernel
theorem dX10_settles_26 : decode cX10_settles 26 = .ok (.aload_n 0, 1) := by decide +kernel
theorem dX10_settles_27 : decode cX10_settles 27 = .ok (.iload_n 1, 1) := by decide +kernel
theorem dX10_settles_28 : decode cX10_settles 28 = .ok (.iload_n 2, 1) := by decide +kernel
theorem dX10_settles_29 : decode cX10_settles 29 = .ok (.iconst 0, 1) := by decide +kernel
theorem dX10_settles_30 : decode cX10_settles 30 = .ok (.invokevirtual 324, 3) := by decide +kernel
theorem dX10_settles_33 : decode cX10_settles 33 = .ok (.ifCond .ne 6, 3) := by decide +kernel
theorem dX10_settles_36 : decode cX10_settles 36 = .ok (.goto 39, 3) := by decide +kernel
theorem dX10_settles_39 : decode cX10_settles 39 = .ok (.aload_n 0, 1) := by decide +kernel
theorem dX10_settles_40 : decode cX10_settles 40 = .ok (.getfield 7, 3) := by decide +kernel
theorem dX10_settles_43 : decode cX10_settles 43 = .ok (.bipush 8, 2) := by decide +kernel
theorem dX10_settles_45 : decode cX10_settles 45 = .ok (.iconst 5, 1) := by decide +kernel
theorem dX10_settles_46 : decode cX10_settles 46 = .ok (.aload_n 0, 1) := by decide +kernel
theorem dX10_settles_47 : decode cX10_settles 47 = .ok (.getfield 315, 3) := by decide +kernel
theorem dX10_settles_50 : decode cX10_settles 50 = .ok (.imul, 1) := by decide +kernel
theorem dX10_settles_51 : decode cX10_settles 51 = .ok (.iadd, 1) := by decide +kernel
theorem dX10_settles_52 : decode cX10_settles 52 = .ok (.iconst 4, 1) := by decide +kernel
theorem dX10_settles_53 : decode cX10_settles 53 = .ok (.iadd, 1) := by decide +kernel
theorem dX10_settles_54 : decode cX10_settles 54 = .ok (.iload_n 2, 1) := by decide +kernel
theorem dX10_settles_55 : decode cX10_settles 55 = .ok (.iastore, 1) := by decide +kernel
theorem dX10_settles_56 : decode cX10_settles 56 = .ok (.aload_n 0, 1) := by decide +kernel
theorem dX10_settles_57 : decode cX10_settles 57 = .ok (.getfield 7, 3) := by decide +kernel
theorem dX10_settles_60 : decode cX10_settles 60 = .ok (.bipush 8, 2) := by decide +kernel
theorem dX10_settles_62 : decode cX10_settles 62 = .ok (.iconst 5, 1) := by decide +kernel
theorem dX10_settles_63 : decode cX10_settles 63 = .ok (.aload_n 0, 1) := by decide +kernel
theorem dX10_settles_64 : decode cX10_settles 64 = .ok (.getfield 318, 3) := by decide +kernel
theorem dX10_settles_67 : decode cX10_settles 67 = .ok (.imul, 1) := by decide +kernel
theorem dX10_settles_68 : decode cX10_settles 68 = .ok (.iadd, 1) := by decide +kernel
theorem dX10_settles_69 : decode cX10_settles 69 = .ok (.iconst 4, 1) := by decide +kernel
theorem dX10_settles_70 : decode cX10_settles 70 = .ok (.iadd, 1) := by decide +kernel
theorem dX10_settles_71 : decode cX10_settles 71 = .ok (.iload_n 1, 1) := by decide +kernel
theorem dX10_settles_72 : decode cX10_settles 72 = .ok (.iastore, 1) := by decide +kernel
theorem dX10_settles_73 : decode cX10_settles 73 = .ok (.iconst 1, 1) := by decide +kernel
theorem dX10_settles_74 : decode cX10_settles 74 = .ok (.ireturn, 1) := by decide +kernel
theorem dX10_settles_75 : decode cX10_settles 75 = .ok (.iinc 2 1, 3) := by decide +kernel
theorem dX10_settles_78 : decode cX10_settles 78 = .ok (.goto (-62), 3) := by decide +kernel
theorem dX10_settles_81 : decode cX10_settles 81 = .ok (.iinc 1 1, 3) := by decide +kernel
theorem dX10_settles_84 : decode cX10_settles 84 = .ok (.goto (-82), 3) := by decide +kernel
theorem dX10_settles_87 : decode cX10_settles 87 = .ok (.iconst 0, 1) := by decide +kernel
theorem dX10_settles_88 : decode cX10_settles 88 = .ok (.ireturn, 1) := by decide +kernel
theorem dX10_settle_0 : decode cX10_settle 0 = .ok (.iconst 0, 1) := by decide +kernel
theorem dX10_settle_1 : decode cX10_settle 1 = .ok (.istore_n 1, 1) := by decide +kernel
theorem dX10_settle_2 : decode cX10_settle 2 = .ok (.iload_n 1, 1) := by decide +kernel
theorem dX10_settle_3 : decode cX10_settle 3 = .ok (.bipush 100, 2) := by decide +kernel
theorem dX10_settle_5 : decode cX10_settle 5 = .ok (.if_icmp .ge 16, 3) := by decide +kernel
theorem dX10_settle_8 : decode cX10_settle 8 = .ok (.aload_n 0, 1) := by decide +kernel
theorem dX10_settle_9 : decode cX10_settle 9 = .ok (.invokevirtual 328, 3) := by decide +kernel
theorem dX10_settle_12 : decode cX10_settle 12 = .ok (.ifCond .eq 9, 3) := by decide +kernel
theorem dX10_settle_15 : decode cX10_settle 15 = .ok (.iinc 1 1, 3) := by decide +kernel
theorem dX10_settle_18 : decode cX10_settle 18 = .ok (.goto (-16), 3) := by decide +kernel
theorem dX10_settle_21 : decode cX10_settle 21 = .ok (.aload_n 0, 1) := by decide +kernel
theorem dX10_settle_22 : decode cX10_settle 22 = .ok (.iload_n 1, 1) := by decide +kernel
theorem dX10_settle_23 : decode cX10_settle 23 = .ok (.invokevirtual 204, 3) := by decide +kernel
theorem dX10_settle_26 : decode cX10_settle 26 = .ok (.ireturn, 1) := by decide +kernel
theorem dX10_fills_0 : decode cX10_fills 0 = .ok (.iconst 0, 1) := by decide +kernel
theorem dX10_fills_1 : decode cX10_fills 1 = .ok (.istore_n 2, 1) := by decide +kernel
theorem dX10_fills_2 : decode cX10_fills 2 = .ok (.iload_n 2, 1) := by decide +kernel
theorem dX10_fills_3 : decode cX10_fills 3 = .ok (.aload_n 0, 1) := by decide +kernel
theorem dX10_fills_4 : decode cX10_fills 4 = .ok (.getfield 7, 3) := by decide +kernel
theorem dX10_fills_7 : decode cX10_fills 7 = .ok (.iconst 2, 1) := by decide +kernel
theorem dX10_fills_8 : decode cX10_fills 8 = .ok (.iaload, 1) := by decide +kernel
theorem dX10_fills_9 : decode cX10_fills 9 = .ok (.if_icmp .ge 87, 3) := by decide +kernel
theorem dX10_fills_12 : decode cX10_fills 12 = .ok (.iconst 0, 1) := by decide +kernel
theorem dX10_fills_13 : decode cX10_fills 13 = .ok (.istore_n 3, 1) := by decide +kernel
theorem dX10_fills_14 : decode cX10_fills 14 = .ok (.iload_n 3, 1) := by decide +kernel
theorem dX10_fills_15 : decode cX10_fills 15 = .ok (.iconst 1, 1) := by decide +kernel
theorem dX10_fills_16 : decode cX10_fills 16 = .ok (.iload_n 1, 1) := by decide +kernel
theorem dX10_fills_17 : decode cX10_fills 17 = .ok (.ishl, 1) := by decide +kernel
theorem dX10_fills_18 : decode cX10_fills 18 = .ok (.if_icmp .ge 72, 3) := by decide +kernel
theorem dX10_fills_21 : decode cX10_fills 21 = .ok (.aload_n 0, 1) := by decide +kernel
theorem dX10_fills_22 : decode cX10_fills 22 = .ok (.iload_n 2, 1) := by decide +kernel
theorem dX10_fills_23 : decode cX10_fills 23 = .ok (.iload_n 3, 1) := by decide +kernel
theorem dX10_fills_24 : decode cX10_fills 24 = .ok (.invokevirtual 257, 3) := by decide +kernel
theorem dX10_fills_27 : decode cX10_fills 27 = .ok (.iconst 0, 1) := by decide +kernel
theorem dX10_fills_28 : decode cX10_fills 28 = .ok (.istore 4, 2) := by decide +kernel
theorem dX10_fills_30 : decode cX10_fills 30 = .ok (.iload 4, 2) := by decide +kernel
theorem dX10_fills_32 : decode cX10_fills 32 = .ok (.aload_n 0, 1) := by decide +kernel
theorem dX10_fills_33 : decode cX10_fills 33 = .ok (.invokevirtual 260, 3) := by decide +kernel
theorem dX10_fills_36 : decode cX10_fills 36 = .ok (.if_icmp .ge 48, 3) := by decide +kernel
theorem dX10_fills_39 : decode cX10_fills 39 = .ok (.aload_n 0, 1) := by decide +kernel
theorem dX10_fills_40 : decode cX10_fills 40 = .ok (.getfield 60, 3) := by decide +kernel
theorem dX10_fills_43 : decode cX10_fills 43 = .ok (.sipush 256, 3) := by decide +kernel
theorem dX10_fills_46 : decode cX10_fills 46 = .ok (.iload_n 2, 1) := by decide +kernel
theorem dX10_fills_47 : decode cX10_fills 47 = .ok (.imul, 1) := by decide +kernel
theorem dX10_fills_48 : decode cX10_fills 48 = .ok (.iload_n 3, 1) := by decide +kernel
theorem dX10_fills_49 : decode cX10_fills 49 = .ok (.iadd, 1) := by decide +kernel
theorem dX10_fills_50 : decode cX10_fills 50 = .ok (.bipush 64, 2) := by decide +kernel
theorem dX10_fills_52 : decode cX10_fills 52 = .ok (.imul, 1) := by decide +kernel
theorem dX10_fills_53 : decode cX10_fills 53 = .ok (.iload 4, 2) := by decide +kernel
theorem dX10_fills_55 : decode cX10_fills 55 = .ok (.iadd, 1) := by decide +kernel
theorem dX10_fills_56 : decode cX10_fills 56 = .ok (.aload_n 0, 1) := by decide +kernel
theorem dX10_fills_57 : decode cX10_fills 57 = .ok (.iload_n 3, 1) := by decide +kernel
theorem dX10_fills_58 : decode cX10_fills 58 = .ok (.iload 4, 2) := by decide +kernel
theorem dX10_fills_60 : decode cX10_fills 60 = .ok (.invokevirtual 267, 3) := by decide +kernel
theorem dX10_fills_63 : decode cX10_fills 63 = .ok (.aload_n 0, 1) := by decide +kernel
theorem dX10_fills_64 : decode cX10_fills 64 = .ok (.iload_n 2, 1) := by decide +kernel
theorem dX10_fills_65 : decode cX10_fills 65 = .ok (.iconst 2, 1) := by decide +kernel
theorem dX10_fills_66 : decode cX10_fills 66 = .ok (.invokevirtual 226, 3) := by decide +kernel
theorem dX10_fills_69 : decode cX10_fills 69 = .ok (.if_icmp .ge 7, 3) := by decide +kernel
theorem dX10_fills_72 : decode cX10_fills 72 = .ok (.iconst 1, 1) := by decide +kernel
theorem dX10_fills_73 : decode cX10_fills 73 = .ok (.goto 4, 3) := by decide +kernel
theorem dX10_fills_76 : decode cX10_fills 76 = .ok (.iconst 0, 1) := by decide +kernel
theorem dX10_fills_77 : decode cX10_fills 77 = .ok (.bastore, 1) := by decide +kernel
theorem dX10_fills_78 : decode cX10_fills 78 = .ok (.iinc 4 1, 3) := by decide +kernel
theorem dX10_fills_81 : decode cX10_fills 81 = .ok (.goto (-51), 3) := by decide +kernel
theorem dX10_fills_84 : decode cX10_fills 84 = .ok (.iinc 3 1, 3) := by decide +kernel
theorem dX10_fills_87 : decode cX10_fills 87 = .ok (.goto (-73), 3) := by decide +kernel
theorem dX10_fills_90 : decode cX10_fills 90 = .ok (.iinc 2 1, 3) := by decide +kernel
theorem dX10_fills_93 : decode cX10_fills 93 = .ok (.goto (-91), 3) := by decide +kernel
theorem dX10_fills_96 : decode cX10_fills 96 = .ok (.return_, 1) := by decide +kernel
theorem dX10_hungers_0 : decode cX10_hungers 0 = .ok (.lconst 0, 1) := by decide +kernel
theorem dX10_hungers_1 : decode cX10_hungers 1 = .ok (.lstore_n 2, 1) := by decide +kernel
theorem dX10_hungers_2 : decode cX10_hungers 2 = .ok (.lconst 0, 1) := by decide +kernel
theorem dX10_hungers_3 : decode cX10_hungers 3 = .ok (.lstore 4, 2) := by decide +kernel
theorem dX10_hungers_5 : decode cX10_hungers 5 = .ok (.iconst 0, 1) := by decide +kernel
theorem dX10_hungers_6 : decode cX10_hungers 6 = .ok (.istore 6, 2) := by decide +kernel
theorem dX10_hungers_8 : decode cX10_hungers 8 = .ok (.iload 6, 2) := by decide +kernel
theorem dX10_hungers_10 : decode cX10_hungers 10 = .ok (.aload_n 0, 1) := by decide +kernel
theorem dX10_hungers_11 : decode cX10_hungers 11 = .ok (.invokevirtual 260, 3) := by decide +kernel
theorem dX10_hungers_14 : decode cX10_hungers 14 = .ok (.if_icmp .ge 109, 3) := by decide +kernel
theorem dX10_hungers_17 : decode cX10_hungers 17 = .ok (.aload_n 0, 1) := by decide +kernel
theorem dX10_hungers_18 : decode cX10_hungers 18 = .ok (.iload 6, 2) := by decide +kernel
theorem dX10_hungers_20 : decode cX10_hungers 20 = .ok (.invokevirtual 263, 3) := by decide +kernel
theorem dX10_hungers_23 : decode cX10_hungers 23 = .ok (.lstore 7, 2) := by decide +kernel
theorem dX10_hungers_25 : decode cX10_hungers 25 = .ok (.iconst 0, 1) := by decide +kernel
theorem dX10_hungers_26 : decode cX10_hungers 26 = .ok (.istore 9, 2) := by decide +kernel
theorem dX10_hungers_28 : decode cX10_hungers 28 = .ok (.iconst 0, 1) := by decide +kernel
theorem dX10_hungers_29 : decode cX10_hungers 29 = .ok (.istore 10, 2) := by decide +kernel
theorem dX10_hungers_31 : decode cX10_hungers 31 = .ok (.iload 10, 2) := by decide +kernel
theorem dX10_hungers_33 : decode cX10_hungers 33 = .ok (.aload_n 0, 1) := by decide +kernel
theorem dX10_hungers_34 : decode cX10_hungers 34 = .ok (.getfield 7, 3) := by decide +kernel
theorem dX10_hungers_37 : decode cX10_hungers 37 = .ok (.iconst 2, 1) := by decide +kernel
theorem dX10_hungers_38 : decode cX10_hungers 38 = .ok (.iaload, 1) := by decide +kernel
theorem dX10_hungers_39 : decode cX10_hungers 39 = .ok (.if_icmp .ge 47, 3) := by decide +kernel
theorem dX10_hungers_42 : decode cX10_hungers 42 = .ok (.iload 9, 2) := by decide +kernel
theorem dX10_hungers_44 : decode cX10_hungers 44 = .ok (.aload_n 0, 1) := by decide +kernel
theorem dX10_hungers_45 : decode cX10_hungers 45 = .ok (.getfield 60, 3) := by decide +kernel
theorem dX10_hungers_48 : decode cX10_hungers 48 = .ok (.sipush 256, 3) := by decide +kernel
theorem dX10_hungers_51 : decode cX10_hungers 51 = .ok (.iload 10, 2) := by decide +kernel
theorem dX10_hungers_53 : decode cX10_hungers 53 = .ok (.imul, 1) := by decide +kernel
theorem dX10_hungers_54 : decode cX10_hungers 54 = .ok (.aload_n 0, 1) := by decide +kernel
theorem dX10_hungers_55 : decode cX10_hungers 55 = .ok (.getfield 70, 3) := by decide +kernel
theorem dX10_hungers_58 : decode cX10_hungers 58 = .ok (.iload 10, 2) := by decide +kernel
theorem dX10_hungers_60 : decode cX10_hungers 60 = .ok (.iaload, 1) := by decide +kernel
theorem dX10_hungers_61 : decode cX10_hungers 61 = .ok (.iadd, 1) := by decide +kernel
theorem dX10_hungers_62 : decode cX10_hungers 62 = .ok (.bipush 64, 2) := by decide +kernel
theorem dX10_hungers_64 : decode cX10_hungers 64 = .ok (.imul, 1) := by decide +kernel
theorem dX10_hungers_65 : decode cX10_hungers 65 = .ok (.iload 6, 2) := by decide +kernel
theorem dX10_hungers_67 : decode cX10_hungers 67 = .ok (.iadd, 1) := by decide +kernel
theorem dX10_hungers_68 : decode cX10_hungers 68 = .ok (.baload, 1) := by decide +kernel
theorem dX10_hungers_69 : decode cX10_hungers 69 = .ok (.ifCond .eq 7, 3) := by decide +kernel
theorem dX10_hungers_72 : decode cX10_hungers 72 = .ok (.iconst 1, 1) := by decide +kernel
theorem dX10_hungers_73 : decode cX10_hungers 73 = .ok (.goto 4, 3) := by decide +kernel
theorem dX10_hungers_76 : decode cX10_hungers 76 = .ok (.iconst 0, 1) := by decide +kernel
theorem dX10_hungers_77 : decode cX10_hungers 77 = .ok (.iadd, 1) := by decide +kernel
theorem dX10_hungers_78 : decode cX10_hungers 78 = .ok (.istore 9, 2) := by decide +kernel
theorem dX10_hungers_80 : decode cX10_hungers 80 = .ok (.iinc 10 1, 3) := by decide +kernel
theorem dX10_hungers_83 : decode cX10_hungers 83 = .ok (.goto (-52), 3) := by decide +kernel
theorem dX10_hungers_86 : decode cX10_hungers 86 = .ok (.lload_n 2, 1) := by decide +kernel
theorem dX10_hungers_87 : decode cX10_hungers 87 = .ok (.lload 7, 2) := by decide +kernel
theorem dX10_hungers_89 : decode cX10_hungers 89 = .ok (.iload 9, 2) := by decide +kernel
theorem dX10_hungers_91 : decode cX10_hungers 91 = .ok (.i2l, 1) := by decide +kernel
theorem dX10_hungers_92 : decode cX10_hungers 92 = .ok (.lmul, 1) := by decide +kernel
theorem dX10_hungers_93 : decode cX10_hungers 93 = .ok (.ladd, 1) := by decide +kernel
theorem dX10_hungers_94 : decode cX10_hungers 94 = .ok (.lstore_n 2, 1) := by decide +kernel
theorem dX10_hungers_95 : decode cX10_hungers 95 = .ok (.lload 7, 2) := by decide +kernel
theorem dX10_hungers_97 : decode cX10_hungers 97 = .ok (.lconst 0, 1) := by decide +kernel
theorem dX10_hungers_98 : decode cX10_hungers 98 = .ok (.lcmp, 1) := by decide +kernel
theorem dX10_hungers_99 : decode cX10_hungers 99 = .ok (.ifCond .le 14, 3) := by decide +kernel
theorem dX10_hungers_102 : decode cX10_hungers 102 = .ok (.lload 4, 2) := by decide +kernel
theorem dX10_hungers_104 : decode cX10_hungers 104 = .ok (.iload 9, 2) := by decide +kernel
theorem dX10_hungers_106 : decode cX10_hungers 106 = .ok (.i2l, 1) := by decide +kernel
theorem dX10_hungers_107 : decode cX10_hungers 107 = .ok (.invokestatic 331, 3) := by decide +kernel
theorem dX10_hungers_110 : decode cX10_hungers 110 = .ok (.goto 5, 3) := by decide +kernel
theorem dX10_hungers_113 : decode cX10_hungers 113 = .ok (.lload 4, 2) := by decide +kernel
theorem dX10_hungers_115 : decode cX10_hungers 115 = .ok (.lstore 4, 2) := by decide +kernel
theorem dX10_hungers_117 : decode cX10_hungers 117 = .ok (.iinc 6 1, 3) := by decide +kernel
theorem dX10_hungers_120 : decode cX10_hungers 120 = .ok (.goto (-112), 3) := by decide +kernel
theorem dX10_hungers_123 : decode cX10_hungers 123 = .ok (.iload_n 1, 1) := by decide +kernel
theorem dX10_hungers_124 : decode cX10_hungers 124 = .ok (.ifCond .ne 7, 3) := by decide +kernel
theorem dX10_hungers_127 : decode cX10_hungers 127 = .ok (.lload_n 2, 1) := by decide +kernel
theorem dX10_hungers_128 : decode cX10_hungers 128 = .ok (.goto 5, 3) := by decide +kernel
theorem dX10_hungers_131 : decode cX10_hungers 131 = .ok (.lload 4, 2) := by decide +kernel
theorem dX10_hungers_133 : decode cX10_hungers 133 = .ok (.lreturn, 1) := by decide +kernel
theorem dX10_give_0 : decode cX10_give 0 = .ok (.iload_n 1, 1) := by decide +kernel
theorem dX10_give_1 : decode cX10_give 1 = .ok (.ifCond .lt 8, 3) := by decide +kernel
theorem dX10_give_4 : decode cX10_give 4 = .ok (.iload_n 1, 1) := by decide +kernel
theorem dX10_give_5 : decode cX10_give 5 = .ok (.iconst 1, 1) := by decide +kernel
theorem dX10_give_6 : decode cX10_give 6 = .ok (.if_icmp .le 9, 3) := by decide +kernel
theorem dX10_give_9 : decode cX10_give 9 = .ok (.aload_n 0, 1) := by decide +kernel
theorem dX10_give_10 : decode cX10_give 10 = .ok (.iconst 1, 1) := by decide +kernel
theorem dX10_give_11 : decode cX10_give 11 = .ok (.invokevirtual 88, 3) := by decide +kernel
theorem dX10_give_14 : decode cX10_give 14 = .ok (.ireturn, 1) := by decide +kernel
theorem dX10_give_15 : decode cX10_give 15 = .ok (.aload_n 0, 1) := by decide +kernel
theorem dX10_give_16 : decode cX10_give 16 = .ok (.getfield 7, 3) := by decide +kernel
theorem dX10_give_19 : decode cX10_give 19 = .ok (.iconst 0, 1) := by decide +kernel
theorem dX10_give_20 : decode cX10_give 20 = .ok (.iaload, 1) := by decide +kernel
theorem dX10_give_21 : decode cX10_give 21 = .ok (.istore_n 2, 1) := by decide +kernel
theorem dX10_give_22 : decode cX10_give 22 = .ok (.aload_n 0, 1) := by decide +kernel
theorem dX10_give_23 : decode cX10_give 23 = .ok (.getfield 7, 3) := by decide +kernel
theorem dX10_give_26 : decode cX10_give 26 = .ok (.iconst 2, 1) := by decide +kernel
theorem dX10_give_27 : decode cX10_give 27 = .ok (.iaload, 1) := by decide +kernel
theorem dX10_give_28 : decode cX10_give 28 = .ok (.istore_n 3, 1) := by decide +kernel
theorem dX10_give_29 : decode cX10_give 29 = .ok (.iload_n 2, 1) := by decide +kernel
theorem dX10_give_30 : decode cX10_give 30 = .ok (.bipush 8, 2) := by decide +kernel
theorem dX10_give_32 : decode cX10_give 32 = .ok (.if_icmp .gt 8, 3) := by decide +kernel
theorem dX10_give_35 : decode cX10_give 35 = .ok (.iload_n 3, 1) := by decide +kernel
theorem dX10_give_36 : decode cX10_give 36 = .ok (.iconst 3, 1) := by decide +kernel
theorem dX10_give_37 : decode cX10_give 37 = .ok (.if_icmp .le 9, 3) := by decide +kernel
theorem dX10_give_40 : decode cX10_give 40 = .ok (.aload_n 0, 1) := by decide +kernel
theorem dX10_give_41 : decode cX10_give 41 = .ok (.iconst 4, 1) := by decide +kernel
theorem dX10_give_42 : decode cX10_give 42 = .ok (.invokevirtual 88, 3) := by decide +kernel
theorem dX10_give_45 : decode cX10_give 45 = .ok (.ireturn, 1) := by decide +kernel
theorem dX10_give_46 : decode cX10_give 46 = .ok (.iload_n 3, 1) := by decide +kernel
theorem dX10_give_47 : decode cX10_give 47 = .ok (.ifCond .ne 10, 3) := by decide +kernel
theorem dX10_give_50 : decode cX10_give 50 = .ok (.aload_n 0, 1) := by decide +kernel
theorem dX10_give_51 : decode cX10_give 51 = .ok (.bipush 6, 2) := by decide +kernel
theorem dX10_give_53 : decode cX10_give 53 = .ok (.invokevirtual 88, 3) := by decide +kernel
theorem dX10_give_56 : decode cX10_give 56 = .ok (.ireturn, 1) := by decide +kernel
theorem dX10_give_57 : decode cX10_give 57 = .ok (.aload_n 0, 1) := by decide +kernel
theorem dX10_give_58 : decode cX10_give 58 = .ok (.iload_n 2, 1) := by decide +kernel
theorem dX10_give_59 : decode cX10_give 59 = .ok (.invokevirtual 334, 3) := by decide +kernel
theorem dX10_give_62 : decode cX10_give 62 = .ok (.iconst 1, 1) := by decide +kernel
theorem dX10_give_63 : decode cX10_give 63 = .ok (.istore 4, 2) := by decide +kernel
theorem dX10_give_65 : decode cX10_give 65 = .ok (.iconst 0, 1) := by decide +kernel
theorem dX10_give_66 : decode cX10_give 66 = .ok (.istore 5, 2) := by decide +kernel
theorem dX10_give_68 : decode cX10_give 68 = .ok (.iload 5, 2) := by decide +kernel
theorem dX10_give_70 : decode cX10_give 70 = .ok (.iload_n 2, 1) := by decide +kernel
theorem dX10_give_71 : decode cX10_give 71 = .ok (.if_icmp .ge 15, 3) := by decide +kernel
theorem dX10_give_74 : decode cX10_give 74 = .ok (.iload 4, 2) := by decide +kernel
theorem dX10_give_76 : decode cX10_give 76 = .ok (.iload_n 3, 1) := by decide +kernel
theorem dX10_give_77 : decode cX10_give 77 = .ok (.imul, 1) := by decide +kernel
theorem dX10_give_78 : decode cX10_give 78 = .ok (.istore 4, 2) := by decide +kernel
theorem dX10_give_80 : decode cX10_give 80 = .ok (.iinc 5 1, 3) := by decide +kernel
theorem dX10_give_83 : decode cX10_give 83 = .ok (.goto (-15), 3) := by decide +kernel
theorem dX10_give_86 : decode cX10_give 86 = .ok (.ldc2_w 103, 3) := by decide +kernel
theorem dX10_give_89 : decode cX10_give 89 = .ok (.lstore 5, 2) := by decide +kernel
theorem dX10_give_91 : decode cX10_give 91 = .ok (.iconst 0, 1) := by decide +kernel
theorem dX10_give_92 : decode cX10_give 92 = .ok (.istore 7, 2) := by decide +kernel
theorem dX10_give_94 : decode cX10_give 94 = .ok (.iload 7, 2) := by decide +kernel
theorem dX10_give_96 : decode cX10_give 96 = .ok (.iload 4, 2) := by decide +kernel
theorem dX10_give_98 : decode cX10_give 98 = .ok (.if_icmp .ge 148, 3) := by decide +kernel
theorem dX10_give_101 : decode cX10_give 101 = .ok (.iload 7, 2) := by decide +kernel
theorem dX10_give_103 : decode cX10_give 103 = .ok (.istore 8, 2) := by decide +kernel
theorem dX10_give_105 : decode cX10_give 105 = .ok (.iconst 0, 1) := by decide +kernel
theorem dX10_give_106 : decode cX10_give 106 = .ok (.istore 9, 2) := by decide +kernel
theorem dX10_give_108 : decode cX10_give 108 = .ok (.iload 9, 2) := by decide +kernel
theorem dX10_give_110 : decode cX10_give 110 = .ok (.iload_n 3, 1) := by decide +kernel
theorem dX10_give_111 : decode cX10_give 111 = .ok (.if_icmp .ge 17, 3) := by decide +kernel
theorem dX10_give_114 : decode cX10_give 114 = .ok (.aload_n 0, 1) := by decide +kernel
theorem dX10_give_115 : decode cX10_give 115 = .ok (.getfield 70, 3) := by decide +kernel
theorem dX10_give_118 : decode cX10_give 118 = .ok (.iload 9, 2) := by decide +kernel
theorem dX10_give_120 : decode cX10_give 120 = .ok (.iconst 0, 1) := by decide +kernel
theorem dX10_give_121 : decode cX10_give 121 = .ok (.iastore, 1) := by decide +kernel
theorem dX10_give_122 : decode cX10_give 122 = .ok (.iinc 9 1, 3) := by decide +kernel
theorem dX10_give_125 : decode cX10_give 125 = .ok (.goto (-17), 3) := by decide +kernel
theorem dX10_give_128 : decode cX10_give 128 = .ok (.iload_n 2, 1) := by decide +kernel
theorem dX10_give_129 : decode cX10_give 129 = .ok (.iconst 1, 1) := by decide +kernel
theorem dX10_give_130 : decode cX10_give 130 = .ok (.isub, 1) := by decide +kernel
theorem dX10_give_131 : decode cX10_give 131 = .ok (.istore 9, 2) := by decide +kernel
theorem dX10_give_133 : decode cX10_give 133 = .ok (.iload 9, 2) := by decide +kernel
theorem dX10_give_135 : decode cX10_give 135 = .ok (.ifCond .lt 45, 3) := by decide +kernel
theorem dX10_give_138 : decode cX10_give 138 = .ok (.aload_n 0, 1) := by decide +kernel
theorem dX10_give_139 : decode cX10_give 139 = .ok (.getfield 67, 3) := by decide +kernel
theorem dX10_give_142 : decode cX10_give 142 = .ok (.iload 9, 2) := by decide +kernel
theorem dX10_give_144 : decode cX10_give 144 = .ok (.iload 8, 2) := by decide +kernel
theorem dX10_give_146 : decode cX10_give 146 = .ok (.iload_n 3, 1) := by decide +kernel
theorem dX10_give_147 : decode cX10_give 147 = .ok (.irem, 1) := by decide +kernel
theorem dX10_give_148 : decode cX10_give 148 = .ok (.iastore, 1) := by decide +kernel
theorem dX10_give_149 : decode cX10_give 149 = .ok (.aload_n 0, 1) := by decide +kernel
theorem dX10_give_150 : decode cX10_give 150 = .ok (.getfield 70, 3) := by decide +kernel
theorem dX10_give_153 : decode cX10_give 153 = .ok (.aload_n 0, 1) := by decide +kernel
theorem dX10_give_154 : decode cX10_give 154 = .ok (.getfield 67, 3) := by decide +kernel
theorem dX10_give_157 : decode cX10_give 157 = .ok (.iload 9, 2) := by decide +kernel
theorem dX10_give_159 : decode cX10_give 159 = .ok (.iaload, 1) := by decide +kernel
theorem dX10_give_160 : decode cX10_give 160 = .ok (.dup2, 1) := by decide +kernel
theorem dX10_give_161 : decode cX10_give 161 = .ok (.iaload, 1) := by decide +kernel
theorem dX10_give_162 : decode cX10_give 162 = .ok (.iconst 1, 1) := by decide +kernel
theorem dX10_give_163 : decode cX10_give 163 = .ok (.iload 9, 2) := by decide +kernel
theorem dX10_give_165 : decode cX10_give 165 = .ok (.ishl, 1) := by decide +kernel
theorem dX10_give_166 : decode cX10_give 166 = .ok (.ior, 1) := by decide +kernel
theorem dX10_give_167 : decode cX10_give 167 = .ok (.iastore, 1) := by decide +kernel
theorem dX10_give_168 : decode cX10_give 168 = .ok (.iload 8, 2) := by decide +kernel
theorem dX10_give_170 : decode cX10_give 170 = .ok (.iload_n 3, 1) := by decide +kernel
theorem dX10_give_171 : decode cX10_give 171 = .ok (.idiv, 1) := by decide +kernel
theorem dX10_give_172 : decode cX10_give 172 = .ok (.istore 8, 2) := by decide +kernel
theorem dX10_give_174 : decode cX10_give 174 = .ok (.iinc 9 (-1), 3) := by decide +kernel
theorem dX10_give_177 : decode cX10_give 177 = .ok (.goto (-44), 3) := by decide +kernel
theorem dX10_give_180 : decode cX10_give 180 = .ok (.aload_n 0, 1) := by decide +kernel
theorem dX10_give_181 : decode cX10_give 181 = .ok (.iload_n 1, 1) := by decide +kernel
theorem dX10_give_182 : decode cX10_give 182 = .ok (.invokevirtual 337, 3) := by decide +kernel
theorem dX10_give_185 : decode cX10_give 185 = .ok (.lstore 9, 2) := by decide +kernel
theorem dX10_give_187 : decode cX10_give 187 = .ok (.lload 5, 2) := by decide +kernel
theorem dX10_give_189 : decode cX10_give 189 = .ok (.ldc2_w 103, 3) := by decide +kernel
theorem dX10_give_192 : decode cX10_give 192 = .ok (.lcmp, 1) := by decide +kernel
theorem dX10_give_193 : decode cX10_give 193 = .ok (.ifCond .eq 14, 3) := by decide +kernel
theorem dX10_give_196 : decode cX10_give 196 = .ok (.lload 9, 2) := by decide +kernel
theorem dX10_give_198 : decode cX10_give 198 = .ok (.lload 5, 2) := by decide +kernel
theorem dX10_give_200 : decode cX10_give 200 = .ok (.lcmp, 1) := by decide +kernel
theorem dX10_give_201 : decode cX10_give 201 = .ok (.ifCond .lt 6, 3) := by decide +kernel
theorem dX10_give_204 : decode cX10_give 204 = .ok (.goto 36, 3) := by decide +kernel
theorem dX10_give_207 : decode cX10_give 207 = .ok (.lload 9, 2) := by decide +kernel
theorem dX10_give_209 : decode cX10_give 209 = .ok (.lstore 5, 2) := by decide +kernel
theorem dX10_give_211 : decode cX10_give 211 = .ok (.iconst 0, 1) := by decide +kernel
theorem dX10_give_212 : decode cX10_give 212 = .ok (.istore 11, 2) := by decide +kernel
theorem dX10_give_214 : decode cX10_give 214 = .ok (.iload 11, 2) := by decide +kernel
theorem dX10_give_216 : decode cX10_give 216 = .ok (.iload_n 2, 1) := by decide +kernel
theorem dX10_give_217 : decode cX10_give 217 = .ok (.if_icmp .ge 23, 3) := by decide +kernel
theorem dX10_give_220 : decode cX10_give 220 = .ok (.aload_n 0, 1) := by decide +kernel
theorem dX10_give_221 : decode cX10_give 221 = .ok (.getfield 64, 3) := by decide +kernel
theorem dX10_give_224 : decode cX10_give 224 = .ok (.iload 11, 2) := by decide +kernel
theorem dX10_give_226 : decode cX10_give 226 = .ok (.aload_n 0, 1) := by decide +kernel
theorem dX10_give_227 : decode cX10_give 227 = .ok (.getfield 67, 3) := by decide +kernel
theorem dX10_give_230 : decode cX10_give 230 = .ok (.iload 11, 2) := by decide +kernel
theorem dX10_give_232 : decode cX10_give 232 = .ok (.iaload, 1) := by decide +kernel
theorem dX10_give_233 : decode cX10_give 233 = .ok (.iastore, 1) := by decide +kernel
theorem dX10_give_234 : decode cX10_give 234 = .ok (.iinc 11 1, 3) := by decide +kernel
theorem dX10_give_237 : decode cX10_give 237 = .ok (.goto (-23), 3) := by decide +kernel
theorem dX10_give_240 : decode cX10_give 240 = .ok (.iinc 7 1, 3) := by decide +kernel
theorem dX10_give_243 : decode cX10_give 243 = .ok (.goto (-149), 3) := by decide +kernel
theorem dX10_give_246 : decode cX10_give 246 = .ok (.aload_n 0, 1) := by decide +kernel
theorem dX10_give_247 : decode cX10_give 247 = .ok (.iload_n 2, 1) := by decide +kernel
theorem dX10_give_248 : decode cX10_give 248 = .ok (.putfield 73, 3) := by decide +kernel
theorem dX10_give_251 : decode cX10_give 251 = .ok (.aload_n 0, 1) := by decide +kernel
theorem dX10_give_252 : decode cX10_give 252 = .ok (.lload 5, 2) := by decide +kernel
theorem dX10_give_254 : decode cX10_give 254 = .ok (.iload_n 1, 1) := by decide +kernel
theorem dX10_give_255 : decode cX10_give 255 = .ok (.ifCond .ne 10, 3) := by decide +kernel
theorem dX10_give_258 : decode cX10_give 258 = .ok (.aload_n 0, 1) := by decide +kernel
theorem dX10_give_259 : decode cX10_give 259 = .ok (.invokevirtual 288, 3) := by decide +kernel
theorem dX10_give_262 : decode cX10_give 262 = .ok (.goto 4, 3) := by decide +kernel
theorem dX10_give_265 : decode cX10_give 265 = .ok (.lconst 1, 1) := by decide +kernel
theorem dX10_give_266 : decode cX10_give 266 = .ok (.invokevirtual 291, 3) := by decide +kernel
theorem dX10_give_269 : decode cX10_give 269 = .ok (.ireturn, 1) := by decide +kernel
theorem dX10_given_0 : decode cX10_given 0 = .ok (.aload_n 0, 1) := by decide +kernel
theorem dX10_given_1 : decode cX10_given 1 = .ok (.getfield 73, 3) := by decide +kernel
theorem dX10_given_4 : decode cX10_given 4 = .ok (.iconst (-1), 1) := by decide +kernel
theorem dX10_given_5 : decode cX10_given 5 = .ok (.if_icmp .ne 10, 3) := by decide +kernel
theorem dX10_given_8 : decode cX10_given 8 = .ok (.aload_n 0, 1) := by decide +kernel
theorem dX10_given_9 : decode cX10_given 9 = .ok (.bipush 6, 2) := by decide +kernel
theorem dX10_given_11 : decode cX10_given 11 = .ok (.invokevirtual 194, 3) := by decide +kernel
theorem dX10_given_14 : decode cX10_given 14 = .ok (.ireturn, 1) := by decide +kernel
theorem dX10_given_15 : decode cX10_given 15 = .ok (.iload_n 1, 1) := by decide +kernel
theorem dX10_given_16 : decode cX10_given 16 = .ok (.ifCond .lt 11, 3) := by decide +kernel
theorem dX10_given_19 : decode cX10_given 19 = .ok (.iload_n 1, 1) := by decide +kernel
theorem dX10_given_20 : decode cX10_given 20 = .ok (.aload_n 0, 1) := by decide +kernel
theorem dX10_given_21 : decode cX10_given 21 = .ok (.getfield 73, 3) := by decide +kernel
theorem dX10_given_24 : decode cX10_given 24 = .ok (.if_icmp .lt 11, 3) := by decide +kernel
theorem dX10_given_27 : decode cX10_given 27 = .ok (.aload_n 0, 1) := by decide +kernel
theorem dX10_given_28 : decode cX10_given 28 = .ok (.iconst 1, 1) := by decide +kernel
theorem dX10_given_29 : decode cX10_given 29 = .ok (.invokevirtual 194, 3) := by decide +kernel
theorem dX10_given_32 : decode cX10_given 32 = .ok (.goto 13, 3) := by decide +kernel
theorem dX10_given_35 : decode cX10_given 35 = .ok (.aload_n 0, 1) := by decide +kernel
theorem dX10_given_36 : decode cX10_given 36 = .ok (.aload_n 0, 1) := by decide +kernel
theorem dX10_given_37 : decode cX10_given 37 = .ok (.getfield 64, 3) := by decide +kernel
theorem dX10_given_40 : decode cX10_given 40 = .ok (.iload_n 1, 1) := by decide +kernel
theorem dX10_given_41 : decode cX10_given 41 = .ok (.iaload, 1) := by decide +kernel
theorem dX10_given_42 : decode cX10_given 42 = .ok (.invokevirtual 204, 3) := by decide +kernel
theorem dX10_given_45 : decode cX10_given 45 = .ok (.ireturn, 1) := by decide +kernel
theorem dX10_narrow_0 : decode cX10_narrow 0 = .ok (.aload_n 0, 1) := by decide +kernel
theorem dX10_narrow_1 : decode cX10_narrow 1 = .ok (.iload_n 1, 1) := by decide +kernel
theorem dX10_narrow_2 : decode cX10_narrow 2 = .ok (.invokevirtual 223, 3) := by decide +kernel
theorem dX10_narrow_5 : decode cX10_narrow 5 = .ok (.ifCond .eq 14, 3) := by decide +kernel
theorem dX10_narrow_8 : decode cX10_narrow 8 = .ok (.iload_n 2, 1) := by decide +kernel
theorem dX10_narrow_9 : decode cX10_narrow 9 = .ok (.iconst 1, 1) := by decide +kernel
theorem dX10_narrow_10 : decode cX10_narrow 10 = .ok (.if_icmp .lt 9, 3) := by decide +kernel
theorem dX10_narrow_13 : decode cX10_narrow 13 = .ok (.iload_n 2, 1) := by decide +kernel
theorem dX10_narrow_14 : decode cX10_narrow 14 = .ok (.bipush 16, 2) := by decide +kernel
theorem dX10_narrow_16 : decode cX10_narrow 16 = .ok (.if_icmp .le 9, 3) := by decide +kernel
theorem dX10_narrow_19 : decode cX10_narrow 19 = .ok (.aload_n 0, 1) := by decide +kernel
theorem dX10_narrow_20 : decode cX10_narrow 20 = .ok (.iconst 1, 1) := by decide +kernel
theorem dX10_narrow_21 : decode cX10_narrow 21 = .ok (.invokevirtual 194, 3) := by decide +kernel
theorem dX10_narrow_24 : decode cX10_narrow 24 = .ok (.ireturn, 1) := by decide +kernel
theorem dX10_narrow_25 : decode cX10_narrow 25 = .ok (.aload_n 0, 1) := by decide +kernel
theorem dX10_narrow_26 : decode cX10_narrow 26 = .ok (.iload_n 1, 1) := by decide +kernel
theorem dX10_narrow_27 : decode cX10_narrow 27 = .ok (.invokevirtual 229, 3) := by decide +kernel
theorem dX10_narrow_30 : decode cX10_narrow 30 = .ok (.istore_n 3, 1) := by decide +kernel
theorem dX10_narrow_31 : decode cX10_narrow 31 = .ok (.iconst (-1), 1) := by decide +kernel
theorem dX10_narrow_32 : decode cX10_narrow 32 = .ok (.istore 4, 2) := by decide +kernel
theorem dX10_narrow_34 : decode cX10_narrow 34 = .ok (.aload_n 0, 1) := by decide +kernel
theorem dX10_narrow_35 : decode cX10_narrow 35 = .ok (.iconst 0, 1) := by decide +kernel
theorem dX10_narrow_36 : decode cX10_narrow 36 = .ok (.putfield 234, 3) := by decide +kernel
theorem dX10_narrow_39 : decode cX10_narrow 39 = .ok (.aload_n 0, 1) := by decide +kernel
theorem dX10_narrow_40 : decode cX10_narrow 40 = .ok (.getfield 234, 3) := by decide +kernel
theorem dX10_narrow_43 : decode cX10_narrow 43 = .ok (.bipush 6, 2) := by decide +kernel
theorem dX10_narrow_45 : decode cX10_narrow 45 = .ok (.if_icmp .gt 57, 3) := by decide +kernel
theorem dX10_narrow_48 : decode cX10_narrow 48 = .ok (.iload 4, 2) := by decide +kernel
theorem dX10_narrow_50 : decode cX10_narrow 50 = .ok (.iconst (-1), 1) := by decide +kernel
theorem dX10_narrow_51 : decode cX10_narrow 51 = .ok (.if_icmp .ne 51, 3) := by decide +kernel
theorem dX10_narrow_54 : decode cX10_narrow 54 = .ok (.ldc2_w 232, 3) := by decide +kernel
theorem dX10_narrow_57 : decode cX10_narrow 57 = .ok (.aload_n 0, 1) := by decide +kernel
theorem dX10_narrow_58 : decode cX10_narrow 58 = .ok (.iload_n 1, 1) := by decide +kernel
theorem dX10_narrow_59 : decode cX10_narrow 59 = .ok (.iload_n 3, 1) := by decide +kernel
theorem dX10_narrow_60 : decode cX10_narrow 60 = .ok (.aload_n 0, 1) := by decide +kernel
theorem dX10_narrow_61 : decode cX10_narrow 61 = .ok (.iload_n 1, 1) := by decide +kernel
theorem dX10_narrow_62 : decode cX10_narrow 62 = .ok (.iconst 2, 1) := by decide +kernel
theorem dX10_narrow_63 : decode cX10_narrow 63 = .ok (.invokevirtual 226, 3) := by decide +kernel
theorem dX10_narrow_66 : decode cX10_narrow 66 = .ok (.iconst 1, 1) := by decide +kernel
theorem dX10_narrow_67 : decode cX10_narrow 67 = .ok (.isub, 1) := by decide +kernel
theorem dX10_narrow_68 : decode cX10_narrow 68 = .ok (.invokevirtual 284, 3) := by decide +kernel
theorem dX10_narrow_71 : decode cX10_narrow 71 = .ok (.lmul, 1) := by decide +kernel
theorem dX10_narrow_72 : decode cX10_narrow 72 = .ok (.iload_n 2, 1) := by decide +kernel
theorem dX10_narrow_73 : decode cX10_narrow 73 = .ok (.i2l, 1) := by decide +kernel
theorem dX10_narrow_74 : decode cX10_narrow 74 = .ok (.aload_n 0, 1) := by decide +kernel
theorem dX10_narrow_75 : decode cX10_narrow 75 = .ok (.invokevirtual 288, 3) := by decide +kernel
theorem dX10_narrow_78 : decode cX10_narrow 78 = .ok (.lmul, 1) := by decide +kernel
theorem dX10_narrow_79 : decode cX10_narrow 79 = .ok (.lcmp, 1) := by decide +kernel
theorem dX10_narrow_80 : decode cX10_narrow 80 = .ok (.ifCond .lt 9, 3) := by decide +kernel
theorem dX10_narrow_83 : decode cX10_narrow 83 = .ok (.aload_n 0, 1) := by decide +kernel
theorem dX10_narrow_84 : decode cX10_narrow 84 = .ok (.getfield 234, 3) := by decide +kernel
theorem dX10_narrow_87 : decode cX10_narrow 87 = .ok (.istore 4, 2) := by decide +kernel
theorem dX10_narrow_89 : decode cX10_narrow 89 = .ok (.aload_n 0, 1) := by decide +kernel
theorem dX10_narrow_90 : decode cX10_narrow 90 = .ok (.dup, 1) := by decide +kernel
theorem dX10_narrow_91 : decode cX10_narrow 91 = .ok (.getfield 234, 3) := by decide +kernel
theorem dX10_narrow_94 : decode cX10_narrow 94 = .ok (.iconst 1, 1) := by decide +kernel
theorem dX10_narrow_95 : decode cX10_narrow 95 = .ok (.iadd, 1) := by decide +kernel
theorem dX10_narrow_96 : decode cX10_narrow 96 = .ok (.putfield 234, 3) := by decide +kernel
theorem dX10_narrow_99 : decode cX10_narrow 99 = .ok (.goto (-60), 3) := by decide +kernel
theorem dX10_narrow_102 : decode cX10_narrow 102 = .ok (.aload_n 0, 1) := by decide +kernel
theorem dX10_narrow_103 : decode cX10_narrow 103 = .ok (.iconst 0, 1) := by decide +kernel
theorem dX10_narrow_104 : decode cX10_narrow 104 = .ok (.putfield 234, 3) := by decide +kernel
theorem dX10_narrow_107 : decode cX10_narrow 107 = .ok (.iload 4, 2) := by decide +kernel
theorem dX10_narrow_109 : decode cX10_narrow 109 = .ok (.iconst (-1), 1) := by decide +kernel
theorem dX10_narrow_110 : decode cX10_narrow 110 = .ok (.if_icmp .ne 12, 3) := by decide +kernel
theorem dX10_narrow_113 : decode cX10_narrow 113 = .ok (.aload_n 0, 1) := by decide +kernel
theorem dX10_narrow_114 : decode cX10_narrow 114 = .ok (.bipush 6, 2) := by decide +kernel
theorem dX10_narrow_116 : decode cX10_narrow 116 = .ok (.invokevirtual 194, 3) := by decide +kernel
theorem dX10_narrow_119 : decode cX10_narrow 119 = .ok (.goto 9, 3) := by decide +kernel
theorem dX10_narrow_122 : decode cX10_narrow 122 = .ok (.aload_n 0, 1) := by decide +kernel
theorem dX10_narrow_123 : decode cX10_narrow 123 = .ok (.iload 4, 2) := by decide +kernel
theorem dX10_narrow_125 : decode cX10_narrow 125 = .ok (.invokevirtual 204, 3) := by decide +kernel
theorem dX10_narrow_128 : decode cX10_narrow 128 = .ok (.ireturn, 1) := by decide +kernel
theorem dX10_laysRow_0 : decode cX10_laysRow 0 = .ok (.aload_n 0, 1) := by decide +kernel
theorem dX10_laysRow_1 : decode cX10_laysRow 1 = .ok (.iconst 0, 1) := by decide +kernel
theorem dX10_laysRow_2 : decode cX10_laysRow 2 = .ok (.putfield 340, 3) := by decide +kernel
theorem dX10_laysRow_5 : decode cX10_laysRow 5 = .ok (.iconst 0, 1) := by decide +kernel
theorem dX10_laysRow_6 : decode cX10_laysRow 6 = .ok (.istore_n 1, 1) := by decide +kernel
theorem dX10_laysRow_7 : decode cX10_laysRow 7 = .ok (.iload_n 1, 1) := by decide +kernel
theorem dX10_laysRow_8 : decode cX10_laysRow 8 = .ok (.aload_n 0, 1) := by decide +kernel
theorem dX10_laysRow_9 : decode cX10_laysRow 9 = .ok (.getfield 7, 3) := by decide +kernel
theorem dX10_laysRow_12 : decode cX10_laysRow 12 = .ok (.iconst 0, 1) := by decide +kernel
theorem dX10_laysRow_13 : decode cX10_laysRow 13 = .ok (.iaload, 1) := by decide +kernel
theorem dX10_laysRow_14 : decode cX10_laysRow 14 = .ok (.if_icmp .ge 42, 3) := by decide +kernel
theorem dX10_laysRow_17 : decode cX10_laysRow 17 = .ok (.aload_n 0, 1) := by decide +kernel
theorem dX10_laysRow_18 : decode cX10_laysRow 18 = .ok (.iload_n 1, 1) := by decide +kernel
theorem dX10_laysRow_19 : decode cX10_laysRow 19 = .ok (.iconst 4, 1) := by decide +kernel
theorem dX10_laysRow_20 : decode cX10_laysRow 20 = .ok (.invokevirtual 210, 3) := by decide +kernel
theorem dX10_laysRow_23 : decode cX10_laysRow 23 = .ok (.iconst (-1), 1) := by decide +kernel
theorem dX10_laysRow_24 : decode cX10_laysRow 24 = .ok (.if_icmp .ne 6, 3) := by decide +kernel
theorem dX10_laysRow_27 : decode cX10_laysRow 27 = .ok (.goto 23, 3) := by decide +kernel
theorem dX10_laysRow_30 : decode cX10_laysRow 30 = .ok (.aload_n 0, 1) := by decide +kernel
theorem dX10_laysRow_31 : decode cX10_laysRow 31 = .ok (.getfield 76, 3) := by decide +kernel
theorem dX10_laysRow_34 : decode cX10_laysRow 34 = .ok (.aload_n 0, 1) := by decide +kernel
theorem dX10_laysRow_35 : decode cX10_laysRow 35 = .ok (.getfield 340, 3) := by decide +kernel
theorem dX10_laysRow_38 : decode cX10_laysRow 38 = .ok (.iload_n 1, 1) := by decide +kernel
theorem dX10_laysRow_39 : decode cX10_laysRow 39 = .ok (.iastore, 1) := by decide +kernel
theorem dX10_laysRow_40 : decode cX10_laysRow 40 = .ok (.aload_n 0, 1) := by decide +kernel
theorem dX10_laysRow_41 : decode cX10_laysRow 41 = .ok (.dup, 1) := by decide +kernel
theorem dX10_laysRow_42 : decode cX10_laysRow 42 = .ok (.getfield 340, 3) := by decide +kernel
theorem dX10_laysRow_45 : decode cX10_laysRow 45 = .ok (.iconst 1, 1) := by decide +kernel
theorem dX10_laysRow_46 : decode cX10_laysRow 46 = .ok (.iadd, 1) := by decide +kernel
theorem dX10_laysRow_47 : decode cX10_laysRow 47 = .ok (.putfield 340, 3) := by decide +kernel
theorem dX10_laysRow_50 : decode cX10_laysRow 50 = .ok (.iinc 1 1, 3) := by decide +kernel
theorem dX10_laysRow_53 : decode cX10_laysRow 53 = .ok (.goto (-46), 3) := by decide +kernel
theorem dX10_laysRow_56 : decode cX10_laysRow 56 = .ok (.return_, 1) := by decide +kernel
theorem dX10_isBehind_0 : decode cX10_isBehind 0 = .ok (.aload_n 0, 1) := by decide +kernel
theorem dX10_isBehind_1 : decode cX10_isBehind 1 = .ok (.iload_n 1, 1) := by decide +kernel
theorem dX10_isBehind_2 : decode cX10_isBehind 2 = .ok (.iconst 0, 1) := by decide +kernel
theorem dX10_isBehind_3 : decode cX10_isBehind 3 = .ok (.invokevirtual 210, 3) := by decide +kernel
theorem dX10_isBehind_6 : decode cX10_isBehind 6 = .ok (.aload_n 0, 1) := by decide +kernel
theorem dX10_isBehind_7 : decode cX10_isBehind 7 = .ok (.iload_n 2, 1) := by decide +kernel
theorem dX10_isBehind_8 : decode cX10_isBehind 8 = .ok (.iconst 0, 1) := by decide +kernel
theorem dX10_isBehind_9 : decode cX10_isBehind 9 = .ok (.invokevirtual 210, 3) := by decide +kernel
theorem dX10_isBehind_12 : decode cX10_isBehind 12 = .ok (.if_icmp .gt 53, 3) := by decide +kernel
theorem dX10_isBehind_15 : decode cX10_isBehind 15 = .ok (.aload_n 0, 1) := by decide +kernel
theorem dX10_isBehind_16 : decode cX10_isBehind 16 = .ok (.iload_n 1, 1) := by decide +kernel
theorem dX10_isBehind_17 : decode cX10_isBehind 17 = .ok (.iconst 0, 1) := by decide +kernel
theorem dX10_isBehind_18 : decode cX10_isBehind 18 = .ok (.invokevirtual 210, 3) := by decide +kernel
theorem dX10_isBehind_21 : decode cX10_isBehind 21 = .ok (.aload_n 0, 1) := by decide +kernel
theorem dX10_isBehind_22 : decode cX10_isBehind 22 = .ok (.iload_n 2, 1) := by decide +kernel
theorem dX10_isBehind_23 : decode cX10_isBehind 23 = .ok (.iconst 0, 1) := by decide +kernel
theorem dX10_isBehind_24 : decode cX10_isBehind 24 = .ok (.invokevirtual 210, 3) := by decide +kernel
theorem dX10_isBehind_27 : decode cX10_isBehind 27 = .ok (.if_icmp .ne 42, 3) := by decide +kernel
theorem dX10_isBehind_30 : decode cX10_isBehind 30 = .ok (.aload_n 0, 1) := by decide +kernel
theorem dX10_isBehind_31 : decode cX10_isBehind 31 = .ok (.iload_n 1, 1) := by decide +kernel
theorem dX10_isBehind_32 : decode cX10_isBehind 32 = .ok (.iconst 1, 1) := by decide +kernel
theorem dX10_isBehind_33 : decode cX10_isBehind 33 = .ok (.invokevirtual 210, 3) := by decide +kernel
theorem dX10_isBehind_36 : decode cX10_isBehind 36 = .ok (.aload_n 0, 1) := by decide +kernel
theorem dX10_isBehind_37 : decode cX10_isBehind 37 = .ok (.iload_n 2, 1) := by decide +kernel
theorem dX10_isBehind_38 : decode cX10_isBehind 38 = .ok (.iconst 1, 1) := by decide +kernel
theorem dX10_isBehind_39 : decode cX10_isBehind 39 = .ok (.invokevirtual 210, 3) := by decide +kernel
theorem dX10_isBehind_42 : decode cX10_isBehind 42 = .ok (.if_icmp .gt 23, 3) := by decide +kernel
theorem dX10_isBehind_45 : decode cX10_isBehind 45 = .ok (.aload_n 0, 1) := by decide +kernel
theorem dX10_isBehind_46 : decode cX10_isBehind 46 = .ok (.iload_n 1, 1) := by decide +kernel
theorem dX10_isBehind_47 : decode cX10_isBehind 47 = .ok (.iconst 1, 1) := by decide +kernel
theorem dX10_isBehind_48 : decode cX10_isBehind 48 = .ok (.invokevirtual 210, 3) := by decide +kernel
theorem dX10_isBehind_51 : decode cX10_isBehind 51 = .ok (.aload_n 0, 1) := by decide +kernel
theorem dX10_isBehind_52 : decode cX10_isBehind 52 = .ok (.iload_n 2, 1) := by decide +kernel
theorem dX10_isBehind_53 : decode cX10_isBehind 53 = .ok (.iconst 1, 1) := by decide +kernel
theorem dX10_isBehind_54 : decode cX10_isBehind 54 = .ok (.invokevirtual 210, 3) := by decide +kernel
theorem dX10_isBehind_57 : decode cX10_isBehind 57 = .ok (.if_icmp .ne 12, 3) := by decide +kernel
theorem dX10_isBehind_60 : decode cX10_isBehind 60 = .ok (.iload_n 1, 1) := by decide +kernel
theorem dX10_isBehind_61 : decode cX10_isBehind 61 = .ok (.iload_n 2, 1) := by decide +kernel
theorem dX10_isBehind_62 : decode cX10_isBehind 62 = .ok (.if_icmp .le 7, 3) := by decide +kernel
theorem dX10_isBehind_65 : decode cX10_isBehind 65 = .ok (.iconst 1, 1) := by decide +kernel
theorem dX10_isBehind_66 : decode cX10_isBehind 66 = .ok (.goto 4, 3) := by decide +kernel
theorem dX10_isBehind_69 : decode cX10_isBehind 69 = .ok (.iconst 0, 1) := by decide +kernel
theorem dX10_isBehind_70 : decode cX10_isBehind 70 = .ok (.ireturn, 1) := by decide +kernel
theorem dX10_deals_0 : decode cX10_deals 0 = .ok (.iconst 0, 1) := by decide +kernel
theorem dX10_deals_1 : decode cX10_deals 1 = .ok (.istore_n 1, 1) := by decide +kernel
theorem dX10_deals_2 : decode cX10_deals 2 = .ok (.iconst 0, 1) := by decide +kernel
theorem dX10_deals_3 : decode cX10_deals 3 = .ok (.istore_n 2, 1) := by decide +kernel
theorem dX10_deals_4 : decode cX10_deals 4 = .ok (.iload_n 2, 1) := by decide +kernel
theorem dX10_deals_5 : decode cX10_deals 5 = .ok (.aload_n 0, 1) := by decide +kernel
theorem dX10_deals_6 : decode cX10_deals 6 = .ok (.getfield 7, 3) := by decide +kernel
theorem dX10_deals_9 : decode cX10_deals 9 = .ok (.iconst 2, 1) := by decide +kernel
theorem dX10_deals_10 : decode cX10_deals 10 = .ok (.iaload, 1) := by decide +kernel
theorem dX10_deals_11 : decode cX10_deals 11 = .ok (.if_icmp .ge 55, 3) := by decide +kernel
theorem dX10_deals_14 : decode cX10_deals 14 = .ok (.aload_n 0, 1) := by decide +kernel
theorem dX10_deals_15 : decode cX10_deals 15 = .ok (.getfield 79, 3) := by decide +kernel
theorem dX10_deals_18 : decode cX10_deals 18 = .ok (.iload_n 2, 1) := by decide +kernel
theorem dX10_deals_19 : decode cX10_deals 19 = .ok (.iconst 0, 1) := by decide +kernel
theorem dX10_deals_20 : decode cX10_deals 20 = .ok (.iastore, 1) := by decide +kernel
theorem dX10_deals_21 : decode cX10_deals 21 = .ok (.aload_n 0, 1) := by decide +kernel
theorem dX10_deals_22 : decode cX10_deals 22 = .ok (.iload_n 2, 1) := by decide +kernel
theorem dX10_deals_23 : decode cX10_deals 23 = .ok (.invokevirtual 229, 3) := by decide +kernel
theorem dX10_deals_26 : decode cX10_deals 26 = .ok (.invokestatic 302, 3) := by decide +kernel
theorem dX10_deals_29 : decode cX10_deals 29 = .ok (.istore_n 3, 1) := by decide +kernel
theorem dX10_deals_30 : decode cX10_deals 30 = .ok (.iload_n 3, 1) := by decide +kernel
theorem dX10_deals_31 : decode cX10_deals 31 = .ok (.ifCond .le 29, 3) := by decide +kernel
theorem dX10_deals_34 : decode cX10_deals 34 = .ok (.aload_n 0, 1) := by decide +kernel
theorem dX10_deals_35 : decode cX10_deals 35 = .ok (.getfield 79, 3) := by decide +kernel
theorem dX10_deals_38 : decode cX10_deals 38 = .ok (.iload_n 2, 1) := by decide +kernel
theorem dX10_deals_39 : decode cX10_deals 39 = .ok (.dup2, 1) := by decide +kernel
theorem dX10_deals_40 : decode cX10_deals 40 = .ok (.iaload, 1) := by decide +kernel
theorem dX10_deals_41 : decode cX10_deals 41 = .ok (.iconst 1, 1) := by decide +kernel
theorem dX10_deals_42 : decode cX10_deals 42 = .ok (.aload_n 0, 1) := by decide +kernel
theorem dX10_deals_43 : decode cX10_deals 43 = .ok (.getfield 76, 3) := by decide +kernel
theorem dX10_deals_46 : decode cX10_deals 46 = .ok (.iload_n 1, 1) := by decide +kernel
theorem dX10_deals_47 : decode cX10_deals 47 = .ok (.iaload, 1) := by decide +kernel
theorem dX10_deals_48 : decode cX10_deals 48 = .ok (.ishl, 1) := by decide +kernel
theorem dX10_deals_49 : decode cX10_deals 49 = .ok (.ior, 1) := by decide +kernel
theorem dX10_deals_50 : decode cX10_deals 50 = .ok (.iastore, 1) := by decide +kernel
theorem dX10_deals_51 : decode cX10_deals 51 = .ok (.iinc 1 1, 3) := by decide +kernel
theorem dX10_deals_54 : decode cX10_deals 54 = .ok (.iinc 3 (-1), 3) := by decide +kernel
theorem dX10_deals_57 : decode cX10_deals 57 = .ok (.goto (-27), 3) := by decide +kernel
theorem dX10_deals_60 : decode cX10_deals 60 = .ok (.iinc 2 1, 3) := by decide +kernel
theorem dX10_deals_63 : decode cX10_deals 63 = .ok (.goto (-59), 3) := by decide +kernel
theorem dX10_deals_66 : decode cX10_deals 66 = .ok (.return_, 1) := by decide +kernel
theorem dX10_together_0 : decode cX10_together 0 = .ok (.aload_n 0, 1) := by decide +kernel
theorem dX10_together_1 : decode cX10_together 1 = .ok (.invokevirtual 343, 3) := by decide +kernel
theorem dX10_together_4 : decode cX10_together 4 = .ok (.iconst 1, 1) := by decide +kernel
theorem dX10_together_5 : decode cX10_together 5 = .ok (.istore_n 1, 1) := by decide +kernel
theorem dX10_together_6 : decode cX10_together 6 = .ok (.iload_n 1, 1) := by decide +kernel
theorem dX10_together_7 : decode cX10_together 7 = .ok (.aload_n 0, 1) := by decide +kernel
theorem dX10_together_8 : decode cX10_together 8 = .ok (.getfield 340, 3) := by decide +kernel
theorem dX10_together_11 : decode cX10_together 11 = .ok (.if_icmp .ge 65, 3) := by decide +kernel
theorem dX10_together_14 : decode cX10_together 14 = .ok (.aload_n 0, 1) := by decide +kernel
theorem dX10_together_15 : decode cX10_together 15 = .ok (.getfield 76, 3) := by decide +kernel
theorem dX10_together_18 : decode cX10_together 18 = .ok (.iload_n 1, 1) := by decide +kernel
theorem dX10_together_19 : decode cX10_together 19 = .ok (.iaload, 1) := by decide +kernel
theorem dX10_together_20 : decode cX10_together 20 = .ok (.istore_n 2, 1) := by decide +kernel
theorem dX10_together_21 : decode cX10_together 21 = .ok (.iload_n 1, 1) := by decide +kernel
theorem dX10_together_22 : decode cX10_together 22 = .ok (.istore_n 3, 1) := by decide +kernel
theorem dX10_together_23 : decode cX10_together 23 = .ok (.iload_n 3, 1) := by decide +kernel
theorem dX10_together_24 : decode cX10_together 24 = .ok (.ifCond .le 39, 3) := by decide +kernel
theorem dX10_together_27 : decode cX10_together 27 = .ok (.aload_n 0, 1) := by decide +kernel
theorem dX10_together_28 : decode cX10_together 28 = .ok (.aload_n 0, 1) := by decide +kernel
theorem dX10_together_29 : decode cX10_together 29 = .ok (.getfield 76, 3) := by decide +kernel
theorem dX10_together_32 : decode cX10_together 32 = .ok (.iload_n 3, 1) := by decide +kernel
theorem dX10_together_33 : decode cX10_together 33 = .ok (.iconst 1, 1) := by decide +kernel
theorem dX10_together_34 : decode cX10_together 34 = .ok (.isub, 1) := by decide +kernel
theorem dX10_together_35 : decode cX10_together 35 = .ok (.iaload, 1) := by decide +kernel
theorem dX10_together_36 : decode cX10_together 36 = .ok (.iload_n 2, 1) := by decide +kernel
theorem dX10_together_37 : decode cX10_together 37 = .ok (.invokevirtual 346, 3) := by decide +kernel
theorem dX10_together_40 : decode cX10_together 40 = .ok (.ifCond .eq 23, 3) := by decide +kernel
theorem dX10_together_43 : decode cX10_together 43 = .ok (.aload_n 0, 1) := by decide +kernel
theorem dX10_together_44 : decode cX10_together 44 = .ok (.getfield 76, 3) := by decide +kernel
theorem dX10_together_47 : decode cX10_together 47 = .ok (.iload_n 3, 1) := by decide +kernel
theorem dX10_together_48 : decode cX10_together 48 = .ok (.aload_n 0, 1) := by decide +kernel
theorem dX10_together_49 : decode cX10_together 49 = .ok (.getfield 76, 3) := by decide +kernel
theorem dX10_together_52 : decode cX10_together 52 = .ok (.iload_n 3, 1) := by decide +kernel
theorem dX10_together_53 : decode cX10_together 53 = .ok (.iconst 1, 1) := by decide +kernel
theorem dX10_together_54 : decode cX10_together 54 = .ok (.isub, 1) := by decide +kernel
theorem dX10_together_55 : decode cX10_together 55 = .ok (.iaload, 1) := by decide +kernel
theorem dX10_together_56 : decode cX10_together 56 = .ok (.iastore, 1) := by decide +kernel
theorem dX10_together_57 : decode cX10_together 57 = .ok (.iinc 3 (-1), 3) := by decide +kernel
theorem dX10_together_60 : decode cX10_together 60 = .ok (.goto (-37), 3) := by decide +kernel
theorem dX10_together_63 : decode cX10_together 63 = .ok (.aload_n 0, 1) := by decide +kernel
theorem dX10_together_64 : decode cX10_together 64 = .ok (.getfield 76, 3) := by decide +kernel
theorem dX10_together_67 : decode cX10_together 67 = .ok (.iload_n 3, 1) := by decide +kernel
theorem dX10_together_68 : decode cX10_together 68 = .ok (.iload_n 2, 1) := by decide +kernel
theorem dX10_together_69 : decode cX10_together 69 = .ok (.iastore, 1) := by decide +kernel
theorem dX10_together_70 : decode cX10_together 70 = .ok (.iinc 1 1, 3) := by decide +kernel
theorem dX10_together_73 : decode cX10_together 73 = .ok (.goto (-67), 3) := by decide +kernel
theorem dX10_together_76 : decode cX10_together 76 = .ok (.aload_n 0, 1) := by decide +kernel
theorem dX10_together_77 : decode cX10_together 77 = .ok (.invokevirtual 349, 3) := by decide +kernel
theorem dX10_together_80 : decode cX10_together 80 = .ok (.iconst 0, 1) := by decide +kernel
theorem dX10_together_81 : decode cX10_together 81 = .ok (.istore_n 1, 1) := by decide +kernel
theorem dX10_together_82 : decode cX10_together 82 = .ok (.iconst 0, 1) := by decide +kernel
theorem dX10_together_83 : decode cX10_together 83 = .ok (.istore_n 2, 1) := by decide +kernel
theorem dX10_together_84 : decode cX10_together 84 = .ok (.iload_n 2, 1) := by decide +kernel
theorem dX10_together_85 : decode cX10_together 85 = .ok (.aload_n 0, 1) := by decide +kernel
theorem dX10_together_86 : decode cX10_together 86 = .ok (.getfield 7, 3) := by decide +kernel
theorem dX10_together_89 : decode cX10_together 89 = .ok (.iconst 2, 1) := by decide +kernel
theorem dX10_together_90 : decode cX10_together 90 = .ok (.iaload, 1) := by decide +kernel
theorem dX10_together_91 : decode cX10_together 91 = .ok (.if_icmp .ge 44, 3) := by decide +kernel
theorem dX10_together_94 : decode cX10_together 94 = .ok (.iload_n 1, 1) := by decide +kernel
theorem dX10_together_95 : decode cX10_together 95 = .ok (.aload_n 0, 1) := by decide +kernel
theorem dX10_together_96 : decode cX10_together 96 = .ok (.iload_n 2, 1) := by decide +kernel
theorem dX10_together_97 : decode cX10_together 97 = .ok (.aload_n 0, 1) := by decide +kernel
theorem dX10_together_98 : decode cX10_together 98 = .ok (.getfield 79, 3) := by decide +kernel
theorem dX10_together_101 : decode cX10_together 101 = .ok (.iload_n 2, 1) := by decide +kernel
theorem dX10_together_102 : decode cX10_together 102 = .ok (.iaload, 1) := by decide +kernel
theorem dX10_together_103 : decode cX10_together 103 = .ok (.invokevirtual 295, 3) := by decide +kernel
theorem dX10_together_106 : decode cX10_together 106 = .ok (.aload_n 0, 1) := by decide +kernel
theorem dX10_together_107 : decode cX10_together 107 = .ok (.iload_n 2, 1) := by decide +kernel
theorem dX10_together_108 : decode cX10_together 108 = .ok (.aload_n 0, 1) := by decide +kernel
theorem dX10_together_109 : decode cX10_together 109 = .ok (.iload_n 2, 1) := by decide +kernel
theorem dX10_together_110 : decode cX10_together 110 = .ok (.invokevirtual 229, 3) := by decide +kernel
theorem dX10_together_113 : decode cX10_together 113 = .ok (.invokevirtual 295, 3) := by decide +kernel
theorem dX10_together_116 : decode cX10_together 116 = .ok (.lcmp, 1) := by decide +kernel
theorem dX10_together_117 : decode cX10_together 117 = .ok (.ifCond .ge 9, 3) := by decide +kernel
theorem dX10_together_120 : decode cX10_together 120 = .ok (.iconst 1, 1) := by decide +kernel
theorem dX10_together_121 : decode cX10_together 121 = .ok (.iload_n 2, 1) := by decide +kernel
theorem dX10_together_122 : decode cX10_together 122 = .ok (.ishl, 1) := by decide +kernel
theorem dX10_together_123 : decode cX10_together 123 = .ok (.goto 4, 3) := by decide +kernel
theorem dX10_together_126 : decode cX10_together 126 = .ok (.iconst 0, 1) := by decide +kernel
theorem dX10_together_127 : decode cX10_together 127 = .ok (.ior, 1) := by decide +kernel
theorem dX10_together_128 : decode cX10_together 128 = .ok (.istore_n 1, 1) := by decide +kernel
theorem dX10_together_129 : decode cX10_together 129 = .ok (.iinc 2 1, 3) := by decide +kernel
theorem dX10_together_132 : decode cX10_together 132 = .ok (.goto (-48), 3) := by decide +kernel
theorem dX10_together_135 : decode cX10_together 135 = .ok (.aload_n 0, 1) := by decide +kernel
theorem dX10_together_136 : decode cX10_together 136 = .ok (.iload_n 1, 1) := by decide +kernel
theorem dX10_together_137 : decode cX10_together 137 = .ok (.invokevirtual 204, 3) := by decide +kernel
theorem dX10_together_140 : decode cX10_together 140 = .ok (.ireturn, 1) := by decide +kernel
theorem dX10_wrongYears_0 : decode cX10_wrongYears 0 = .ok (.iload_n 1, 1) := by decide +kernel
theorem dX10_wrongYears_1 : decode cX10_wrongYears 1 = .ok (.ifCond .eq 21, 3) := by decide +kernel
theorem dX10_wrongYears_4 : decode cX10_wrongYears 4 = .ok (.iload_n 2, 1) := by decide +kernel
theorem dX10_wrongYears_5 : decode cX10_wrongYears 5 = .ok (.invokestatic 92, 3) := by decide +kernel
theorem dX10_wrongYears_8 : decode cX10_wrongYears 8 = .ok (.ifCond .eq 14, 3) := by decide +kernel
theorem dX10_wrongYears_11 : decode cX10_wrongYears 11 = .ok (.iload_n 3, 1) := by decide +kernel
theorem dX10_wrongYears_12 : decode cX10_wrongYears 12 = .ok (.iconst 1, 1) := by decide +kernel
theorem dX10_wrongYears_13 : decode cX10_wrongYears 13 = .ok (.if_icmp .lt 9, 3) := by decide +kernel
theorem dX10_wrongYears_16 : decode cX10_wrongYears 16 = .ok (.iload_n 3, 1) := by decide +kernel
theorem dX10_wrongYears_17 : decode cX10_wrongYears 17 = .ok (.bipush 60, 2) := by decide +kernel
theorem dX10_wrongYears_19 : decode cX10_wrongYears 19 = .ok (.if_icmp .le 5, 3) := by decide +kernel
theorem dX10_wrongYears_22 : decode cX10_wrongYears 22 = .ok (.iconst 1, 1) := by decide +kernel
theorem dX10_wrongYears_23 : decode cX10_wrongYears 23 = .ok (.ireturn, 1) := by decide +kernel
theorem dX10_wrongYears_24 : decode cX10_wrongYears 24 = .ok (.aload_n 0, 1) := by decide +kernel
theorem dX10_wrongYears_25 : decode cX10_wrongYears 25 = .ok (.getfield 20, 3) := by decide +kernel
theorem dX10_wrongYears_28 : decode cX10_wrongYears 28 = .ok (.iload_n 2, 1) := by decide +kernel
theorem dX10_wrongYears_29 : decode cX10_wrongYears 29 = .ok (.iaload, 1) := by decide +kernel
theorem dX10_wrongYears_30 : decode cX10_wrongYears 30 = .ok (.iconst (-1), 1) := by decide +kernel
theorem dX10_wrongYears_31 : decode cX10_wrongYears 31 = .ok (.if_icmp .ne 5, 3) := by decide +kernel
theorem dX10_wrongYears_34 : decode cX10_wrongYears 34 = .ok (.iconst 2, 1) := by decide +kernel
theorem dX10_wrongYears_35 : decode cX10_wrongYears 35 = .ok (.ireturn, 1) := by decide +kernel
theorem dX10_wrongYears_36 : decode cX10_wrongYears 36 = .ok (.aload_n 0, 1) := by decide +kernel
theorem dX10_wrongYears_37 : decode cX10_wrongYears 37 = .ok (.getfield 20, 3) := by decide +kernel
theorem dX10_wrongYears_40 : decode cX10_wrongYears 40 = .ok (.iload_n 2, 1) := by decide +kernel
theorem dX10_wrongYears_41 : decode cX10_wrongYears 41 = .ok (.iaload, 1) := by decide +kernel
theorem dX10_wrongYears_42 : decode cX10_wrongYears 42 = .ok (.iload_n 3, 1) := by decide +kernel
theorem dX10_wrongYears_43 : decode cX10_wrongYears 43 = .ok (.if_icmp .ge 5, 3) := by decide +kernel
theorem dX10_wrongYears_46 : decode cX10_wrongYears 46 = .ok (.iconst 3, 1) := by decide +kernel
theorem dX10_wrongYears_47 : decode cX10_wrongYears 47 = .ok (.ireturn, 1) := by decide +kernel
theorem dX10_wrongYears_48 : decode cX10_wrongYears 48 = .ok (.iconst 1, 1) := by decide +kernel
theorem dX10_wrongYears_49 : decode cX10_wrongYears 49 = .ok (.istore 4, 2) := by decide +kernel
theorem dX10_wrongYears_51 : decode cX10_wrongYears 51 = .ok (.iconst 0, 1) := by decide +kernel
theorem dX10_wrongYears_52 : decode cX10_wrongYears 52 = .ok (.istore 5, 2) := by decide +kernel
theorem dX10_wrongYears_54 : decode cX10_wrongYears 54 = .ok (.iload 5, 2) := by decide +kernel
theorem dX10_wrongYears_56 : decode cX10_wrongYears 56 = .ok (.iload_n 3, 1) := by decide +kernel
theorem dX10_wrongYears_57 : decode cX10_wrongYears 57 = .ok (.if_icmp .ge 40, 3) := by decide +kernel
theorem dX10_wrongYears_60 : decode cX10_wrongYears 60 = .ok (.iload 4, 2) := by decide +kernel
theorem dX10_wrongYears_62 : decode cX10_wrongYears 62 = .ok (.ifCond .eq 26, 3) := by decide +kernel
theorem dX10_wrongYears_65 : decode cX10_wrongYears 65 = .ok (.aload_n 0, 1) := by decide +kernel
theorem dX10_wrongYears_66 : decode cX10_wrongYears 66 = .ok (.aload_n 0, 1) := by decide +kernel
theorem dX10_wrongYears_67 : decode cX10_wrongYears 67 = .ok (.getfield 23, 3) := by decide +kernel
theorem dX10_wrongYears_70 : decode cX10_wrongYears 70 = .ok (.bipush 60, 2) := by decide +kernel
theorem dX10_wrongYears_72 : decode cX10_wrongYears 72 = .ok (.iload_n 2, 1) := by decide +kernel
theorem dX10_wrongYears_73 : decode cX10_wrongYears 73 = .ok (.imul, 1) := by decide +kernel
theorem dX10_wrongYears_74 : decode cX10_wrongYears 74 = .ok (.iload 5, 2) := by decide +kernel
theorem dX10_wrongYears_76 : decode cX10_wrongYears 76 = .ok (.iadd, 1) := by decide +kernel
theorem dX10_wrongYears_77 : decode cX10_wrongYears 77 = .ok (.laload, 1) := by decide +kernel
theorem dX10_wrongYears_78 : decode cX10_wrongYears 78 = .ok (.invokevirtual 273, 3) := by decide +kernel
theorem dX10_wrongYears_81 : decode cX10_wrongYears 81 = .ok (.ifCond .eq 7, 3) := by decide +kernel
theorem dX10_wrongYears_84 : decode cX10_wrongYears 84 = .ok (.iconst 1, 1) := by decide +kernel
theorem dX10_wrongYears_85 : decode cX10_wrongYears 85 = .ok (.goto 4, 3) := by decide +kernel
theorem dX10_wrongYears_88 : decode cX10_wrongYears 88 = .ok (.iconst 0, 1) := by decide +kernel
theorem dX10_wrongYears_89 : decode cX10_wrongYears 89 = .ok (.istore 4, 2) := by decide +kernel
theorem dX10_wrongYears_91 : decode cX10_wrongYears 91 = .ok (.iinc 5 1, 3) := by decide +kernel
theorem dX10_wrongYears_94 : decode cX10_wrongYears 94 = .ok (.goto (-40), 3) := by decide +kernel
theorem dX10_wrongYears_97 : decode cX10_wrongYears 97 = .ok (.iload 4, 2) := by decide +kernel
theorem dX10_wrongYears_99 : decode cX10_wrongYears 99 = .ok (.ifCond .eq 7, 3) := by decide +kernel
theorem dX10_wrongYears_102 : decode cX10_wrongYears 102 = .ok (.iconst 0, 1) := by decide +kernel
theorem dX10_wrongYears_103 : decode cX10_wrongYears 103 = .ok (.goto 4, 3) := by decide +kernel
theorem dX10_wrongYears_106 : decode cX10_wrongYears 106 = .ok (.iconst 1, 1) := by decide +kernel
theorem dX10_wrongYears_107 : decode cX10_wrongYears 107 = .ok (.ireturn, 1) := by decide +kernel
theorem dX10_starvesIn_0 : decode cX10_starvesIn 0 = .ok (.aload_n 0, 1) := by decide +kernel
theorem dX10_starvesIn_1 : decode cX10_starvesIn 1 = .ok (.iload_n 1, 1) := by decide +kernel
theorem dX10_starvesIn_2 : decode cX10_starvesIn 2 = .ok (.iload_n 2, 1) := by decide +kernel
theorem dX10_starvesIn_3 : decode cX10_starvesIn 3 = .ok (.invokevirtual 257, 3) := by decide +kernel
theorem dX10_starvesIn_6 : decode cX10_starvesIn 6 = .ok (.iconst 0, 1) := by decide +kernel
theorem dX10_starvesIn_7 : decode cX10_starvesIn 7 = .ok (.istore 5, 2) := by decide +kernel
theorem dX10_starvesIn_9 : decode cX10_starvesIn 9 = .ok (.iconst 0, 1) := by decide +kernel
theorem dX10_starvesIn_10 : decode cX10_starvesIn 10 = .ok (.istore 6, 2) := by decide +kernel
theorem dX10_starvesIn_12 : decode cX10_starvesIn 12 = .ok (.iload 6, 2) := by decide +kernel
theorem dX10_starvesIn_14 : decode cX10_starvesIn 14 = .ok (.iload 4, 2) := by decide +kernel
theorem dX10_starvesIn_16 : decode cX10_starvesIn 16 = .ok (.if_icmp .ge 46, 3) := by decide +kernel
theorem dX10_starvesIn_19 : decode cX10_starvesIn 19 = .ok (.iload 5, 2) := by decide +kernel
theorem dX10_starvesIn_21 : decode cX10_starvesIn 21 = .ok (.aload_n 0, 1) := by decide +kernel
theorem dX10_starvesIn_22 : decode cX10_starvesIn 22 = .ok (.iload_n 2, 1) := by decide +kernel
theorem dX10_starvesIn_23 : decode cX10_starvesIn 23 = .ok (.aload_n 0, 1) := by decide +kernel
theorem dX10_starvesIn_24 : decode cX10_starvesIn 24 = .ok (.getfield 23, 3) := by decide +kernel
theorem dX10_starvesIn_27 : decode cX10_starvesIn 27 = .ok (.bipush 60, 2) := by decide +kernel
theorem dX10_starvesIn_29 : decode cX10_starvesIn 29 = .ok (.iload_n 3, 1) := by decide +kernel
theorem dX10_starvesIn_30 : decode cX10_starvesIn 30 = .ok (.imul, 1) := by decide +kernel
theorem dX10_starvesIn_31 : decode cX10_starvesIn 31 = .ok (.iload 6, 2) := by decide +kernel
theorem dX10_starvesIn_33 : decode cX10_starvesIn 33 = .ok (.iadd, 1) := by decide +kernel
theorem dX10_starvesIn_34 : decode cX10_starvesIn 34 = .ok (.laload, 1) := by decide +kernel
theorem dX10_starvesIn_35 : decode cX10_starvesIn 35 = .ok (.l2i, 1) := by decide +kernel
theorem dX10_starvesIn_36 : decode cX10_starvesIn 36 = .ok (.invokevirtual 267, 3) := by decide +kernel
theorem dX10_starvesIn_39 : decode cX10_starvesIn 39 = .ok (.aload_n 0, 1) := by decide +kernel
theorem dX10_starvesIn_40 : decode cX10_starvesIn 40 = .ok (.iload_n 1, 1) := by decide +kernel
theorem dX10_starvesIn_41 : decode cX10_starvesIn 41 = .ok (.iconst 2, 1) := by decide +kernel
theorem dX10_starvesIn_42 : decode cX10_starvesIn 42 = .ok (.invokevirtual 226, 3) := by decide +kernel
theorem dX10_starvesIn_45 : decode cX10_starvesIn 45 = .ok (.if_icmp .ge 7, 3) := by decide +kernel
theorem dX10_starvesIn_48 : decode cX10_starvesIn 48 = .ok (.iconst 1, 1) := by decide +kernel
theorem dX10_starvesIn_49 : decode cX10_starvesIn 49 = .ok (.goto 4, 3) := by decide +kernel
theorem dX10_starvesIn_52 : decode cX10_starvesIn 52 = .ok (.iconst 0, 1) := by decide +kernel
theorem dX10_starvesIn_53 : decode cX10_starvesIn 53 = .ok (.iadd, 1) := by decide +kernel
theorem dX10_starvesIn_54 : decode cX10_starvesIn 54 = .ok (.istore 5, 2) := by decide +kernel
theorem dX10_starvesIn_56 : decode cX10_starvesIn 56 = .ok (.iinc 6 1, 3) := by decide +kernel
theorem dX10_starvesIn_59 : decode cX10_starvesIn 59 = .ok (.goto (-47), 3) := by decide +kernel
theorem dX10_starvesIn_62 : decode cX10_starvesIn 62 = .ok (.iload 5, 2) := by decide +kernel
theorem dX10_starvesIn_64 : decode cX10_starvesIn 64 = .ok (.ireturn, 1) := by decide +kernel
theorem dX10_starved_0 : decode cX10_starved 0 = .ok (.aload_n 0, 1) := by decide +kernel
theorem dX10_starved_1 : decode cX10_starved 1 = .ok (.aload_n 0, 1) := by decide +kernel
theorem dX10_starved_2 : decode cX10_starved 2 = .ok (.iload_n 1, 1) := by decide +kernel
theorem dX10_starved_3 : decode cX10_starved 3 = .ok (.invokevirtual 223, 3) := by decide +kernel
theorem dX10_starved_6 : decode cX10_starved 6 = .ok (.iload_n 2, 1) := by decide +kernel
theorem dX10_starved_7 : decode cX10_starved 7 = .ok (.iload_n 3, 1) := by decide +kernel
theorem dX10_starved_8 : decode cX10_starved 8 = .ok (.invokevirtual 352, 3) := by decide +kernel
theorem dX10_starved_11 : decode cX10_starved 11 = .ok (.istore 4, 2) := by decide +kernel
theorem dX10_starved_13 : decode cX10_starved 13 = .ok (.iload 4, 2) := by decide +kernel
theorem dX10_starved_15 : decode cX10_starved 15 = .ok (.ifCond .le 12, 3) := by decide +kernel
theorem dX10_starved_18 : decode cX10_starved 18 = .ok (.aload_n 0, 1) := by decide +kernel
theorem dX10_starved_19 : decode cX10_starved 19 = .ok (.iload 4, 2) := by decide +kernel
theorem dX10_starved_21 : decode cX10_starved 21 = .ok (.invokevirtual 194, 3) := by decide +kernel
theorem dX10_starved_24 : decode cX10_starved 24 = .ok (.goto 19, 3) := by decide +kernel
theorem dX10_starved_27 : decode cX10_starved 27 = .ok (.aload_n 0, 1) := by decide +kernel
theorem dX10_starved_28 : decode cX10_starved 28 = .ok (.aload_n 0, 1) := by decide +kernel
theorem dX10_starved_29 : decode cX10_starved 29 = .ok (.iload_n 1, 1) := by decide +kernel
theorem dX10_starved_30 : decode cX10_starved 30 = .ok (.aload_n 0, 1) := by decide +kernel
theorem dX10_starved_31 : decode cX10_starved 31 = .ok (.iload_n 1, 1) := by decide +kernel
theorem dX10_starved_32 : decode cX10_starved 32 = .ok (.invokevirtual 229, 3) := by decide +kernel
theorem dX10_starved_35 : decode cX10_starved 35 = .ok (.iload_n 2, 1) := by decide +kernel
theorem dX10_starved_36 : decode cX10_starved 36 = .ok (.iload_n 3, 1) := by decide +kernel
theorem dX10_starved_37 : decode cX10_starved 37 = .ok (.invokevirtual 356, 3) := by decide +kernel
theorem dX10_starved_40 : decode cX10_starved 40 = .ok (.invokevirtual 204, 3) := by decide +kernel
theorem dX10_starved_43 : decode cX10_starved 43 = .ok (.ireturn, 1) := by decide +kernel
theorem dX10_luck_0 : decode cX10_luck 0 = .ok (.aload_n 0, 1) := by decide +kernel
theorem dX10_luck_1 : decode cX10_luck 1 = .ok (.aload_n 0, 1) := by decide +kernel
theorem dX10_luck_2 : decode cX10_luck 2 = .ok (.iload_n 1, 1) := by decide +kernel
theorem dX10_luck_3 : decode cX10_luck 3 = .ok (.invokevirtual 223, 3) := by decide +kernel
theorem dX10_luck_6 : decode cX10_luck 6 = .ok (.ifCond .eq 33, 3) := by decide +kernel
theorem dX10_luck_9 : decode cX10_luck 9 = .ok (.iload 4, 2) := by decide +kernel
theorem dX10_luck_11 : decode cX10_luck 11 = .ok (.ifCond .lt 28, 3) := by decide +kernel
theorem dX10_luck_14 : decode cX10_luck 14 = .ok (.iload 4, 2) := by decide +kernel
theorem dX10_luck_16 : decode cX10_luck 16 = .ok (.sipush 9999, 3) := by decide +kernel
theorem dX10_luck_19 : decode cX10_luck 19 = .ok (.if_icmp .gt 20, 3) := by decide +kernel
theorem dX10_luck_22 : decode cX10_luck 22 = .ok (.iload 5, 2) := by decide +kernel
theorem dX10_luck_24 : decode cX10_luck 24 = .ok (.iconst 1, 1) := by decide +kernel
theorem dX10_luck_25 : decode cX10_luck 25 = .ok (.if_icmp .lt 14, 3) := by decide +kernel
theorem dX10_luck_28 : decode cX10_luck 28 = .ok (.iload 5, 2) := by decide +kernel
theorem dX10_luck_30 : decode cX10_luck 30 = .ok (.bipush 100, 2) := by decide +kernel
theorem dX10_luck_32 : decode cX10_luck 32 = .ok (.if_icmp .gt 7, 3) := by decide +kernel
theorem dX10_luck_35 : decode cX10_luck 35 = .ok (.iconst 1, 1) := by decide +kernel
theorem dX10_luck_36 : decode cX10_luck 36 = .ok (.goto 4, 3) := by decide +kernel
theorem dX10_luck_39 : decode cX10_luck 39 = .ok (.iconst 0, 1) := by decide +kernel
theorem dX10_luck_40 : decode cX10_luck 40 = .ok (.iload_n 2, 1) := by decide +kernel
theorem dX10_luck_41 : decode cX10_luck 41 = .ok (.iload_n 3, 1) := by decide +kernel
theorem dX10_luck_42 : decode cX10_luck 42 = .ok (.invokevirtual 352, 3) := by decide +kernel
theorem dX10_luck_45 : decode cX10_luck 45 = .ok (.istore 6, 2) := by decide +kernel
theorem dX10_luck_47 : decode cX10_luck 47 = .ok (.iload 6, 2) := by decide +kernel
theorem dX10_luck_49 : decode cX10_luck 49 = .ok (.ifCond .le 10, 3) := by decide +kernel
theorem dX10_luck_52 : decode cX10_luck 52 = .ok (.aload_n 0, 1) := by decide +kernel
theorem dX10_luck_53 : decode cX10_luck 53 = .ok (.iload 6, 2) := by decide +kernel
theorem dX10_luck_55 : decode cX10_luck 55 = .ok (.invokevirtual 194, 3) := by decide +kernel
theorem dX10_luck_58 : decode cX10_luck 58 = .ok (.ireturn, 1) := by decide +kernel
theorem dX10_luck_59 : decode cX10_luck 59 = .ok (.aload_n 0, 1) := by decide +kernel
theorem dX10_luck_60 : decode cX10_luck 60 = .ok (.iload_n 1, 1) := by decide +kernel
theorem dX10_luck_61 : decode cX10_luck 61 = .ok (.aload_n 0, 1) := by decide +kernel
theorem dX10_luck_62 : decode cX10_luck 62 = .ok (.iload_n 1, 1) := by decide +kernel
theorem dX10_luck_63 : decode cX10_luck 63 = .ok (.invokevirtual 229, 3) := by decide +kernel
theorem dX10_luck_66 : decode cX10_luck 66 = .ok (.iload_n 2, 1) := by decide +kernel
theorem dX10_luck_67 : decode cX10_luck 67 = .ok (.iload_n 3, 1) := by decide +kernel
theorem dX10_luck_68 : decode cX10_luck 68 = .ok (.invokevirtual 356, 3) := by decide +kernel
theorem dX10_luck_71 : decode cX10_luck 71 = .ok (.istore 7, 2) := by decide +kernel
theorem dX10_luck_73 : decode cX10_luck 73 = .ok (.iload 4, 2) := by decide +kernel
theorem dX10_luck_75 : decode cX10_luck 75 = .ok (.istore 8, 2) := by decide +kernel
theorem dX10_luck_77 : decode cX10_luck 77 = .ok (.iconst 0, 1) := by decide +kernel
theorem dX10_luck_78 : decode cX10_luck 78 = .ok (.istore 9, 2) := by decide +kernel
theorem dX10_luck_80 : decode cX10_luck 80 = .ok (.iconst 0, 1) := by decide +kernel
theorem dX10_luck_81 : decode cX10_luck 81 = .ok (.istore 10, 2) := by decide +kernel
theorem dX10_luck_83 : decode cX10_luck 83 = .ok (.iload 10, 2) := by decide +kernel
theorem dX10_luck_85 : decode cX10_luck 85 = .ok (.iload 5, 2) := by decide +kernel
theorem dX10_luck_87 : decode cX10_luck 87 = .ok (.if_icmp .ge 124, 3) := by decide +kernel
theorem dX10_luck_90 : decode cX10_luck 90 = .ok (.aload_n 0, 1) := by decide +kernel
theorem dX10_luck_91 : decode cX10_luck 91 = .ok (.invokevirtual 343, 3) := by decide +kernel
theorem dX10_luck_94 : decode cX10_luck 94 = .ok (.aload_n 0, 1) := by decide +kernel
theorem dX10_luck_95 : decode cX10_luck 95 = .ok (.getfield 340, 3) := by decide +kernel
theorem dX10_luck_98 : decode cX10_luck 98 = .ok (.iconst 1, 1) := by decide +kernel
theorem dX10_luck_99 : decode cX10_luck 99 = .ok (.isub, 1) := by decide +kernel
theorem dX10_luck_100 : decode cX10_luck 100 = .ok (.istore 11, 2) := by decide +kernel
theorem dX10_luck_102 : decode cX10_luck 102 = .ok (.iload 11, 2) := by decide +kernel
theorem dX10_luck_104 : decode cX10_luck 104 = .ok (.ifCond .le 69, 3) := by decide +kernel
theorem dX10_luck_107 : decode cX10_luck 107 = .ok (.iload 8, 2) := by decide +kernel
theorem dX10_luck_109 : decode cX10_luck 109 = .ok (.sipush 4093, 3) := by decide +kernel
theorem dX10_luck_112 : decode cX10_luck 112 = .ok (.imul, 1) := by decide +kernel
theorem dX10_luck_113 : decode cX10_luck 113 = .ok (.sipush 15731, 3) := by decide +kernel
theorem dX10_luck_116 : decode cX10_luck 116 = .ok (.iadd, 1) := by decide +kernel
theorem dX10_luck_117 : decode cX10_luck 117 = .ok (.ldc_w 359, 3) := by decide +kernel
theorem dX10_luck_120 : decode cX10_luck 120 = .ok (.irem, 1) := by decide +kernel
theorem dX10_luck_121 : decode cX10_luck 121 = .ok (.istore 8, 2) := by decide +kernel
theorem dX10_luck_123 : decode cX10_luck 123 = .ok (.iload 8, 2) := by decide +kernel
theorem dX10_luck_125 : decode cX10_luck 125 = .ok (.bipush 8, 2) := by decide +kernel
theorem dX10_luck_127 : decode cX10_luck 127 = .ok (.idiv, 1) := by decide +kernel
theorem dX10_luck_128 : decode cX10_luck 128 = .ok (.iload 11, 2) := by decide +kernel
theorem dX10_luck_130 : decode cX10_luck 130 = .ok (.iconst 1, 1) := by decide +kernel
theorem dX10_luck_131 : decode cX10_luck 131 = .ok (.iadd, 1) := by decide +kernel
theorem dX10_luck_132 : decode cX10_luck 132 = .ok (.irem, 1) := by decide +kernel
theorem dX10_luck_133 : decode cX10_luck 133 = .ok (.istore 12, 2) := by decide +kernel
theorem dX10_luck_135 : decode cX10_luck 135 = .ok (.aload_n 0, 1) := by decide +kernel
theorem dX10_luck_136 : decode cX10_luck 136 = .ok (.getfield 76, 3) := by decide +kernel
theorem dX10_luck_139 : decode cX10_luck 139 = .ok (.iload 11, 2) := by decide +kernel
theorem dX10_luck_141 : decode cX10_luck 141 = .ok (.iaload, 1) := by decide +kernel
theorem dX10_luck_142 : decode cX10_luck 142 = .ok (.istore 13, 2) := by decide +kernel
theorem dX10_luck_144 : decode cX10_luck 144 = .ok (.aload_n 0, 1) := by decide +kernel
theorem dX10_luck_145 : decode cX10_luck 145 = .ok (.getfield 76, 3) := by decide +kernel
theorem dX10_luck_148 : decode cX10_luck 148 = .ok (.iload 11, 2) := by decide +kernel
theorem dX10_luck_150 : decode cX10_luck 150 = .ok (.aload_n 0, 1) := by decide +kernel
theorem dX10_luck_151 : decode cX10_luck 151 = .ok (.getfield 76, 3) := by decide +kernel
theorem dX10_luck_154 : decode cX10_luck 154 = .ok (.iload 12, 2) := by decide +kernel
theorem dX10_luck_156 : decode cX10_luck 156 = .ok (.iaload, 1) := by decide +kernel
theorem dX10_luck_157 : decode cX10_luck 157 = .ok (.iastore, 1) := by decide +kernel
theorem dX10_luck_158 : decode cX10_luck 158 = .ok (.aload_n 0, 1) := by decide +kernel
theorem dX10_luck_159 : decode cX10_luck 159 = .ok (.getfield 76, 3) := by decide +kernel
theorem dX10_luck_162 : decode cX10_luck 162 = .ok (.iload 12, 2) := by decide +kernel
theorem dX10_luck_164 : decode cX10_luck 164 = .ok (.iload 13, 2) := by decide +kernel
theorem dX10_luck_166 : decode cX10_luck 166 = .ok (.iastore, 1) := by decide +kernel
theorem dX10_luck_167 : decode cX10_luck 167 = .ok (.iinc 11 (-1), 3) := by decide +kernel
theorem dX10_luck_170 : decode cX10_luck 170 = .ok (.goto (-68), 3) := by decide +kernel
theorem dX10_luck_173 : decode cX10_luck 173 = .ok (.aload_n 0, 1) := by decide +kernel
theorem dX10_luck_174 : decode cX10_luck 174 = .ok (.invokevirtual 349, 3) := by decide +kernel
theorem dX10_luck_177 : decode cX10_luck 177 = .ok (.iload 9, 2) := by decide +kernel
theorem dX10_luck_179 : decode cX10_luck 179 = .ok (.aload_n 0, 1) := by decide +kernel
theorem dX10_luck_180 : decode cX10_luck 180 = .ok (.iload_n 1, 1) := by decide +kernel
theorem dX10_luck_181 : decode cX10_luck 181 = .ok (.aload_n 0, 1) := by decide +kernel
theorem dX10_luck_182 : decode cX10_luck 182 = .ok (.getfield 79, 3) := by decide +kernel
theorem dX10_luck_185 : decode cX10_luck 185 = .ok (.iload_n 1, 1) := by decide +kernel
theorem dX10_luck_186 : decode cX10_luck 186 = .ok (.iaload, 1) := by decide +kernel
theorem dX10_luck_187 : decode cX10_luck 187 = .ok (.iload_n 2, 1) := by decide +kernel
theorem dX10_luck_188 : decode cX10_luck 188 = .ok (.iload_n 3, 1) := by decide +kernel
theorem dX10_luck_189 : decode cX10_luck 189 = .ok (.invokevirtual 356, 3) := by decide +kernel
theorem dX10_luck_192 : decode cX10_luck 192 = .ok (.iload 7, 2) := by decide +kernel
theorem dX10_luck_194 : decode cX10_luck 194 = .ok (.if_icmp .ge 7, 3) := by decide +kernel
theorem dX10_luck_197 : decode cX10_luck 197 = .ok (.iconst 1, 1) := by decide +kernel
theorem dX10_luck_198 : decode cX10_luck 198 = .ok (.goto 4, 3) := by decide +kernel
theorem dX10_luck_201 : decode cX10_luck 201 = .ok (.iconst 0, 1) := by decide +kernel
theorem dX10_luck_202 : decode cX10_luck 202 = .ok (.iadd, 1) := by decide +kernel
theorem dX10_luck_203 : decode cX10_luck 203 = .ok (.istore 9, 2) := by decide +kernel
theorem dX10_luck_205 : decode cX10_luck 205 = .ok (.iinc 10 1, 3) := by decide +kernel
theorem dX10_luck_208 : decode cX10_luck 208 = .ok (.goto (-125), 3) := by decide +kernel
theorem dX10_luck_211 : decode cX10_luck 211 = .ok (.aload_n 0, 1) := by decide +kernel
theorem dX10_luck_212 : decode cX10_luck 212 = .ok (.iload 9, 2) := by decide +kernel
theorem dX10_luck_214 : decode cX10_luck 214 = .ok (.invokevirtual 204, 3) := by decide +kernel
theorem dX10_luck_217 : decode cX10_luck 217 = .ok (.ireturn, 1) := by decide +kernel
theorem dX10_mark_0 : decode cX10_mark 0 = .ok (.aload_n 0, 1) := by decide +kernel
theorem dX10_mark_1 : decode cX10_mark 1 = .ok (.getfield 360, 3) := by decide +kernel
theorem dX10_mark_4 : decode cX10_mark 4 = .ok (.iconst 3, 1) := by decide +kernel
theorem dX10_mark_5 : decode cX10_mark 5 = .ok (.if_icmp .ne 9, 3) := by decide +kernel
theorem dX10_mark_8 : decode cX10_mark 8 = .ok (.aload_n 0, 1) := by decide +kernel
theorem dX10_mark_9 : decode cX10_mark 9 = .ok (.iconst 4, 1) := by decide +kernel
theorem dX10_mark_10 : decode cX10_mark 10 = .ok (.invokevirtual 194, 3) := by decide +kernel
theorem dX10_mark_13 : decode cX10_mark 13 = .ok (.ireturn, 1) := by decide +kernel
theorem dX10_mark_14 : decode cX10_mark 14 = .ok (.aload_n 0, 1) := by decide +kernel
theorem dX10_mark_15 : decode cX10_mark 15 = .ok (.dup, 1) := by decide +kernel
theorem dX10_mark_16 : decode cX10_mark 16 = .ok (.getfield 360, 3) := by decide +kernel
theorem dX10_mark_19 : decode cX10_mark 19 = .ok (.iconst 1, 1) := by decide +kernel
theorem dX10_mark_20 : decode cX10_mark 20 = .ok (.iadd, 1) := by decide +kernel
theorem dX10_mark_21 : decode cX10_mark 21 = .ok (.putfield 360, 3) := by decide +kernel
theorem dX10_mark_24 : decode cX10_mark 24 = .ok (.aload_n 0, 1) := by decide +kernel
theorem dX10_mark_25 : decode cX10_mark 25 = .ok (.iconst 0, 1) := by decide +kernel
theorem dX10_mark_26 : decode cX10_mark 26 = .ok (.bipush 100, 2) := by decide +kernel
theorem dX10_mark_28 : decode cX10_mark 28 = .ok (.aload_n 0, 1) := by decide +kernel
theorem dX10_mark_29 : decode cX10_mark 29 = .ok (.getfield 360, 3) := by decide +kernel
theorem dX10_mark_32 : decode cX10_mark 32 = .ok (.imul, 1) := by decide +kernel
theorem dX10_mark_33 : decode cX10_mark 33 = .ok (.invokevirtual 200, 3) := by decide +kernel
theorem dX10_mark_36 : decode cX10_mark 36 = .ok (.aload_n 0, 1) := by decide +kernel
theorem dX10_mark_37 : decode cX10_mark 37 = .ok (.aload_n 0, 1) := by decide +kernel
theorem dX10_mark_38 : decode cX10_mark 38 = .ok (.getfield 360, 3) := by decide +kernel
theorem dX10_mark_41 : decode cX10_mark 41 = .ok (.invokevirtual 204, 3) := by decide +kernel
theorem dX10_mark_44 : decode cX10_mark 44 = .ok (.ireturn, 1) := by decide +kernel
theorem dX10_back_0 : decode cX10_back 0 = .ok (.aload_n 0, 1) := by decide +kernel
theorem dX10_back_1 : decode cX10_back 1 = .ok (.getfield 360, 3) := by decide +kernel
theorem dX10_back_4 : decode cX10_back 4 = .ok (.ifCond .ne 10, 3) := by decide +kernel
theorem dX10_back_7 : decode cX10_back 7 = .ok (.aload_n 0, 1) := by decide +kernel
theorem dX10_back_8 : decode cX10_back 8 = .ok (.bipush 6, 2) := by decide +kernel
theorem dX10_back_10 : decode cX10_back 10 = .ok (.invokevirtual 194, 3) := by decide +kernel
theorem dX10_back_13 : decode cX10_back 13 = .ok (.ireturn, 1) := by decide +kernel
theorem dX10_back_14 : decode cX10_back 14 = .ok (.aload_n 0, 1) := by decide +kernel
theorem dX10_back_15 : decode cX10_back 15 = .ok (.bipush 100, 2) := by decide +kernel
theorem dX10_back_17 : decode cX10_back 17 = .ok (.aload_n 0, 1) := by decide +kernel
theorem dX10_back_18 : decode cX10_back 18 = .ok (.getfield 360, 3) := by decide +kernel
theorem dX10_back_21 : decode cX10_back 21 = .ok (.imul, 1) := by decide +kernel
theorem dX10_back_22 : decode cX10_back 22 = .ok (.iconst 0, 1) := by decide +kernel
theorem dX10_back_23 : decode cX10_back 23 = .ok (.invokevirtual 200, 3) := by decide +kernel
theorem dX10_back_26 : decode cX10_back 26 = .ok (.aload_n 0, 1) := by decide +kernel
theorem dX10_back_27 : decode cX10_back 27 = .ok (.dup, 1) := by decide +kernel
theorem dX10_back_28 : decode cX10_back 28 = .ok (.getfield 360, 3) := by decide +kernel
theorem dX10_back_31 : decode cX10_back 31 = .ok (.iconst 1, 1) := by decide +kernel
theorem dX10_back_32 : decode cX10_back 32 = .ok (.isub, 1) := by decide +kernel
theorem dX10_back_33 : decode cX10_back 33 = .ok (.putfield 360, 3) := by decide +kernel
theorem dX10_back_36 : decode cX10_back 36 = .ok (.aload_n 0, 1) := by decide +kernel
theorem dX10_back_37 : decode cX10_back 37 = .ok (.aload_n 0, 1) := by decide +kernel
theorem dX10_back_38 : decode cX10_back 38 = .ok (.getfield 360, 3) := by decide +kernel
theorem dX10_back_41 : decode cX10_back 41 = .ok (.invokevirtual 204, 3) := by decide +kernel
theorem dX10_back_44 : decode cX10_back 44 = .ok (.ireturn, 1) := by decide +kernel
theorem dJ6_bitCount_0f7a4_0 : decode cJ6_bitCount_0f7a4 0 = .ok (.iload_n 0, 1) := by decide +kernel
theorem dJ6_bitCount_0f7a4_1 : decode cJ6_bitCount_0f7a4 1 = .ok (.iload_n 0, 1) := by decide +kernel
theorem dJ6_bitCount_0f7a4_2 : decode cJ6_bitCount_0f7a4 2 = .ok (.iconst 1, 1) := by decide +kernel
theorem dJ6_bitCount_0f7a4_3 : decode cJ6_bitCount_0f7a4 3 = .ok (.iushr, 1) := by decide +kernel
theorem dJ6_bitCount_0f7a4_4 : decode cJ6_bitCount_0f7a4 4 = .ok (.ldc_w 265, 3) := by decide +kernel
theorem dJ6_bitCount_0f7a4_7 : decode cJ6_bitCount_0f7a4 7 = .ok (.iand, 1) := by decide +kernel
theorem dJ6_bitCount_0f7a4_8 : decode cJ6_bitCount_0f7a4 8 = .ok (.isub, 1) := by decide +kernel
theorem dJ6_bitCount_0f7a4_9 : decode cJ6_bitCount_0f7a4 9 = .ok (.istore_n 0, 1) := by decide +kernel
theorem dJ6_bitCount_0f7a4_10 : decode cJ6_bitCount_0f7a4 10 = .ok (.iload_n 0, 1) := by decide +kernel
theorem dJ6_bitCount_0f7a4_11 : decode cJ6_bitCount_0f7a4 11 = .ok (.ldc_w 266, 3) := by decide +kernel
theorem dJ6_bitCount_0f7a4_14 : decode cJ6_bitCount_0f7a4 14 = .ok (.iand, 1) := by decide +kernel
theorem dJ6_bitCount_0f7a4_15 : decode cJ6_bitCount_0f7a4 15 = .ok (.iload_n 0, 1) := by decide +kernel
theorem dJ6_bitCount_0f7a4_16 : decode cJ6_bitCount_0f7a4 16 = .ok (.iconst 2, 1) := by decide +kernel
theorem dJ6_bitCount_0f7a4_17 : decode cJ6_bitCount_0f7a4 17 = .ok (.iushr, 1) := by decide +kernel
theorem dJ6_bitCount_0f7a4_18 : decode cJ6_bitCount_0f7a4 18 = .ok (.ldc_w 266, 3) := by decide +kernel
theorem dJ6_bitCount_0f7a4_21 : decode cJ6_bitCount_0f7a4 21 = .ok (.iand, 1) := by decide +kernel
theorem dJ6_bitCount_0f7a4_22 : decode cJ6_bitCount_0f7a4 22 = .ok (.iadd, 1) := by decide +kernel
theorem dJ6_bitCount_0f7a4_23 : decode cJ6_bitCount_0f7a4 23 = .ok (.istore_n 0, 1) := by decide +kernel
theorem dJ6_bitCount_0f7a4_24 : decode cJ6_bitCount_0f7a4 24 = .ok (.iload_n 0, 1) := by decide +kernel
theorem dJ6_bitCount_0f7a4_25 : decode cJ6_bitCount_0f7a4 25 = .ok (.iload_n 0, 1) := by decide +kernel
theorem dJ6_bitCount_0f7a4_26 : decode cJ6_bitCount_0f7a4 26 = .ok (.iconst 4, 1) := by decide +kernel
theorem dJ6_bitCount_0f7a4_27 : decode cJ6_bitCount_0f7a4 27 = .ok (.iushr, 1) := by decide +kernel
theorem dJ6_bitCount_0f7a4_28 : decode cJ6_bitCount_0f7a4 28 = .ok (.iadd, 1) := by decide +kernel
theorem dJ6_bitCount_0f7a4_29 : decode cJ6_bitCount_0f7a4 29 = .ok (.ldc_w 267, 3) := by decide +kernel
theorem dJ6_bitCount_0f7a4_32 : decode cJ6_bitCount_0f7a4 32 = .ok (.iand, 1) := by decide +kernel
theorem dJ6_bitCount_0f7a4_33 : decode cJ6_bitCount_0f7a4 33 = .ok (.istore_n 0, 1) := by decide +kernel
theorem dJ6_bitCount_0f7a4_34 : decode cJ6_bitCount_0f7a4 34 = .ok (.iload_n 0, 1) := by decide +kernel
theorem dJ6_bitCount_0f7a4_35 : decode cJ6_bitCount_0f7a4 35 = .ok (.iload_n 0, 1) := by decide +kernel
theorem dJ6_bitCount_0f7a4_36 : decode cJ6_bitCount_0f7a4 36 = .ok (.bipush 8, 2) := by decide +kernel
theorem dJ6_bitCount_0f7a4_38 : decode cJ6_bitCount_0f7a4 38 = .ok (.iushr, 1) := by decide +kernel
theorem dJ6_bitCount_0f7a4_39 : decode cJ6_bitCount_0f7a4 39 = .ok (.iadd, 1) := by decide +kernel
theorem dJ6_bitCount_0f7a4_40 : decode cJ6_bitCount_0f7a4 40 = .ok (.istore_n 0, 1) := by decide +kernel
theorem dJ6_bitCount_0f7a4_41 : decode cJ6_bitCount_0f7a4 41 = .ok (.iload_n 0, 1) := by decide +kernel
theorem dJ6_bitCount_0f7a4_42 : decode cJ6_bitCount_0f7a4 42 = .ok (.iload_n 0, 1) := by decide +kernel
theorem dJ6_bitCount_0f7a4_43 : decode cJ6_bitCount_0f7a4 43 = .ok (.bipush 16, 2) := by decide +kernel
theorem dJ6_bitCount_0f7a4_45 : decode cJ6_bitCount_0f7a4 45 = .ok (.iushr, 1) := by decide +kernel
theorem dJ6_bitCount_0f7a4_46 : decode cJ6_bitCount_0f7a4 46 = .ok (.iadd, 1) := by decide +kernel
theorem dJ6_bitCount_0f7a4_47 : decode cJ6_bitCount_0f7a4 47 = .ok (.istore_n 0, 1) := by decide +kernel
theorem dJ6_bitCount_0f7a4_48 : decode cJ6_bitCount_0f7a4 48 = .ok (.iload_n 0, 1) := by decide +kernel
theorem dJ6_bitCount_0f7a4_49 : decode cJ6_bitCount_0f7a4 49 = .ok (.bipush 63, 2) := by decide +kernel
theorem dJ6_bitCount_0f7a4_51 : decode cJ6_bitCount_0f7a4 51 = .ok (.iand, 1) := by decide +kernel
theorem dJ6_bitCount_0f7a4_52 : decode cJ6_bitCount_0f7a4 52 = .ok (.ireturn, 1) := by decide +kernel
theorem dJ9_abs_0f7a4_0 : decode cJ9_abs_0f7a4 0 = .ok (.iload_n 0, 1) := by decide +kernel
theorem dJ9_abs_0f7a4_1 : decode cJ9_abs_0f7a4 1 = .ok (.ifCond .ge 8, 3) := by decide +kernel
theorem dJ9_abs_0f7a4_4 : decode cJ9_abs_0f7a4 4 = .ok (.iload_n 0, 1) := by decide +kernel
theorem dJ9_abs_0f7a4_5 : decode cJ9_abs_0f7a4 5 = .ok (.ineg, 1) := by decide +kernel
theorem dJ9_abs_0f7a4_6 : decode cJ9_abs_0f7a4 6 = .ok (.goto 4, 3) := by decide +kernel
theorem dJ9_abs_0f7a4_9 : decode cJ9_abs_0f7a4 9 = .ok (.iload_n 0, 1) := by decide +kernel
theorem dJ9_abs_0f7a4_10 : decode cJ9_abs_0f7a4 10 = .ok (.ireturn, 1) := by decide +kernel
theorem dJ9_abs_067f4_0 : decode cJ9_abs_067f4 0 = .ok (.lload_n 0, 1) := by decide +kernel
theorem dJ9_abs_067f4_1 : decode cJ9_abs_067f4 1 = .ok (.lconst 0, 1) := by decide +kernel
theorem dJ9_abs_067f4_2 : decode cJ9_abs_067f4 2 = .ok (.lcmp, 1) := by decide +kernel
theorem dJ9_abs_067f4_3 : decode cJ9_abs_067f4 3 = .ok (.ifCond .ge 8, 3) := by decide +kernel
theorem dJ9_abs_067f4_6 : decode cJ9_abs_067f4 6 = .ok (.lload_n 0, 1) := by decide +kernel
theorem dJ9_abs_067f4_7 : decode cJ9_abs_067f4 7 = .ok (.lneg, 1) := by decide +kernel
theorem dJ9_abs_067f4_8 : decode cJ9_abs_067f4 8 = .ok (.goto 4, 3) := by decide +kernel
theorem dJ9_abs_067f4_11 : decode cJ9_abs_067f4 11 = .ok (.lload_n 0, 1) := by decide +kernel
theorem dJ9_abs_067f4_12 : decode cJ9_abs_067f4 12 = .ok (.lreturn, 1) := by decide +kernel
theorem dJ9_max_7cf53_0 : decode cJ9_max_7cf53 0 = .ok (.iload_n 0, 1) := by decide +kernel
theorem dJ9_max_7cf53_1 : decode cJ9_max_7cf53 1 = .ok (.iload_n 1, 1) := by decide +kernel
theorem dJ9_max_7cf53_2 : decode cJ9_max_7cf53 2 = .ok (.if_icmp .lt 7, 3) := by decide +kernel
theorem dJ9_max_7cf53_5 : decode cJ9_max_7cf53 5 = .ok (.iload_n 0, 1) := by decide +kernel
theorem dJ9_max_7cf53_6 : decode cJ9_max_7cf53 6 = .ok (.goto 4, 3) := by decide +kernel
theorem dJ9_max_7cf53_9 : decode cJ9_max_7cf53 9 = .ok (.iload_n 1, 1) := by decide +kernel
theorem dJ9_max_7cf53_10 : decode cJ9_max_7cf53 10 = .ok (.ireturn, 1) := by decide +kernel
theorem dJ9_max_f86c9_0 : decode cJ9_max_f86c9 0 = .ok (.lload_n 0, 1) := by decide +kernel
theorem dJ9_max_f86c9_1 : decode cJ9_max_f86c9 1 = .ok (.lload_n 2, 1) := by decide +kernel
theorem dJ9_max_f86c9_2 : decode cJ9_max_f86c9 2 = .ok (.lcmp, 1) := by decide +kernel
theorem dJ9_max_f86c9_3 : decode cJ9_max_f86c9 3 = .ok (.ifCond .lt 7, 3) := by decide +kernel
theorem dJ9_max_f86c9_6 : decode cJ9_max_f86c9 6 = .ok (.lload_n 0, 1) := by decide +kernel
theorem dJ9_max_f86c9_7 : decode cJ9_max_f86c9 7 = .ok (.goto 4, 3) := by decide +kernel
theorem dJ9_max_f86c9_10 : decode cJ9_max_f86c9 10 = .ok (.lload_n 2, 1) := by decide +kernel
theorem dJ9_max_f86c9_11 : decode cJ9_max_f86c9 11 = .ok (.lreturn, 1) := by decide +kernel
theorem dJ9_min_7cf53_0 : decode cJ9_min_7cf53 0 = .ok (.iload_n 0, 1) := by decide +kernel
theorem dJ9_min_7cf53_1 : decode cJ9_min_7cf53 1 = .ok (.iload_n 1, 1) := by decide +kernel
theorem dJ9_min_7cf53_2 : decode cJ9_min_7cf53 2 = .ok (.if_icmp .gt 7, 3) := by decide +kernel
theorem dJ9_min_7cf53_5 : decode cJ9_min_7cf53 5 = .ok (.iload_n 0, 1) := by decide +kernel
theorem dJ9_min_7cf53_6 : decode cJ9_min_7cf53 6 = .ok (.goto 4, 3) := by decide +kernel
theorem dJ9_min_7cf53_9 : decode cJ9_min_7cf53 9 = .ok (.iload_n 1, 1) := by decide +kernel
theorem dJ9_min_7cf53_10 : decode cJ9_min_7cf53 10 = .ok (.ireturn, 1) := by decide +kernel
theorem dJ0_length_8abf5_0 : decode cJ0_length_8abf5 0 = .ok (.aload_n 0, 1) := by decide +kernel
theorem dJ0_length_8abf5_1 : decode cJ0_length_8abf5 1 = .ok (.getfield 9, 3) := by decide +kernel
theorem dJ0_length_8abf5_4 : decode cJ0_length_8abf5 4 = .ok (.arraylength, 1) := by decide +kernel
theorem dJ0_length_8abf5_5 : decode cJ0_length_8abf5 5 = .ok (.aload_n 0, 1) := by decide +kernel
theorem dJ0_length_8abf5_6 : decode cJ0_length_8abf5 6 = .ok (.invokevirtual 335, 3) := by decide +kernel
theorem dJ0_length_8abf5_9 : decode cJ0_length_8abf5 9 = .ok (.ishr, 1) := by decide +kernel
theorem dJ0_length_8abf5_10 : decode cJ0_length_8abf5 10 = .ok (.ireturn, 1) := by decide +kernel
theorem dJ0_charAt_5068e_0 : decode cJ0_charAt_5068e 0 = .ok (.aload_n 0, 1) := by decide +kernel
theorem dJ0_charAt_5068e_1 : decode cJ0_charAt_5068e 1 = .ok (.invokevirtual 492, 3) := by decide +kernel
theorem dJ0_charAt_5068e_4 : decode cJ0_charAt_5068e 4 = .ok (.ifCond .eq 12, 3) := by decide +kernel
theorem dJ0_charAt_5068e_7 : decode cJ0_charAt_5068e 7 = .ok (.aload_n 0, 1) := by decide +kernel
theorem dJ0_charAt_5068e_8 : decode cJ0_charAt_5068e 8 = .ok (.getfield 9, 3) := by decide +kernel
theorem dJ0_charAt_5068e_11 : decode cJ0_charAt_5068e 11 = .ok (.iload_n 1, 1) := by decide +kernel
theorem dJ0_charAt_5068e_12 : decode cJ0_charAt_5068e 12 = .ok (.invokestatic 495, 3) := by decide +kernel
theorem dJ0_charAt_5068e_15 : decode cJ0_charAt_5068e 15 = .ok (.ireturn, 1) := by decide +kernel
theorem dJ0_charAt_5068e_16 : decode cJ0_charAt_5068e 16 = .ok (.aload_n 0, 1) := by decide +kernel
theorem dJ0_charAt_5068e_17 : decode cJ0_charAt_5068e 17 = .ok (.getfield 9, 3) := by decide +kernel
theorem dJ0_charAt_5068e_20 : decode cJ0_charAt_5068e 20 = .ok (.iload_n 1, 1) := by decide +kernel
theorem dJ0_charAt_5068e_21 : decode cJ0_charAt_5068e 21 = .ok (.invokestatic 498, 3) := by decide +kernel
theorem dJ0_charAt_5068e_24 : decode cJ0_charAt_5068e 24 = .ok (.ireturn, 1) := by decide +kernel
theorem dJ0_coder_7d493_0 : decode cJ0_coder_7d493 0 = .ok (.getstatic 38, 3) := by decide +kernel
theorem dJ0_coder_7d493_3 : decode cJ0_coder_7d493 3 = .ok (.ifCond .eq 10, 3) := by decide +kernel
theorem dJ0_coder_7d493_6 : decode cJ0_coder_7d493 6 = .ok (.aload_n 0, 1) := by decide +kernel
theorem dJ0_coder_7d493_7 : decode cJ0_coder_7d493 7 = .ok (.getfield 15, 3) := by decide +kernel
theorem dJ0_coder_7d493_10 : decode cJ0_coder_7d493 10 = .ok (.goto 4, 3) := by decide +kernel
theorem dJ0_coder_7d493_13 : decode cJ0_coder_7d493 13 = .ok (.iconst 1, 1) := by decide +kernel
theorem dJ0_coder_7d493_14 : decode cJ0_coder_7d493 14 = .ok (.ireturn, 1) := by decide +kernel
theorem dJ0_isLatin1_aae02_0 : decode cJ0_isLatin1_aae02 0 = .ok (.getstatic 38, 3) := by decide +kernel
theorem dJ0_isLatin1_aae02_3 : decode cJ0_isLatin1_aae02 3 = .ok (.ifCond .eq 14, 3) := by decide +kernel
theorem dJ0_isLatin1_aae02_6 : decode cJ0_isLatin1_aae02 6 = .ok (.aload_n 0, 1) := by decide +kernel
theorem dJ0_isLatin1_aae02_7 : decode cJ0_isLatin1_aae02 7 = .ok (.getfield 15, 3) := by decide +kernel
theorem dJ0_isLatin1_aae02_10 : decode cJ0_isLatin1_aae02 10 = .ok (.ifCond .ne 7, 3) := by decide +kernel
theorem dJ0_isLatin1_aae02_13 : decode cJ0_isLatin1_aae02 13 = .ok (.iconst 1, 1) := by decide +kernel
theorem dJ0_isLatin1_aae02_14 : decode cJ0_isLatin1_aae02 14 = .ok (.goto 4, 3) := by decide +kernel
theorem dJ0_isLatin1_aae02_17 : decode cJ0_isLatin1_aae02 17 = .ok (.iconst 0, 1) := by decide +kernel
theorem dJ0_isLatin1_aae02_18 : decode cJ0_isLatin1_aae02 18 = .ok (.ireturn, 1) := by decide +kernel
theorem dJ0_checkIndex_df160_0 : decode cJ0_checkIndex_df160 0 = .ok (.iload_n 0, 1) := by decide +kernel
theorem dJ0_checkIndex_df160_1 : decode cJ0_checkIndex_df160 1 = .ok (.iload_n 1, 1) := by decide +kernel
theorem dJ0_checkIndex_df160_2 : decode cJ0_checkIndex_df160 2 = .ok (.getstatic 1053, 3) := by decide +kernel
theorem dJ0_checkIndex_df160_5 : decode cJ0_checkIndex_df160 5 = .ok (.invokestatic 1059, 3) := by decide +kernel
theorem dJ0_checkIndex_df160_8 : decode cJ0_checkIndex_df160 8 = .ok (.pop, 1) := by decide +kernel
theorem dJ0_checkIndex_df160_9 : decode cJ0_checkIndex_df160 9 = .ok (.return_, 1) := by decide +kernel
theorem dJ1_charAt_3b067_0 : decode cJ1_charAt_3b067 0 = .ok (.iload_n 1, 1) := by decide +kernel
theorem dJ1_charAt_3b067_1 : decode cJ1_charAt_3b067 1 = .ok (.aload_n 0, 1) := by decide +kernel
theorem dJ1_charAt_3b067_2 : decode cJ1_charAt_3b067 2 = .ok (.arraylength, 1) := by decide +kernel
theorem dJ1_charAt_3b067_3 : decode cJ1_charAt_3b067 3 = .ok (.invokestatic 9, 3) := by decide +kernel
theorem dJ1_charAt_3b067_6 : decode cJ1_charAt_3b067 6 = .ok (.aload_n 0, 1) := by decide +kernel
theorem dJ1_charAt_3b067_7 : decode cJ1_charAt_3b067 7 = .ok (.iload_n 1, 1) := by decide +kernel
theorem dJ1_charAt_3b067_8 : decode cJ1_charAt_3b067 8 = .ok (.baload, 1) := by decide +kernel
theorem dJ1_charAt_3b067_9 : decode cJ1_charAt_3b067 9 = .ok (.sipush 255, 3) := by decide +kernel
theorem dJ1_charAt_3b067_12 : decode cJ1_charAt_3b067 12 = .ok (.iand, 1) := by decide +kernel
theorem dJ1_charAt_3b067_13 : decode cJ1_charAt_3b067 13 = .ok (.i2c, 1) := by decide +kernel
theorem dJ1_charAt_3b067_14 : decode cJ1_charAt_3b067 14 = .ok (.ireturn, 1) := by decide +kernel
theorem dJ2_getChar_3b067_0 : decode cJ2_getChar_3b067 0 = .ok (.getstatic 44, 3) := by decide +kernel
theorem dJ2_getChar_3b067_3 : decode cJ2_getChar_3b067 3 = .ok (.ifCond .ne 25, 3) := by decide +kernel
theorem dJ2_getChar_3b067_6 : decode cJ2_getChar_3b067 6 = .ok (.iload_n 1, 1) := by decide +kernel
theorem dJ2_getChar_3b067_7 : decode cJ2_getChar_3b067 7 = .ok (.ifCond .lt 11, 3) := by decide +kernel
theorem dJ2_getChar_3b067_10 : decode cJ2_getChar_3b067 10 = .ok (.iload_n 1, 1) := by decide +kernel
theorem dJ2_getChar_3b067_11 : decode cJ2_getChar_3b067 11 = .ok (.aload_n 0, 1) := by decide +kernel
theorem dJ2_getChar_3b067_12 : decode cJ2_getChar_3b067 12 = .ok (.invokestatic 48, 3) := by decide +kernel
theorem dJ2_getChar_3b067_15 : decode cJ2_getChar_3b067 15 = .ok (.if_icmp .lt 13, 3) := by decide +kernel
theorem dJ2_getChar_3b067_18 : decode cJ2_getChar_3b067 18 = .ok (.new 52, 3) := by decide +kernel
theorem dJ2_getChar_3b067_21 : decode cJ2_getChar_3b067 21 = .ok (.dup, 1) := by decide +kernel
theorem dJ2_getChar_3b067_22 : decode cJ2_getChar_3b067 22 = .ok (.ldc 54, 2) := by decide +kernel
theorem dJ2_getChar_3b067_24 : decode cJ2_getChar_3b067 24 = .ok (.invokespecial 56, 3) := by decide +kernel
theorem dJ2_getChar_3b067_27 : decode cJ2_getChar_3b067 27 = .ok (.athrow, 1) := by decide +kernel
theorem dJ2_getChar_3b067_28 : decode cJ2_getChar_3b067 28 = .ok (.iload_n 1, 1) := by decide +kernel
theorem dJ2_getChar_3b067_29 : decode cJ2_getChar_3b067 29 = .ok (.iconst 1, 1) := by decide +kernel
theorem dJ2_getChar_3b067_30 : decode cJ2_getChar_3b067 30 = .ok (.ishl, 1) := by decide +kernel
theorem dJ2_getChar_3b067_31 : decode cJ2_getChar_3b067 31 = .ok (.istore_n 1, 1) := by decide +kernel
theorem dJ2_getChar_3b067_32 : decode cJ2_getChar_3b067 32 = .ok (.aload_n 0, 1) := by decide +kernel
theorem dJ2_getChar_3b067_33 : decode cJ2_getChar_3b067 33 = .ok (.iload_n 1, 1) := by decide +kernel
theorem dJ2_getChar_3b067_34 : decode cJ2_getChar_3b067 34 = .ok (.iinc 1 1, 3) := by decide +kernel
theorem dJ2_getChar_3b067_37 : decode cJ2_getChar_3b067 37 = .ok (.baload, 1) := by decide +kernel
theorem dJ2_getChar_3b067_38 : decode cJ2_getChar_3b067 38 = .ok (.sipush 255, 3) := by decide +kernel
theorem dJ2_getChar_3b067_41 : decode cJ2_getChar_3b067 41 = .ok (.iand, 1) := by decide +kernel
theorem dJ2_getChar_3b067_42 : decode cJ2_getChar_3b067 42 = .ok (.getstatic 59, 3) := by decide +kernel
theorem dJ2_getChar_3b067_45 : decode cJ2_getChar_3b067 45 = .ok (.ishl, 1) := by decide +kernel
theorem dJ2_getChar_3b067_46 : decode cJ2_getChar_3b067 46 = .ok (.aload_n 0, 1) := by decide +kernel
theorem dJ2_getChar_3b067_47 : decode cJ2_getChar_3b067 47 = .ok (.iload_n 1, 1) := by decide +kernel
theorem dJ2_getChar_3b067_48 : decode cJ2_getChar_3b067 48 = .ok (.baload, 1) := by decide +kernel
theorem dJ2_getChar_3b067_49 : decode cJ2_getChar_3b067 49 = .ok (.sipush 255, 3) := by decide +kernel
theorem dJ2_getChar_3b067_52 : decode cJ2_getChar_3b067 52 = .ok (.iand, 1) := by decide +kernel
theorem dJ2_getChar_3b067_53 : decode cJ2_getChar_3b067 53 = .ok (.getstatic 63, 3) := by decide +kernel
theorem dJ2_getChar_3b067_56 : decode cJ2_getChar_3b067 56 = .ok (.ishl, 1) := by decide +kernel
theorem dJ2_getChar_3b067_57 : decode cJ2_getChar_3b067 57 = .ok (.ior, 1) := by decide +kernel
theorem dJ2_getChar_3b067_58 : decode cJ2_getChar_3b067 58 = .ok (.i2c, 1) := by decide +kernel
theorem dJ2_getChar_3b067_59 : decode cJ2_getChar_3b067 59 = .ok (.ireturn, 1) := by decide +kernel
theorem dJ2_length_9d52b_0 : decode cJ2_length_9d52b 0 = .ok (.aload_n 0, 1) := by decide +kernel
theorem dJ2_length_9d52b_1 : decode cJ2_length_9d52b 1 = .ok (.arraylength, 1) := by decide +kernel
theorem dJ2_length_9d52b_2 : decode cJ2_length_9d52b 2 = .ok (.iconst 1, 1) := by decide +kernel
theorem dJ2_length_9d52b_3 : decode cJ2_length_9d52b 3 = .ok (.ishr, 1) := by decide +kernel
theorem dJ2_length_9d52b_4 : decode cJ2_length_9d52b 4 = .ok (.ireturn, 1) := by decide +kernel
theorem dJ2_charAt_3b067_0 : decode cJ2_charAt_3b067 0 = .ok (.iload_n 1, 1) := by decide +kernel
theorem dJ2_charAt_3b067_1 : decode cJ2_charAt_3b067 1 = .ok (.aload_n 0, 1) := by decide +kernel
theorem dJ2_charAt_3b067_2 : decode cJ2_charAt_3b067 2 = .ok (.invokestatic 67, 3) := by decide +kernel
theorem dJ2_charAt_3b067_5 : decode cJ2_charAt_3b067 5 = .ok (.aload_n 0, 1) := by decide +kernel
theorem dJ2_charAt_3b067_6 : decode cJ2_charAt_3b067 6 = .ok (.iload_n 1, 1) := by decide +kernel
theorem dJ2_charAt_3b067_7 : decode cJ2_charAt_3b067 7 = .ok (.invokestatic 71, 3) := by decide +kernel
theorem dJ2_charAt_3b067_10 : decode cJ2_charAt_3b067 10 = .ok (.ireturn, 1) := by decide +kernel
theorem dJ2_checkIndex_2214a_0 : decode cJ2_checkIndex_2214a 0 = .ok (.iload_n 0, 1) := by decide +kernel
theorem dJ2_checkIndex_2214a_1 : decode cJ2_checkIndex_2214a 1 = .ok (.aload_n 1, 1) := by decide +kernel
theorem dJ2_checkIndex_2214a_2 : decode cJ2_checkIndex_2214a 2 = .ok (.invokestatic 48, 3) := by decide +kernel
theorem dJ2_checkIndex_2214a_5 : decode cJ2_checkIndex_2214a 5 = .ok (.invokestatic 414, 3) := by decide +kernel
theorem dJ2_checkIndex_2214a_8 : decode cJ2_checkIndex_2214a 8 = .ok (.return_, 1) := by decide +kernel
theorem dJ3_checkIndex_8e157_0 : decode cJ3_checkIndex_8e157 0 = .ok (.iload_n 0, 1) := by decide +kernel
theorem dJ3_checkIndex_8e157_1 : decode cJ3_checkIndex_8e157 1 = .ok (.ifCond .lt 8, 3) := by decide +kernel
theorem dJ3_checkIndex_8e157_4 : decode cJ3_checkIndex_8e157 4 = .ok (.iload_n 0, 1) := by decide +kernel
theorem dJ3_checkIndex_8e157_5 : decode cJ3_checkIndex_8e157 5 = .ok (.iload_n 1, 1) := by decide +kernel
theorem dJ3_checkIndex_8e157_6 : decode cJ3_checkIndex_8e157 6 = .ok (.if_icmp .lt 10, 3) := by decide +kernel
theorem dJ3_checkIndex_8e157_9 : decode cJ3_checkIndex_8e157 9 = .ok (.aload_n 2, 1) := by decide +kernel
theorem dJ3_checkIndex_8e157_10 : decode cJ3_checkIndex_8e157 10 = .ok (.iload_n 0, 1) := by decide +kernel
theorem dJ3_checkIndex_8e157_11 : decode cJ3_checkIndex_8e157 11 = .ok (.iload_n 1, 1) := by decide +kernel
theorem dJ3_checkIndex_8e157_12 : decode cJ3_checkIndex_8e157 12 = .ok (.invokestatic 95, 3) := by decide +kernel
theorem dJ3_checkIndex_8e157_15 : decode cJ3_checkIndex_8e157 15 = .ok (.athrow, 1) := by decide +kernel
theorem dJ3_checkIndex_8e157_16 : decode cJ3_checkIndex_8e157 16 = .ok (.iload_n 0, 1) := by decide +kernel
theorem dJ3_checkIndex_8e157_17 : decode cJ3_checkIndex_8e157 17 = .ok (.ireturn, 1) := by decide +kernel
theorem dL_law_0 : decode cL_law 0 = .ok (.new 7, 3) := by decide +kernel
theorem dL_law_3 : decode cL_law 3 = .ok (.dup, 1) := by decide +kernel
theorem dL_law_4 : decode cL_law 4 = .ok (.invokespecial 9, 3) := by decide +kernel
theorem dL_law_7 : decode cL_law 7 = .ok (.astore_n 1, 1) := by decide +kernel
theorem dL_law_8 : decode cL_law 8 = .ok (.new 10, 3) := by decide +kernel
theorem dL_law_11 : decode cL_law 11 = .ok (.dup, 1) := by decide +kernel
theorem dL_law_12 : decode cL_law 12 = .ok (.invokespecial 12, 3) := by decide +kernel
theorem dL_law_15 : decode cL_law 15 = .ok (.astore_n 2, 1) := by decide +kernel
theorem dL_law_16 : decode cL_law 16 = .ok (.iconst 0, 1) := by decide +kernel
theorem dL_law_17 : decode cL_law 17 = .ok (.istore_n 3, 1) := by decide +kernel
theorem dL_law_18 : decode cL_law 18 = .ok (.iload_n 3, 1) := by decide +kernel
theorem dL_law_19 : decode cL_law 19 = .ok (.aload_n 0, 1) := by decide +kernel
theorem dL_law_20 : decode cL_law 20 = .ok (.arraylength, 1) := by decide +kernel
theorem dL_law_21 : decode cL_law 21 = .ok (.bipush 7, 2) := by decide +kernel
theorem dL_law_23 : decode cL_law 23 = .ok (.isub, 1) := by decide +kernel
theorem dL_law_24 : decode cL_law 24 = .ok (.if_icmp .gt 1630, 3) := by decide +kernel
theorem dL_law_27 : decode cL_law 27 = .ok (.aload_n 0, 1) := by decide +kernel
theorem dL_law_28 : decode cL_law 28 = .ok (.iload_n 3, 1) := by decide +kernel
theorem dL_law_29 : decode cL_law 29 = .ok (.iaload, 1) := by decide +kernel
theorem dL_law_30 : decode cL_law 30 = .ok (.bipush 63, 2) := by decide +kernel
theorem dL_law_32 : decode cL_law 32 = .ok (.iand, 1) := by decide +kernel
theorem dL_law_33 : decode cL_law 33 = .ok (.tableswitch 1615 0 41 #[183, 196, 210, 224, 267, 340, 374, 437, 500, 523, 546, 569, 602, 635, 668, 701, 734, 767, 791, 824, 857, 900, 943, 976, 1009, 1042, 1065, 1078, 1111, 1164, 1239, 1272, 1325, 1378, 1391, 1414, 1437, 1470, 1483, 1526, 1589, 1602], 183) := by decide +kernel
theorem dL_law_216 : decode cL_law 216 = .ok (.aload_n 1, 1) := by decide +kernel
theorem dL_law_217 : decode cL_law 217 = .ok (.invokevirtual 13, 3) := by decide +kernel
theorem dL_law_220 : decode cL_law 220 = .ok (.aload_n 2, 1) := by decide +kernel
theorem dL_law_221 : decode cL_law 221 = .ok (.invokevirtual 17, 3) := by decide +kernel
theorem dL_law_224 : decode cL_law 224 = .ok (.if_icmp .eq 1424, 3) := by decide +kernel
theorem dL_law_227 : decode cL_law 227 = .ok (.iconst 0, 1) := by decide +kernel
theorem dL_law_228 : decode cL_law 228 = .ok (.ireturn, 1) := by decide +kernel
theorem dL_law_229 : decode cL_law 229 = .ok (.aload_n 1, 1) := by decide +kernel
theorem dL_law_230 : decode cL_law 230 = .ok (.invokevirtual 18, 3) := by decide +kernel
theorem dL_law_233 : decode cL_law 233 = .ok (.aload_n 2, 1) := by decide +kernel
theorem dL_law_234 : decode cL_law 234 = .ok (.invokevirtual 22, 3) := by decide +kernel
theorem dL_law_237 : decode cL_law 237 = .ok (.lcmp, 1) := by decide +kernel
theorem dL_law_238 : decode cL_law 238 = .ok (.ifCond .eq 1410, 3) := by decide +kernel
theorem dL_law_241 : decode cL_law 241 = .ok (.iconst 0, 1) := by decide +kernel
theorem dL_law_242 : decode cL_law 242 = .ok (.ireturn, 1) := by decide +kernel
theorem dL_law_243 : decode cL_law 243 = .ok (.aload_n 1, 1) := by decide +kernel
theorem dL_law_244 : decode cL_law 244 = .ok (.invokevirtual 23, 3) := by decide +kernel
theorem dL_law_247 : decode cL_law 247 = .ok (.aload_n 2, 1) := by decide +kernel
theorem dL_law_248 : decode cL_law 248 = .ok (.invokevirtual 26, 3) := by decide +kernel
theorem dL_law_251 : decode cL_law 251 = .ok (.lcmp, 1) := by decide +kernel
theorem dL_law_252 : decode cL_law 252 = .ok (.ifCond .eq 1396, 3) := by decide +kernel
theorem dL_law_255 : decode cL_law 255 = .ok (.iconst 0, 1) := by decide +kernel
theorem dL_law_256 : decode cL_law 256 = .ok (.ireturn, 1) := by decide +kernel
theorem dL_law_257 : decode cL_law 257 = .ok (.aload_n 1, 1) := by decide +kernel
theorem dL_law_258 : decode cL_law 258 = .ok (.aload_n 0, 1) := by decide +kernel
theorem dL_law_259 : decode cL_law 259 = .ok (.iload_n 3, 1) := by decide +kernel
theorem dL_law_260 : decode cL_law 260 = .ok (.iconst 1, 1) := by decide +kernel
theorem dL_law_261 : decode cL_law 261 = .ok (.iadd, 1) := by decide +kernel
theorem dL_law_262 : decode cL_law 262 = .ok (.iaload, 1) := by decide +kernel
theorem dL_law_263 : decode cL_law 263 = .ok (.aload_n 0, 1) := by decide +kernel
theorem dL_law_264 : decode cL_law 264 = .ok (.iload_n 3, 1) := by decide +kernel
theorem dL_law_265 : decode cL_law 265 = .ok (.iconst 2, 1) := by decide +kernel
theorem dL_law_266 : decode cL_law 266 = .ok (.iadd, 1) := by decide +kernel
theorem dL_law_267 : decode cL_law 267 = .ok (.iaload, 1) := by decide +kernel
theorem dL_law_268 : decode cL_law 268 = .ok (.aload_n 0, 1) := by decide +kernel
theorem dL_law_269 : decode cL_law 269 = .ok (.iload_n 3, 1) := by decide +kernel
theorem dL_law_270 : decode cL_law 270 = .ok (.iconst 3, 1) := by decide +kernel
theorem dL_law_271 : decode cL_law 271 = .ok (.iadd, 1) := by decide +kernel
theorem dL_law_272 : decode cL_law 272 = .ok (.iaload, 1) := by decide +kernel
theorem dL_law_273 : decode cL_law 273 = .ok (.invokevirtual 27, 3) := by decide +kernel
theorem dL_law_276 : decode cL_law 276 = .ok (.aload_n 2, 1) := by decide +kernel
theorem dL_law_277 : decode cL_law 277 = .ok (.aload_n 0, 1) := by decide +kernel
theorem dL_law_278 : decode cL_law 278 = .ok (.iload_n 3, 1) := by decide +kernel
theorem dL_law_279 : decode cL_law 279 = .ok (.iconst 1, 1) := by decide +kernel
theorem dL_law_280 : decode cL_law 280 = .ok (.iadd, 1) := by decide +kernel
theorem dL_law_281 : decode cL_law 281 = .ok (.iaload, 1) := by decide +kernel
theorem dL_law_282 : decode cL_law 282 = .ok (.aload_n 0, 1) := by decide +kernel
theorem dL_law_283 : decode cL_law 283 = .ok (.iload_n 3, 1) := by decide +kernel
theorem dL_law_284 : decode cL_law 284 = .ok (.iconst 2, 1) := by decide +kernel
theorem dL_law_285 : decode cL_law 285 = .ok (.iadd, 1) := by decide +kernel
theorem dL_law_286 : decode cL_law 286 = .ok (.iaload, 1) := by decide +kernel
theorem dL_law_287 : decode cL_law 287 = .ok (.aload_n 0, 1) := by decide +kernel
theorem dL_law_288 : decode cL_law 288 = .ok (.iload_n 3, 1) := by decide +kernel
theorem dL_law_289 : decode cL_law 289 = .ok (.iconst 3, 1) := by decide +kernel
theorem dL_law_290 : decode cL_law 290 = .ok (.iadd, 1) := by decide +kernel
theorem dL_law_291 : decode cL_law 291 = .ok (.iaload, 1) := by decide +kernel
theorem dL_law_292 : decode cL_law 292 = .ok (.invokevirtual 31, 3) := by decide +kernel
theorem dL_law_295 : decode cL_law 295 = .ok (.if_icmp .eq 1353, 3) := by decide +kernel
theorem dL_law_298 : decode cL_law 298 = .ok (.iconst 0, 1) := by decide +kernel
theorem dL_law_299 : decode cL_law 299 = .ok (.ireturn, 1) := by decide +kernel
theorem dL_law_300 : decode cL_law 300 = .ok (.aload_n 1, 1) := by decide +kernel
theorem dL_law_301 : decode cL_law 301 = .ok (.aload_n 0, 1) := by decide +kernel
theorem dL_law_302 : decode cL_law 302 = .ok (.iload_n 3, 1) := by decide +kernel
theorem dL_law_303 : decode cL_law 303 = .ok (.iconst 1, 1) := by decide +kernel
theorem dL_law_304 : decode cL_law 304 = .ok (.iadd, 1) := by decide +kernel
theorem dL_law_305 : decode cL_law 305 = .ok (.iaload, 1) := by decide +kernel
theorem dL_law_306 : decode cL_law 306 = .ok (.aload_n 0, 1) := by decide +kernel
theorem dL_law_307 : decode cL_law 307 = .ok (.iload_n 3, 1) := by decide +kernel
theorem dL_law_308 : decode cL_law 308 = .ok (.iconst 2, 1) := by decide +kernel
theorem dL_law_309 : decode cL_law 309 = .ok (.iadd, 1) := by decide +kernel
theorem dL_law_310 : decode cL_law 310 = .ok (.iaload, 1) := by decide +kernel
theorem dL_law_311 : decode cL_law 311 = .ok (.aload_n 0, 1) := by decide +kernel
theorem dL_law_312 : decode cL_law 312 = .ok (.iload_n 3, 1) := by decide +kernel
theorem dL_law_313 : decode cL_law 313 = .ok (.iconst 3, 1) := by decide +kernel
theorem dL_law_314 : decode cL_law 314 = .ok (.iadd, 1) := by decide +kernel
theorem dL_law_315 : decode cL_law 315 = .ok (.iaload, 1) := by decide +kernel
theorem dL_law_316 : decode cL_law 316 = .ok (.i2l, 1) := by decide +kernel
theorem dL_law_317 : decode cL_law 317 = .ok (.bipush 32, 2) := by decide +kernel
theorem dL_law_319 : decode cL_law 319 = .ok (.lshl, 1) := by decide +kernel
theorem dL_law_320 : decode cL_law 320 = .ok (.aload_n 0, 1) := by decide +kernel
theorem dL_law_321 : decode cL_law 321 = .ok (.iload_n 3, 1) := by decide +kernel
theorem dL_law_322 : decode cL_law 322 = .ok (.iconst 4, 1) := by decide +kernel
theorem dL_law_323 : decode cL_law 323 = .ok (.iadd, 1) := by decide +kernel
theorem dL_law_324 : decode cL_law 324 = .ok (.iaload, 1) := by decide +kernel
theorem dL_law_325 : decode cL_law 325 = .ok (.i2l, 1) := by decide +kernel
theorem dL_law_326 : decode cL_law 326 = .ok (.ldc2_w 32, 3) := by decide +kernel
theorem dL_law_329 : decode cL_law 329 = .ok (.land, 1) := by decide +kernel
theorem dL_law_330 : decode cL_law 330 = .ok (.lor, 1) := by decide +kernel
theorem dL_law_331 : decode cL_law 331 = .ok (.invokevirtual 34, 3) := by decide +kernel
theorem dL_law_334 : decode cL_law 334 = .ok (.aload_n 2, 1) := by decide +kernel
theorem dL_law_335 : decode cL_law 335 = .ok (.aload_n 0, 1) := by decide +kernel
theorem dL_law_336 : decode cL_law 336 = .ok (.iload_n 3, 1) := by decide +kernel
theorem dL_law_337 : decode cL_law 337 = .ok (.iconst 1, 1) := by decide +kernel
theorem dL_law_338 : decode cL_law 338 = .ok (.iadd, 1) := by decide +kernel
theorem dL_law_339 : decode cL_law 339 = .ok (.iaload, 1) := by decide +kernel
theorem dL_law_340 : decode cL_law 340 = .ok (.aload_n 0, 1) := by decide +kernel
theorem dL_law_341 : decode cL_law 341 = .ok (.iload_n 3, 1) := by decide +kernel
theorem dL_law_342 : decode cL_law 342 = .ok (.iconst 2, 1) := by decide +kernel
theorem dL_law_343 : decode cL_law 343 = .ok (.iadd, 1) := by decide +kernel
theorem dL_law_344 : decode cL_law 344 = .ok (.iaload, 1) := by decide +kernel
theorem dL_law_345 : decode cL_law 345 = .ok (.aload_n 0, 1) := by decide +kernel
theorem dL_law_346 : decode cL_law 346 = .ok (.iload_n 3, 1) := by decide +kernel
theorem dL_law_347 : decode cL_law 347 = .ok (.iconst 3, 1) := by decide +kernel
theorem dL_law_348 : decode cL_law 348 = .ok (.iadd, 1) := by decide +kernel
theorem dL_law_349 : decode cL_law 349 = .ok (.iaload, 1) := by decide +kernel
theorem dL_law_350 : decode cL_law 350 = .ok (.i2l, 1) := by decide +kernel
theorem dL_law_351 : decode cL_law 351 = .ok (.bipush 32, 2) := by decide +kernel
theorem dL_law_353 : decode cL_law 353 = .ok (.lshl, 1) := by decide +kernel
theorem dL_law_354 : decode cL_law 354 = .ok (.aload_n 0, 1) := by decide +kernel
theorem dL_law_355 : decode cL_law 355 = .ok (.iload_n 3, 1) := by decide +kernel
theorem dL_law_356 : decode cL_law 356 = .ok (.iconst 4, 1) := by decide +kernel
theorem dL_law_357 : decode cL_law 357 = .ok (.iadd, 1) := by decide +kernel
theorem dL_law_358 : decode cL_law 358 = .ok (.iaload, 1) := by decide +kernel
theorem dL_law_359 : decode cL_law 359 = .ok (.i2l, 1) := by decide +kernel
theorem dL_law_360 : decode cL_law 360 = .ok (.ldc2_w 32, 3) := by decide +kernel
theorem dL_law_363 : decode cL_law 363 = .ok (.land, 1) := by decide +kernel
theorem dL_law_364 : decode cL_law 364 = .ok (.lor, 1) := by decide +kernel
theorem dL_law_365 : decode cL_law 365 = .ok (.invokevirtual 38, 3) := by decide +kernel
theorem dL_law_368 : decode cL_law 368 = .ok (.if_icmp .eq 1280, 3) := by decide +kernel
theorem dL_law_371 : decode cL_law 371 = .ok (.iconst 0, 1) := by decide +kernel
theorem dL_law_372 : decode cL_law 372 = .ok (.ireturn, 1) := by decide +kernel
theorem dL_law_373 : decode cL_law 373 = .ok (.aload_n 1, 1) := by decide +kernel
theorem dL_law_374 : decode cL_law 374 = .ok (.aload_n 0, 1) := by decide +kernel
theorem dL_law_375 : decode cL_law 375 = .ok (.iload_n 3, 1) := by decide +kernel
theorem dL_law_376 : decode cL_law 376 = .ok (.iconst 1, 1) := by decide +kernel
theorem dL_law_377 : decode cL_law 377 = .ok (.iadd, 1) := by decide +kernel
theorem dL_law_378 : decode cL_law 378 = .ok (.iaload, 1) := by decide +kernel
theorem dL_law_379 : decode cL_law 379 = .ok (.aload_n 0, 1) := by decide +kernel
theorem dL_law_380 : decode cL_law 380 = .ok (.iload_n 3, 1) := by decide +kernel
theorem dL_law_381 : decode cL_law 381 = .ok (.iconst 2, 1) := by decide +kernel
theorem dL_law_382 : decode cL_law 382 = .ok (.iadd, 1) := by decide +kernel
theorem dL_law_383 : decode cL_law 383 = .ok (.iaload, 1) := by decide +kernel
theorem dL_law_384 : decode cL_law 384 = .ok (.invokevirtual 39, 3) := by decide +kernel
theorem dL_law_387 : decode cL_law 387 = .ok (.aload_n 2, 1) := by decide +kernel
theorem dL_law_388 : decode cL_law 388 = .ok (.aload_n 0, 1) := by decide +kernel
theorem dL_law_389 : decode cL_law 389 = .ok (.iload_n 3, 1) := by decide +kernel
theorem dL_law_390 : decode cL_law 390 = .ok (.iconst 1, 1) := by decide +kernel
theorem dL_law_391 : decode cL_law 391 = .ok (.iadd, 1) := by decide +kernel
theorem dL_law_392 : decode cL_law 392 = .ok (.iaload, 1) := by decide +kernel
theorem dL_law_393 : decode cL_law 393 = .ok (.aload_n 0, 1) := by decide +kernel
theorem dL_law_394 : decode cL_law 394 = .ok (.iload_n 3, 1) := by decide +kernel
theorem dL_law_395 : decode cL_law 395 = .ok (.iconst 2, 1) := by decide +kernel
theorem dL_law_396 : decode cL_law 396 = .ok (.iadd, 1) := by decide +kernel
theorem dL_law_397 : decode cL_law 397 = .ok (.iaload, 1) := by decide +kernel
theorem dL_law_398 : decode cL_law 398 = .ok (.invokevirtual 43, 3) := by decide +kernel
theorem dL_law_401 : decode cL_law 401 = .ok (.lcmp, 1) := by decide +kernel
theorem dL_law_402 : decode cL_law 402 = .ok (.ifCond .eq 1246, 3) := by decide +kernel
theorem dL_law_405 : decode cL_law 405 = .ok (.iconst 0, 1) := by decide +kernel
theorem dL_law_406 : decode cL_law 406 = .ok (.ireturn, 1) := by decide +kernel
theorem dL_law_407 : decode cL_law 407 = .ok (.aload_n 1, 1) := by decide +kernel
theorem dL_law_408 : decode cL_law 408 = .ok (.aload_n 0, 1) := by decide +kernel
theorem dL_law_409 : decode cL_law 409 = .ok (.iload_n 3, 1) := by decide +kernel
theorem dL_law_410 : decode cL_law 410 = .ok (.iconst 1, 1) := by decide +kernel
theorem dL_law_411 : decode cL_law 411 = .ok (.iadd, 1) := by decide +kernel
theorem dL_law_412 : decode cL_law 412 = .ok (.iaload, 1) := by decide +kernel
theorem dL_law_413 : decode cL_law 413 = .ok (.aload_n 0, 1) := by decide +kernel
theorem dL_law_414 : decode cL_law 414 = .ok (.iload_n 3, 1) := by decide +kernel
theorem dL_law_415 : decode cL_law 415 = .ok (.iconst 2, 1) := by decide +kernel
theorem dL_law_416 : decode cL_law 416 = .ok (.iadd, 1) := by decide +kernel
theorem dL_law_417 : decode cL_law 417 = .ok (.iaload, 1) := by decide +kernel
theorem dL_law_418 : decode cL_law 418 = .ok (.aload_n 0, 1) := by decide +kernel
theorem dL_law_419 : decode cL_law 419 = .ok (.iload_n 3, 1) := by decide +kernel
theorem dL_law_420 : decode cL_law 420 = .ok (.iconst 3, 1) := by decide +kernel
theorem dL_law_421 : decode cL_law 421 = .ok (.iadd, 1) := by decide +kernel
theorem dL_law_422 : decode cL_law 422 = .ok (.iaload, 1) := by decide +kernel
theorem dL_law_423 : decode cL_law 423 = .ok (.aload_n 0, 1) := by decide +kernel
theorem dL_law_424 : decode cL_law 424 = .ok (.iload_n 3, 1) := by decide +kernel
theorem dL_law_425 : decode cL_law 425 = .ok (.iconst 4, 1) := by decide +kernel
theorem dL_law_426 : decode cL_law 426 = .ok (.iadd, 1) := by decide +kernel
theorem dL_law_427 : decode cL_law 427 = .ok (.iaload, 1) := by decide +kernel
theorem dL_law_428 : decode cL_law 428 = .ok (.aload_n 0, 1) := by decide +kernel
theorem dL_law_429 : decode cL_law 429 = .ok (.iload_n 3, 1) := by decide +kernel
theorem dL_law_430 : decode cL_law 430 = .ok (.iconst 5, 1) := by decide +kernel
theorem dL_law_431 : decode cL_law 431 = .ok (.iadd, 1) := by decide +kernel
theorem dL_law_432 : decode cL_law 432 = .ok (.iaload, 1) := by decide +kernel
theorem dL_law_433 : decode cL_law 433 = .ok (.invokevirtual 44, 3) := by decide +kernel
theorem dL_law_436 : decode cL_law 436 = .ok (.aload_n 2, 1) := by decide +kernel
theorem dL_law_437 : decode cL_law 437 = .ok (.aload_n 0, 1) := by decide +kernel
theorem dL_law_438 : decode cL_law 438 = .ok (.iload_n 3, 1) := by decide +kernel
theorem dL_law_439 : decode cL_law 439 = .ok (.iconst 1, 1) := by decide +kernel
theorem dL_law_440 : decode cL_law 440 = .ok (.iadd, 1) := by decide +kernel
theorem dL_law_441 : decode cL_law 441 = .ok (.iaload, 1) := by decide +kernel
theorem dL_law_442 : decode cL_law 442 = .ok (.aload_n 0, 1) := by decide +kernel
theorem dL_law_443 : decode cL_law 443 = .ok (.iload_n 3, 1) := by decide +kernel
theorem dL_law_444 : decode cL_law 444 = .ok (.iconst 2, 1) := by decide +kernel
theorem dL_law_445 : decode cL_law 445 = .ok (.iadd, 1) := by decide +kernel
theorem dL_law_446 : decode cL_law 446 = .ok (.iaload, 1) := by decide +kernel
theorem dL_law_447 : decode cL_law 447 = .ok (.aload_n 0, 1) := by decide +kernel
theorem dL_law_448 : decode cL_law 448 = .ok (.iload_n 3, 1) := by decide +kernel
theorem dL_law_449 : decode cL_law 449 = .ok (.iconst 3, 1) := by decide +kernel
theorem dL_law_450 : decode cL_law 450 = .ok (.iadd, 1) := by decide +kernel
theorem dL_law_451 : decode cL_law 451 = .ok (.iaload, 1) := by decide +kernel
theorem dL_law_452 : decode cL_law 452 = .ok (.aload_n 0, 1) := by decide +kernel
theorem dL_law_453 : decode cL_law 453 = .ok (.iload_n 3, 1) := by decide +kernel
theorem dL_law_454 : decode cL_law 454 = .ok (.iconst 4, 1) := by decide +kernel
theorem dL_law_455 : decode cL_law 455 = .ok (.iadd, 1) := by decide +kernel
theorem dL_law_456 : decode cL_law 456 = .ok (.iaload, 1) := by decide +kernel
theorem dL_law_457 : decode cL_law 457 = .ok (.aload_n 0, 1) := by decide +kernel
theorem dL_law_458 : decode cL_law 458 = .ok (.iload_n 3, 1) := by decide +kernel
theorem dL_law_459 : decode cL_law 459 = .ok (.iconst 5, 1) := by decide +kernel
theorem dL_law_460 : decode cL_law 460 = .ok (.iadd, 1) := by decide +kernel
theorem dL_law_461 : decode cL_law 461 = .ok (.iaload, 1) := by decide +kernel
theorem dL_law_462 : decode cL_law 462 = .ok (.invokevirtual 48, 3) := by decide +kernel
theorem dL_law_465 : decode cL_law 465 = .ok (.if_icmp .eq 1183, 3) := by decide +kernel
theorem dL_law_468 : decode cL_law 468 = .ok (.iconst 0, 1) := by decide +kernel
theorem dL_law_469 : decode cL_law 469 = .ok (.ireturn, 1) := by decide +kernel
theorem dL_law_470 : decode cL_law 470 = .ok (.aload_n 1, 1) := by decide +kernel
theorem dL_law_471 : decode cL_law 471 = .ok (.aload_n 0, 1) := by decide +kernel
theorem dL_law_472 : decode cL_law 472 = .ok (.iload_n 3, 1) := by decide +kernel
theorem dL_law_473 : decode cL_law 473 = .ok (.iconst 1, 1) := by decide +kernel
theorem dL_law_474 : decode cL_law 474 = .ok (.iadd, 1) := by decide +kernel
theorem dL_law_475 : decode cL_law 475 = .ok (.iaload, 1) := by decide +kernel
theorem dL_law_476 : decode cL_law 476 = .ok (.aload_n 0, 1) := by decide +kernel
theorem dL_law_477 : decode cL_law 477 = .ok (.iload_n 3, 1) := by decide +kernel
theorem dL_law_478 : decode cL_law 478 = .ok (.iconst 2, 1) := by decide +kernel
theorem dL_law_479 : decode cL_law 479 = .ok (.iadd, 1) := by decide +kernel
theorem dL_law_480 : decode cL_law 480 = .ok (.iaload, 1) := by decide +kernel
theorem dL_law_481 : decode cL_law 481 = .ok (.aload_n 0, 1) := by decide +kernel
theorem dL_law_482 : decode cL_law 482 = .ok (.iload_n 3, 1) := by decide +kernel
theorem dL_law_483 : decode cL_law 483 = .ok (.iconst 3, 1) := by decide +kernel
theorem dL_law_484 : decode cL_law 484 = .ok (.iadd, 1) := by decide +kernel
theorem dL_law_485 : decode cL_law 485 = .ok (.iaload, 1) := by decide +kernel
theorem dL_law_486 : decode cL_law 486 = .ok (.aload_n 0, 1) := by decide +kernel
theorem dL_law_487 : decode cL_law 487 = .ok (.iload_n 3, 1) := by decide +kernel
theorem dL_law_488 : decode cL_law 488 = .ok (.iconst 4, 1) := by decide +kernel
theorem dL_law_489 : decode cL_law 489 = .ok (.iadd, 1) := by decide +kernel
theorem dL_law_490 : decode cL_law 490 = .ok (.iaload, 1) := by decide +kernel
theorem dL_law_491 : decode cL_law 491 = .ok (.aload_n 0, 1) := by decide +kernel
theorem dL_law_492 : decode cL_law 492 = .ok (.iload_n 3, 1) := by decide +kernel
theorem dL_law_493 : decode cL_law 493 = .ok (.iconst 5, 1) := by decide +kernel
theorem dL_law_494 : decode cL_law 494 = .ok (.iadd, 1) := by decide +kernel
theorem dL_law_495 : decode cL_law 495 = .ok (.iaload, 1) := by decide +kernel
theorem dL_law_496 : decode cL_law 496 = .ok (.invokevirtual 49, 3) := by decide +kernel
theorem dL_law_499 : decode cL_law 499 = .ok (.aload_n 2, 1) := by decide +kernel
theorem dL_law_500 : decode cL_law 500 = .ok (.aload_n 0, 1) := by decide +kernel
theorem dL_law_501 : decode cL_law 501 = .ok (.iload_n 3, 1) := by decide +kernel
theorem dL_law_502 : decode cL_law 502 = .ok (.iconst 1, 1) := by decide +kernel
theorem dL_law_503 : decode cL_law 503 = .ok (.iadd, 1) := by decide +kernel
theorem dL_law_504 : decode cL_law 504 = .ok (.iaload, 1) := by decide +kernel
theorem dL_law_505 : decode cL_law 505 = .ok (.aload_n 0, 1) := by decide +kernel
theorem dL_law_506 : decode cL_law 506 = .ok (.iload_n 3, 1) := by decide +kernel
theorem dL_law_507 : decode cL_law 507 = .ok (.iconst 2, 1) := by decide +kernel
theorem dL_law_508 : decode cL_law 508 = .ok (.iadd, 1) := by decide +kernel
theorem dL_law_509 : decode cL_law 509 = .ok (.iaload, 1) := by decide +kernel
theorem dL_law_510 : decode cL_law 510 = .ok (.aload_n 0, 1) := by decide +kernel
theorem dL_law_511 : decode cL_law 511 = .ok (.iload_n 3, 1) := by decide +kernel
theorem dL_law_512 : decode cL_law 512 = .ok (.iconst 3, 1) := by decide +kernel
theorem dL_law_513 : decode cL_law 513 = .ok (.iadd, 1) := by decide +kernel
theorem dL_law_514 : decode cL_law 514 = .ok (.iaload, 1) := by decide +kernel
theorem dL_law_515 : decode cL_law 515 = .ok (.aload_n 0, 1) := by decide +kernel
theorem dL_law_516 : decode cL_law 516 = .ok (.iload_n 3, 1) := by decide +kernel
theorem dL_law_517 : decode cL_law 517 = .ok (.iconst 4, 1) := by decide +kernel
theorem dL_law_518 : decode cL_law 518 = .ok (.iadd, 1) := by decide +kernel
theorem dL_law_519 : decode cL_law 519 = .ok (.iaload, 1) := by decide +kernel
theorem dL_law_520 : decode cL_law 520 = .ok (.aload_n 0, 1) := by decide +kernel
theorem dL_law_521 : decode cL_law 521 = .ok (.iload_n 3, 1) := by decide +kernel
theorem dL_law_522 : decode cL_law 522 = .ok (.iconst 5, 1) := by decide +kernel
theorem dL_law_523 : decode cL_law 523 = .ok (.iadd, 1) := by decide +kernel
theorem dL_law_524 : decode cL_law 524 = .ok (.iaload, 1) := by decide +kernel
theorem dL_law_525 : decode cL_law 525 = .ok (.invokevirtual 53, 3) := by decide +kernel
theorem dL_law_528 : decode cL_law 528 = .ok (.if_icmp .eq 1120, 3) := by decide +kernel
theorem dL_law_531 : decode cL_law 531 = .ok (.iconst 0, 1) := by decide +kernel
theorem dL_law_532 : decode cL_law 532 = .ok (.ireturn, 1) := by decide +kernel
theorem dL_law_533 : decode cL_law 533 = .ok (.aload_n 1, 1) := by decide +kernel
theorem dL_law_534 : decode cL_law 534 = .ok (.aload_n 0, 1) := by decide +kernel
theorem dL_law_535 : decode cL_law 535 = .ok (.iload_n 3, 1) := by decide +kernel
theorem dL_law_536 : decode cL_law 536 = .ok (.iconst 1, 1) := by decide +kernel
theorem dL_law_537 : decode cL_law 537 = .ok (.iadd, 1) := by decide +kernel
theorem dL_law_538 : decode cL_law 538 = .ok (.iaload, 1) := by decide +kernel
theorem dL_law_539 : decode cL_law 539 = .ok (.invokevirtual 54, 3) := by decide +kernel
theorem dL_law_542 : decode cL_law 542 = .ok (.aload_n 2, 1) := by decide +kernel
theorem dL_law_543 : decode cL_law 543 = .ok (.aload_n 0, 1) := by decide +kernel
theorem dL_law_544 : decode cL_law 544 = .ok (.iload_n 3, 1) := by decide +kernel
theorem dL_law_545 : decode cL_law 545 = .ok (.iconst 1, 1) := by decide +kernel
theorem dL_law_546 : decode cL_law 546 = .ok (.iadd, 1) := by decide +kernel
theorem dL_law_547 : decode cL_law 547 = .ok (.iaload, 1) := by decide +kernel
theorem dL_law_548 : decode cL_law 548 = .ok (.invokevirtual 58, 3) := by decide +kernel
theorem dL_law_551 : decode cL_law 551 = .ok (.if_icmp .eq 1097, 3) := by decide +kernel
theorem dL_law_554 : decode cL_law 554 = .ok (.iconst 0, 1) := by decide +kernel
theorem dL_law_555 : decode cL_law 555 = .ok (.ireturn, 1) := by decide +kernel
theorem dL_law_556 : decode cL_law 556 = .ok (.aload_n 1, 1) := by decide +kernel
theorem dL_law_557 : decode cL_law 557 = .ok (.aload_n 0, 1) := by decide +kernel
theorem dL_law_558 : decode cL_law 558 = .ok (.iload_n 3, 1) := by decide +kernel
theorem dL_law_559 : decode cL_law 559 = .ok (.iconst 1, 1) := by decide +kernel
theorem dL_law_560 : decode cL_law 560 = .ok (.iadd, 1) := by decide +kernel
theorem dL_law_561 : decode cL_law 561 = .ok (.iaload, 1) := by decide +kernel
theorem dL_law_562 : decode cL_law 562 = .ok (.invokevirtual 59, 3) := by decide +kernel
theorem dL_law_565 : decode cL_law 565 = .ok (.aload_n 2, 1) := by decide +kernel
theorem dL_law_566 : decode cL_law 566 = .ok (.aload_n 0, 1) := by decide +kernel
theorem dL_law_567 : decode cL_law 567 = .ok (.iload_n 3, 1) := by decide +kernel
theorem dL_law_568 : decode cL_law 568 = .ok (.iconst 1, 1) := by decide +kernel
theorem dL_law_569 : decode cL_law 569 = .ok (.iadd, 1) := by decide +kernel
theorem dL_law_570 : decode cL_law 570 = .ok (.iaload, 1) := by decide +kernel
theorem dL_law_571 : decode cL_law 571 = .ok (.invokevirtual 62, 3) := by decide +kernel
theorem dL_law_574 : decode cL_law 574 = .ok (.if_icmp .eq 1074, 3) := by decide +kernel
theorem dL_law_577 : decode cL_law 577 = .ok (.iconst 0, 1) := by decide +kernel
theorem dL_law_578 : decode cL_law 578 = .ok (.ireturn, 1) := by decide +kernel
theorem dL_law_579 : decode cL_law 579 = .ok (.aload_n 1, 1) := by decide +kernel
theorem dL_law_580 : decode cL_law 580 = .ok (.aload_n 0, 1) := by decide +kernel
theorem dL_law_581 : decode cL_law 581 = .ok (.iload_n 3, 1) := by decide +kernel
theorem dL_law_582 : decode cL_law 582 = .ok (.iconst 1, 1) := by decide +kernel
theorem dL_law_583 : decode cL_law 583 = .ok (.iadd, 1) := by decide +kernel
theorem dL_law_584 : decode cL_law 584 = .ok (.iaload, 1) := by decide +kernel
theorem dL_law_585 : decode cL_law 585 = .ok (.invokevirtual 63, 3) := by decide +kernel
theorem dL_law_588 : decode cL_law 588 = .ok (.aload_n 2, 1) := by decide +kernel
theorem dL_law_589 : decode cL_law 589 = .ok (.aload_n 0, 1) := by decide +kernel
theorem dL_law_590 : decode cL_law 590 = .ok (.iload_n 3, 1) := by decide +kernel
theorem dL_law_591 : decode cL_law 591 = .ok (.iconst 1, 1) := by decide +kernel
theorem dL_law_592 : decode cL_law 592 = .ok (.iadd, 1) := by decide +kernel
theorem dL_law_593 : decode cL_law 593 = .ok (.iaload, 1) := by decide +kernel
theorem dL_law_594 : decode cL_law 594 = .ok (.invokevirtual 66, 3) := by decide +kernel
theorem dL_law_597 : decode cL_law 597 = .ok (.if_icmp .eq 1051, 3) := by decide +kernel
theorem dL_law_600 : decode cL_law 600 = .ok (.iconst 0, 1) := by decide +kernel
theorem dL_law_601 : decode cL_law 601 = .ok (.ireturn, 1) := by decide +kernel
theorem dL_law_602 : decode cL_law 602 = .ok (.aload_n 1, 1) := by decide +kernel
theorem dL_law_603 : decode cL_law 603 = .ok (.aload_n 0, 1) := by decide +kernel
theorem dL_law_604 : decode cL_law 604 = .ok (.iload_n 3, 1) := by decide +kernel
theorem dL_law_605 : decode cL_law 605 = .ok (.iconst 1, 1) := by decide +kernel
theorem dL_law_606 : decode cL_law 606 = .ok (.iadd, 1) := by decide +kernel
theorem dL_law_607 : decode cL_law 607 = .ok (.iaload, 1) := by decide +kernel
theorem dL_law_608 : decode cL_law 608 = .ok (.aload_n 0, 1) := by decide +kernel
theorem dL_law_609 : decode cL_law 609 = .ok (.iload_n 3, 1) := by decide +kernel
theorem dL_law_610 : decode cL_law 610 = .ok (.iconst 2, 1) := by decide +kernel
theorem dL_law_611 : decode cL_law 611 = .ok (.iadd, 1) := by decide +kernel
theorem dL_law_612 : decode cL_law 612 = .ok (.iaload, 1) := by decide +kernel
theorem dL_law_613 : decode cL_law 613 = .ok (.invokevirtual 67, 3) := by decide +kernel
theorem dL_law_616 : decode cL_law 616 = .ok (.aload_n 2, 1) := by decide +kernel
theorem dL_law_617 : decode cL_law 617 = .ok (.aload_n 0, 1) := by decide +kernel
theorem dL_law_618 : decode cL_law 618 = .ok (.iload_n 3, 1) := by decide +kernel
theorem dL_law_619 : decode cL_law 619 = .ok (.iconst 1, 1) := by decide +kernel
theorem dL_law_620 : decode cL_law 620 = .ok (.iadd, 1) := by decide +kernel
theorem dL_law_621 : decode cL_law 621 = .ok (.iaload, 1) := by decide +kernel
theorem dL_law_622 : decode cL_law 622 = .ok (.aload_n 0, 1) := by decide +kernel
theorem dL_law_623 : decode cL_law 623 = .ok (.iload_n 3, 1) := by decide +kernel
theorem dL_law_624 : decode cL_law 624 = .ok (.iconst 2, 1) := by decide +kernel
theorem dL_law_625 : decode cL_law 625 = .ok (.iadd, 1) := by decide +kernel
theorem dL_law_626 : decode cL_law 626 = .ok (.iaload, 1) := by decide +kernel
theorem dL_law_627 : decode cL_law 627 = .ok (.invokevirtual 71, 3) := by decide +kernel
theorem dL_law_630 : decode cL_law 630 = .ok (.if_icmp .eq 1018, 3) := by decide +kernel
theorem dL_law_633 : decode cL_law 633 = .ok (.iconst 0, 1) := by decide +kernel
theorem dL_law_634 : decode cL_law 634 = .ok (.ireturn, 1) := by decide +kernel
theorem dL_law_635 : decode cL_law 635 = .ok (.aload_n 1, 1) := by decide +kernel
theorem dL_law_636 : decode cL_law 636 = .ok (.aload_n 0, 1) := by decide +kernel
theorem dL_law_637 : decode cL_law 637 = .ok (.iload_n 3, 1) := by decide +kernel
theorem dL_law_638 : decode cL_law 638 = .ok (.iconst 1, 1) := by decide +kernel
theorem dL_law_639 : decode cL_law 639 = .ok (.iadd, 1) := by decide +kernel
theorem dL_law_640 : decode cL_law 640 = .ok (.iaload, 1) := by decide +kernel
theorem dL_law_641 : decode cL_law 641 = .ok (.aload_n 0, 1) := by decide +kernel
theorem dL_law_642 : decode cL_law 642 = .ok (.iload_n 3, 1) := by decide +kernel
theorem dL_law_643 : decode cL_law 643 = .ok (.iconst 2, 1) := by decide +kernel
theorem dL_law_644 : decode cL_law 644 = .ok (.iadd, 1) := by decide +kernel
theorem dL_law_645 : decode cL_law 645 = .ok (.iaload, 1) := by decide +kernel
theorem dL_law_646 : decode cL_law 646 = .ok (.invokevirtual 72, 3) := by decide +kernel
theorem dL_law_649 : decode cL_law 649 = .ok (.aload_n 2, 1) := by decide +kernel
theorem dL_law_650 : decode cL_law 650 = .ok (.aload_n 0, 1) := by decide +kernel
theorem dL_law_651 : decode cL_law 651 = .ok (.iload_n 3, 1) := by decide +kernel
theorem dL_law_652 : decode cL_law 652 = .ok (.iconst 1, 1) := by decide +kernel
theorem dL_law_653 : decode cL_law 653 = .ok (.iadd, 1) := by decide +kernel
theorem dL_law_654 : decode cL_law 654 = .ok (.iaload, 1) := by decide +kernel
theorem dL_law_655 : decode cL_law 655 = .ok (.aload_n 0, 1) := by decide +kernel
theorem dL_law_656 : decode cL_law 656 = .ok (.iload_n 3, 1) := by decide +kernel
theorem dL_law_657 : decode cL_law 657 = .ok (.iconst 2, 1) := by decide +kernel
theorem dL_law_658 : decode cL_law 658 = .ok (.iadd, 1) := by decide +kernel
theorem dL_law_659 : decode cL_law 659 = .ok (.iaload, 1) := by decide +kernel
theorem dL_law_660 : decode cL_law 660 = .ok (.invokevirtual 75, 3) := by decide +kernel
theorem dL_law_663 : decode cL_law 663 = .ok (.if_icmp .eq 985, 3) := by decide +kernel
theorem dL_law_666 : decode cL_law 666 = .ok (.iconst 0, 1) := by decide +kernel
theorem dL_law_667 : decode cL_law 667 = .ok (.ireturn, 1) := by decide +kernel
theorem dL_law_668 : decode cL_law 668 = .ok (.aload_n 1, 1) := by decide +kernel
theorem dL_law_669 : decode cL_law 669 = .ok (.aload_n 0, 1) := by decide +kernel
theorem dL_law_670 : decode cL_law 670 = .ok (.iload_n 3, 1) := by decide +kernel
theorem dL_law_671 : decode cL_law 671 = .ok (.iconst 1, 1) := by decide +kernel
theorem dL_law_672 : decode cL_law 672 = .ok (.iadd, 1) := by decide +kernel
theorem dL_law_673 : decode cL_law 673 = .ok (.iaload, 1) := by decide +kernel
theorem dL_law_674 : decode cL_law 674 = .ok (.aload_n 0, 1) := by decide +kernel
theorem dL_law_675 : decode cL_law 675 = .ok (.iload_n 3, 1) := by decide +kernel
theorem dL_law_676 : decode cL_law 676 = .ok (.iconst 2, 1) := by decide +kernel
theorem dL_law_677 : decode cL_law 677 = .ok (.iadd, 1) := by decide +kernel
theorem dL_law_678 : decode cL_law 678 = .ok (.iaload, 1) := by decide +kernel
theorem dL_law_679 : decode cL_law 679 = .ok (.invokevirtual 76, 3) := by decide +kernel
theorem dL_law_682 : decode cL_law 682 = .ok (.aload_n 2, 1) := by decide +kernel
theorem dL_law_683 : decode cL_law 683 = .ok (.aload_n 0, 1) := by decide +kernel
theorem dL_law_684 : decode cL_law 684 = .ok (.iload_n 3, 1) := by decide +kernel
theorem dL_law_685 : decode cL_law 685 = .ok (.iconst 1, 1) := by decide +kernel
theorem dL_law_686 : decode cL_law 686 = .ok (.iadd, 1) := by decide +kernel
theorem dL_law_687 : decode cL_law 687 = .ok (.iaload, 1) := by decide +kernel
theorem dL_law_688 : decode cL_law 688 = .ok (.aload_n 0, 1) := by decide +kernel
theorem dL_law_689 : decode cL_law 689 = .ok (.iload_n 3, 1) := by decide +kernel
theorem dL_law_690 : decode cL_law 690 = .ok (.iconst 2, 1) := by decide +kernel
theorem dL_law_691 : decode cL_law 691 = .ok (.iadd, 1) := by decide +kernel
theorem dL_law_692 : decode cL_law 692 = .ok (.iaload, 1) := by decide +kernel
theorem dL_law_693 : decode cL_law 693 = .ok (.invokevirtual 79, 3) := by decide +kernel
theorem dL_law_696 : decode cL_law 696 = .ok (.if_icmp .eq 952, 3) := by decide +kernel
theorem dL_law_699 : decode cL_law 699 = .ok (.iconst 0, 1) := by decide +kernel
theorem dL_law_700 : decode cL_law 700 = .ok (.ireturn, 1) := by decide +kernel
theorem dL_law_701 : decode cL_law 701 = .ok (.aload_n 1, 1) := by decide +kernel
theorem dL_law_702 : decode cL_law 702 = .ok (.aload_n 0, 1) := by decide +kernel
theorem dL_law_703 : decode cL_law 703 = .ok (.iload_n 3, 1) := by decide +kernel
theorem dL_law_704 : decode cL_law 704 = .ok (.iconst 1, 1) := by decide +kernel
theorem dL_law_705 : decode cL_law 705 = .ok (.iadd, 1) := by decide +kernel
theorem dL_law_706 : decode cL_law 706 = .ok (.iaload, 1) := by decide +kernel
theorem dL_law_707 : decode cL_law 707 = .ok (.aload_n 0, 1) := by decide +kernel
theorem dL_law_708 : decode cL_law 708 = .ok (.iload_n 3, 1) := by decide +kernel
theorem dL_law_709 : decode cL_law 709 = .ok (.iconst 2, 1) := by decide +kernel
theorem dL_law_710 : decode cL_law 710 = .ok (.iadd, 1) := by decide +kernel
theorem dL_law_711 : decode cL_law 711 = .ok (.iaload, 1) := by decide +kernel
theorem dL_law_712 : decode cL_law 712 = .ok (.invokevirtual 80, 3) := by decide +kernel
theorem dL_law_715 : decode cL_law 715 = .ok (.aload_n 2, 1) := by decide +kernel
theorem dL_law_716 : decode cL_law 716 = .ok (.aload_n 0, 1) := by decide +kernel
theorem dL_law_717 : decode cL_law 717 = .ok (.iload_n 3, 1) := by decide +kernel
theorem dL_law_718 : decode cL_law 718 = .ok (.iconst 1, 1) := by decide +kernel
theorem dL_law_719 : decode cL_law 719 = .ok (.iadd, 1) := by decide +kernel
theorem dL_law_720 : decode cL_law 720 = .ok (.iaload, 1) := by decide +kernel
theorem dL_law_721 : decode cL_law 721 = .ok (.aload_n 0, 1) := by decide +kernel
theorem dL_law_722 : decode cL_law 722 = .ok (.iload_n 3, 1) := by decide +kernel
theorem dL_law_723 : decode cL_law 723 = .ok (.iconst 2, 1) := by decide +kernel
theorem dL_law_724 : decode cL_law 724 = .ok (.iadd, 1) := by decide +kernel
theorem dL_law_725 : decode cL_law 725 = .ok (.iaload, 1) := by decide +kernel
theorem dL_law_726 : decode cL_law 726 = .ok (.invokevirtual 84, 3) := by decide +kernel
theorem dL_law_729 : decode cL_law 729 = .ok (.if_icmp .eq 919, 3) := by decide +kernel
theorem dL_law_732 : decode cL_law 732 = .ok (.iconst 0, 1) := by decide +kernel
theorem dL_law_733 : decode cL_law 733 = .ok (.ireturn, 1) := by decide +kernel
theorem dL_law_734 : decode cL_law 734 = .ok (.aload_n 1, 1) := by decide +kernel
theorem dL_law_735 : decode cL_law 735 = .ok (.aload_n 0, 1) := by decide +kernel
theorem dL_law_736 : decode cL_law 736 = .ok (.iload_n 3, 1) := by decide +kernel
theorem dL_law_737 : decode cL_law 737 = .ok (.iconst 1, 1) := by decide +kernel
theorem dL_law_738 : decode cL_law 738 = .ok (.iadd, 1) := by decide +kernel
theorem dL_law_739 : decode cL_law 739 = .ok (.iaload, 1) := by decide +kernel
theorem dL_law_740 : decode cL_law 740 = .ok (.aload_n 0, 1) := by decide +kernel
theorem dL_law_741 : decode cL_law 741 = .ok (.iload_n 3, 1) := by decide +kernel
theorem dL_law_742 : decode cL_law 742 = .ok (.iconst 2, 1) := by decide +kernel
theorem dL_law_743 : decode cL_law 743 = .ok (.iadd, 1) := by decide +kernel
theorem dL_law_744 : decode cL_law 744 = .ok (.iaload, 1) := by decide +kernel
theorem dL_law_745 : decode cL_law 745 = .ok (.invokevirtual 85, 3) := by decide +kernel
theorem dL_law_748 : decode cL_law 748 = .ok (.aload_n 2, 1) := by decide +kernel
theorem dL_law_749 : decode cL_law 749 = .ok (.aload_n 0, 1) := by decide +kernel
theorem dL_law_750 : decode cL_law 750 = .ok (.iload_n 3, 1) := by decide +kernel
theorem dL_law_751 : decode cL_law 751 = .ok (.iconst 1, 1) := by decide +kernel
theorem dL_law_752 : decode cL_law 752 = .ok (.iadd, 1) := by decide +kernel
theorem dL_law_753 : decode cL_law 753 = .ok (.iaload, 1) := by decide +kernel
theorem dL_law_754 : decode cL_law 754 = .ok (.aload_n 0, 1) := by decide +kernel
theorem dL_law_755 : decode cL_law 755 = .ok (.iload_n 3, 1) := by decide +kernel
theorem dL_law_756 : decode cL_law 756 = .ok (.iconst 2, 1) := by decide +kernel
theorem dL_law_757 : decode cL_law 757 = .ok (.iadd, 1) := by decide +kernel
theorem dL_law_758 : decode cL_law 758 = .ok (.iaload, 1) := by decide +kernel
theorem dL_law_759 : decode cL_law 759 = .ok (.invokevirtual 88, 3) := by decide +kernel
theorem dL_law_762 : decode cL_law 762 = .ok (.if_icmp .eq 886, 3) := by decide +kernel
theorem dL_law_765 : decode cL_law 765 = .ok (.iconst 0, 1) := by decide +kernel
theorem dL_law_766 : decode cL_law 766 = .ok (.ireturn, 1) := by decide +kernel
theorem dL_law_767 : decode cL_law 767 = .ok (.aload_n 1, 1) := by decide +kernel
theorem dL_law_768 : decode cL_law 768 = .ok (.aload_n 0, 1) := by decide +kernel
theorem dL_law_769 : decode cL_law 769 = .ok (.iload_n 3, 1) := by decide +kernel
theorem dL_law_770 : decode cL_law 770 = .ok (.iconst 1, 1) := by decide +kernel
theorem dL_law_771 : decode cL_law 771 = .ok (.iadd, 1) := by decide +kernel
theorem dL_law_772 : decode cL_law 772 = .ok (.iaload, 1) := by decide +kernel
theorem dL_law_773 : decode cL_law 773 = .ok (.aload_n 0, 1) := by decide +kernel
theorem dL_law_774 : decode cL_law 774 = .ok (.iload_n 3, 1) := by decide +kernel
theorem dL_law_775 : decode cL_law 775 = .ok (.iconst 2, 1) := by decide +kernel
theorem dL_law_776 : decode cL_law 776 = .ok (.iadd, 1) := by decide +kernel
theorem dL_law_777 : decode cL_law 777 = .ok (.iaload, 1) := by decide +kernel
theorem dL_law_778 : decode cL_law 778 = .ok (.invokevirtual 89, 3) := by decide +kernel
theorem dL_law_781 : decode cL_law 781 = .ok (.aload_n 2, 1) := by decide +kernel
theorem dL_law_782 : decode cL_law 782 = .ok (.aload_n 0, 1) := by decide +kernel
theorem dL_law_783 : decode cL_law 783 = .ok (.iload_n 3, 1) := by decide +kernel
theorem dL_law_784 : decode cL_law 784 = .ok (.iconst 1, 1) := by decide +kernel
theorem dL_law_785 : decode cL_law 785 = .ok (.iadd, 1) := by decide +kernel
theorem dL_law_786 : decode cL_law 786 = .ok (.iaload, 1) := by decide +kernel
theorem dL_law_787 : decode cL_law 787 = .ok (.aload_n 0, 1) := by decide +kernel
theorem dL_law_788 : decode cL_law 788 = .ok (.iload_n 3, 1) := by decide +kernel
theorem dL_law_789 : decode cL_law 789 = .ok (.iconst 2, 1) := by decide +kernel
theorem dL_law_790 : decode cL_law 790 = .ok (.iadd, 1) := by decide +kernel
theorem dL_law_791 : decode cL_law 791 = .ok (.iaload, 1) := by decide +kernel
theorem dL_law_792 : decode cL_law 792 = .ok (.invokevirtual 92, 3) := by decide +kernel
theorem dL_law_795 : decode cL_law 795 = .ok (.if_icmp .eq 853, 3) := by decide +kernel
theorem dL_law_798 : decode cL_law 798 = .ok (.iconst 0, 1) := by decide +kernel
theorem dL_law_799 : decode cL_law 799 = .ok (.ireturn, 1) := by decide +kernel
theorem dL_law_800 : decode cL_law 800 = .ok (.aload_n 1, 1) := by decide +kernel
theorem dL_law_801 : decode cL_law 801 = .ok (.aload_n 0, 1) := by decide +kernel
theorem dL_law_802 : decode cL_law 802 = .ok (.iload_n 3, 1) := by decide +kernel
theorem dL_law_803 : decode cL_law 803 = .ok (.iconst 1, 1) := by decide +kernel
theorem dL_law_804 : decode cL_law 804 = .ok (.iadd, 1) := by decide +kernel
theorem dL_law_805 : decode cL_law 805 = .ok (.iaload, 1) := by decide +kernel
theorem dL_law_806 : decode cL_law 806 = .ok (.invokevirtual 93, 3) := by decide +kernel
theorem dL_law_809 : decode cL_law 809 = .ok (.aload_n 2, 1) := by decide +kernel
theorem dL_law_810 : decode cL_law 810 = .ok (.aload_n 0, 1) := by decide +kernel
theorem dL_law_811 : decode cL_law 811 = .ok (.iload_n 3, 1) := by decide +kernel
theorem dL_law_812 : decode cL_law 812 = .ok (.iconst 1, 1) := by decide +kernel
theorem dL_law_813 : decode cL_law 813 = .ok (.iadd, 1) := by decide +kernel
theorem dL_law_814 : decode cL_law 814 = .ok (.iaload, 1) := by decide +kernel
theorem dL_law_815 : decode cL_law 815 = .ok (.invokevirtual 97, 3) := by decide +kernel
theorem dL_law_818 : decode cL_law 818 = .ok (.lcmp, 1) := by decide +kernel
theorem dL_law_819 : decode cL_law 819 = .ok (.ifCond .eq 829, 3) := by decide +kernel
theorem dL_law_822 : decode cL_law 822 = .ok (.iconst 0, 1) := by decide +kernel
theorem dL_law_823 : decode cL_law 823 = .ok (.ireturn, 1) := by decide +kernel
theorem dL_law_824 : decode cL_law 824 = .ok (.aload_n 1, 1) := by decide +kernel
theorem dL_law_825 : decode cL_law 825 = .ok (.aload_n 0, 1) := by decide +kernel
theorem dL_law_826 : decode cL_law 826 = .ok (.iload_n 3, 1) := by decide +kernel
theorem dL_law_827 : decode cL_law 827 = .ok (.iconst 1, 1) := by decide +kernel
theorem dL_law_828 : decode cL_law 828 = .ok (.iadd, 1) := by decide +kernel
theorem dL_law_829 : decode cL_law 829 = .ok (.iaload, 1) := by decide +kernel
theorem dL_law_830 : decode cL_law 830 = .ok (.aload_n 0, 1) := by decide +kernel
theorem dL_law_831 : decode cL_law 831 = .ok (.iload_n 3, 1) := by decide +kernel
theorem dL_law_832 : decode cL_law 832 = .ok (.iconst 2, 1) := by decide +kernel
theorem dL_law_833 : decode cL_law 833 = .ok (.iadd, 1) := by decide +kernel
theorem dL_law_834 : decode cL_law 834 = .ok (.iaload, 1) := by decide +kernel
theorem dL_law_835 : decode cL_law 835 = .ok (.invokevirtual 98, 3) := by decide +kernel
theorem dL_law_838 : decode cL_law 838 = .ok (.aload_n 2, 1) := by decide +kernel
theorem dL_law_839 : decode cL_law 839 = .ok (.aload_n 0, 1) := by decide +kernel
theorem dL_law_840 : decode cL_law 840 = .ok (.iload_n 3, 1) := by decide +kernel
theorem dL_law_841 : decode cL_law 841 = .ok (.iconst 1, 1) := by decide +kernel
theorem dL_law_842 : decode cL_law 842 = .ok (.iadd, 1) := by decide +kernel
theorem dL_law_843 : decode cL_law 843 = .ok (.iaload, 1) := by decide +kernel
theorem dL_law_844 : decode cL_law 844 = .ok (.aload_n 0, 1) := by decide +kernel
theorem dL_law_845 : decode cL_law 845 = .ok (.iload_n 3, 1) := by decide +kernel
theorem dL_law_846 : decode cL_law 846 = .ok (.iconst 2, 1) := by decide +kernel
theorem dL_law_847 : decode cL_law 847 = .ok (.iadd, 1) := by decide +kernel
theorem dL_law_848 : decode cL_law 848 = .ok (.iaload, 1) := by decide +kernel
theorem dL_law_849 : decode cL_law 849 = .ok (.invokevirtual 101, 3) := by decide +kernel
theorem dL_law_852 : decode cL_law 852 = .ok (.if_icmp .eq 796, 3) := by decide +kernel
theorem dL_law_855 : decode cL_law 855 = .ok (.iconst 0, 1) := by decide +kernel
theorem dL_law_856 : decode cL_law 856 = .ok (.ireturn, 1) := by decide +kernel
theorem dL_law_857 : decode cL_law 857 = .ok (.aload_n 1, 1) := by decide +kernel
theorem dL_law_858 : decode cL_law 858 = .ok (.aload_n 0, 1) := by decide +kernel
theorem dL_law_859 : decode cL_law 859 = .ok (.iload_n 3, 1) := by decide +kernel
theorem dL_law_860 : decode cL_law 860 = .ok (.iconst 1, 1) := by decide +kernel
theorem dL_law_861 : decode cL_law 861 = .ok (.iadd, 1) := by decide +kernel
theorem dL_law_862 : decode cL_law 862 = .ok (.iaload, 1) := by decide +kernel
theorem dL_law_863 : decode cL_law 863 = .ok (.aload_n 0, 1) := by decide +kernel
theorem dL_law_864 : decode cL_law 864 = .ok (.iload_n 3, 1) := by decide +kernel
theorem dL_law_865 : decode cL_law 865 = .ok (.iconst 2, 1) := by decide +kernel
theorem dL_law_866 : decode cL_law 866 = .ok (.iadd, 1) := by decide +kernel
theorem dL_law_867 : decode cL_law 867 = .ok (.iaload, 1) := by decide +kernel
theorem dL_law_868 : decode cL_law 868 = .ok (.invokevirtual 102, 3) := by decide +kernel
theorem dL_law_871 : decode cL_law 871 = .ok (.aload_n 2, 1) := by decide +kernel
theorem dL_law_872 : decode cL_law 872 = .ok (.aload_n 0, 1) := by decide +kernel
theorem dL_law_873 : decode cL_law 873 = .ok (.iload_n 3, 1) := by decide +kernel
theorem dL_law_874 : decode cL_law 874 = .ok (.iconst 1, 1) := by decide +kernel
theorem dL_law_875 : decode cL_law 875 = .ok (.iadd, 1) := by decide +kernel
theorem dL_law_876 : decode cL_law 876 = .ok (.iaload, 1) := by decide +kernel
theorem dL_law_877 : decode cL_law 877 = .ok (.aload_n 0, 1) := by decide +kernel
theorem dL_law_878 : decode cL_law 878 = .ok (.iload_n 3, 1) := by decide +kernel
theorem dL_law_879 : decode cL_law 879 = .ok (.iconst 2, 1) := by decide +kernel
theorem dL_law_880 : decode cL_law 880 = .ok (.iadd, 1) := by decide +kernel
theorem dL_law_881 : decode cL_law 881 = .ok (.iaload, 1) := by decide +kernel
theorem dL_law_882 : decode cL_law 882 = .ok (.invokevirtual 105, 3) := by decide +kernel
theorem dL_law_885 : decode cL_law 885 = .ok (.if_icmp .eq 763, 3) := by decide +kernel
theorem dL_law_888 : decode cL_law 888 = .ok (.iconst 0, 1) := by decide +kernel
theorem dL_law_889 : decode cL_law 889 = .ok (.ireturn, 1) := by decide +kernel
theorem dL_law_890 : decode cL_law 890 = .ok (.aload_n 1, 1) := by decide +kernel
theorem dL_law_891 : decode cL_law 891 = .ok (.aload_n 0, 1) := by decide +kernel
theorem dL_law_892 : decode cL_law 892 = .ok (.iload_n 3, 1) := by decide +kernel
theorem dL_law_893 : decode cL_law 893 = .ok (.iconst 1, 1) := by decide +kernel
theorem dL_law_894 : decode cL_law 894 = .ok (.iadd, 1) := by decide +kernel
theorem dL_law_895 : decode cL_law 895 = .ok (.iaload, 1) := by decide +kernel
theorem dL_law_896 : decode cL_law 896 = .ok (.aload_n 0, 1) := by decide +kernel
theorem dL_law_897 : decode cL_law 897 = .ok (.iload_n 3, 1) := by decide +kernel
theorem dL_law_898 : decode cL_law 898 = .ok (.iconst 2, 1) := by decide +kernel
theorem dL_law_899 : decode cL_law 899 = .ok (.iadd, 1) := by decide +kernel
theorem dL_law_900 : decode cL_law 900 = .ok (.iaload, 1) := by decide +kernel
theorem dL_law_901 : decode cL_law 901 = .ok (.aload_n 0, 1) := by decide +kernel
theorem dL_law_902 : decode cL_law 902 = .ok (.iload_n 3, 1) := by decide +kernel
theorem dL_law_903 : decode cL_law 903 = .ok (.iconst 3, 1) := by decide +kernel
theorem dL_law_904 : decode cL_law 904 = .ok (.iadd, 1) := by decide +kernel
theorem dL_law_905 : decode cL_law 905 = .ok (.iaload, 1) := by decide +kernel
theorem dL_law_906 : decode cL_law 906 = .ok (.invokevirtual 106, 3) := by decide +kernel
theorem dL_law_909 : decode cL_law 909 = .ok (.aload_n 2, 1) := by decide +kernel
theorem dL_law_910 : decode cL_law 910 = .ok (.aload_n 0, 1) := by decide +kernel
theorem dL_law_911 : decode cL_law 911 = .ok (.iload_n 3, 1) := by decide +kernel
theorem dL_law_912 : decode cL_law 912 = .ok (.iconst 1, 1) := by decide +kernel
theorem dL_law_913 : decode cL_law 913 = .ok (.iadd, 1) := by decide +kernel
theorem dL_law_914 : decode cL_law 914 = .ok (.iaload, 1) := by decide +kernel
theorem dL_law_915 : decode cL_law 915 = .ok (.aload_n 0, 1) := by decide +kernel
theorem dL_law_916 : decode cL_law 916 = .ok (.iload_n 3, 1) := by decide +kernel
theorem dL_law_917 : decode cL_law 917 = .ok (.iconst 2, 1) := by decide +kernel
theorem dL_law_918 : decode cL_law 918 = .ok (.iadd, 1) := by decide +kernel
theorem dL_law_919 : decode cL_law 919 = .ok (.iaload, 1) := by decide +kernel
theorem dL_law_920 : decode cL_law 920 = .ok (.aload_n 0, 1) := by decide +kernel
theorem dL_law_921 : decode cL_law 921 = .ok (.iload_n 3, 1) := by decide +kernel
theorem dL_law_922 : decode cL_law 922 = .ok (.iconst 3, 1) := by decide +kernel
theorem dL_law_923 : decode cL_law 923 = .ok (.iadd, 1) := by decide +kernel
theorem dL_law_924 : decode cL_law 924 = .ok (.iaload, 1) := by decide +kernel
theorem dL_law_925 : decode cL_law 925 = .ok (.invokevirtual 110, 3) := by decide +kernel
theorem dL_law_928 : decode cL_law 928 = .ok (.if_icmp .eq 720, 3) := by decide +kernel
theorem dL_law_931 : decode cL_law 931 = .ok (.iconst 0, 1) := by decide +kernel
theorem dL_law_932 : decode cL_law 932 = .ok (.ireturn, 1) := by decide +kernel
theorem dL_law_933 : decode cL_law 933 = .ok (.aload_n 1, 1) := by decide +kernel
theorem dL_law_934 : decode cL_law 934 = .ok (.aload_n 0, 1) := by decide +kernel
theorem dL_law_935 : decode cL_law 935 = .ok (.iload_n 3, 1) := by decide +kernel
theorem dL_law_936 : decode cL_law 936 = .ok (.iconst 1, 1) := by decide +kernel
theorem dL_law_937 : decode cL_law 937 = .ok (.iadd, 1) := by decide +kernel
theorem dL_law_938 : decode cL_law 938 = .ok (.iaload, 1) := by decide +kernel
theorem dL_law_939 : decode cL_law 939 = .ok (.aload_n 0, 1) := by decide +kernel
theorem dL_law_940 : decode cL_law 940 = .ok (.iload_n 3, 1) := by decide +kernel
theorem dL_law_941 : decode cL_law 941 = .ok (.iconst 2, 1) := by decide +kernel
theorem dL_law_942 : decode cL_law 942 = .ok (.iadd, 1) := by decide +kernel
theorem dL_law_943 : decode cL_law 943 = .ok (.iaload, 1) := by decide +kernel
theorem dL_law_944 : decode cL_law 944 = .ok (.aload_n 0, 1) := by decide +kernel
theorem dL_law_945 : decode cL_law 945 = .ok (.iload_n 3, 1) := by decide +kernel
theorem dL_law_946 : decode cL_law 946 = .ok (.iconst 3, 1) := by decide +kernel
theorem dL_law_947 : decode cL_law 947 = .ok (.iadd, 1) := by decide +kernel
theorem dL_law_948 : decode cL_law 948 = .ok (.iaload, 1) := by decide +kernel
theorem dL_law_949 : decode cL_law 949 = .ok (.invokevirtual 111, 3) := by decide +kernel
theorem dL_law_952 : decode cL_law 952 = .ok (.aload_n 2, 1) := by decide +kernel
theorem dL_law_953 : decode cL_law 953 = .ok (.aload_n 0, 1) := by decide +kernel
theorem dL_law_954 : decode cL_law 954 = .ok (.iload_n 3, 1) := by decide +kernel
theorem dL_law_955 : decode cL_law 955 = .ok (.iconst 1, 1) := by decide +kernel
theorem dL_law_956 : decode cL_law 956 = .ok (.iadd, 1) := by decide +kernel
theorem dL_law_957 : decode cL_law 957 = .ok (.iaload, 1) := by decide +kernel
theorem dL_law_958 : decode cL_law 958 = .ok (.aload_n 0, 1) := by decide +kernel
theorem dL_law_959 : decode cL_law 959 = .ok (.iload_n 3, 1) := by decide +kernel
theorem dL_law_960 : decode cL_law 960 = .ok (.iconst 2, 1) := by decide +kernel
theorem dL_law_961 : decode cL_law 961 = .ok (.iadd, 1) := by decide +kernel
theorem dL_law_962 : decode cL_law 962 = .ok (.iaload, 1) := by decide +kernel
theorem dL_law_963 : decode cL_law 963 = .ok (.aload_n 0, 1) := by decide +kernel
theorem dL_law_964 : decode cL_law 964 = .ok (.iload_n 3, 1) := by decide +kernel
theorem dL_law_965 : decode cL_law 965 = .ok (.iconst 3, 1) := by decide +kernel
theorem dL_law_966 : decode cL_law 966 = .ok (.iadd, 1) := by decide +kernel
theorem dL_law_967 : decode cL_law 967 = .ok (.iaload, 1) := by decide +kernel
theorem dL_law_968 : decode cL_law 968 = .ok (.invokevirtual 114, 3) := by decide +kernel
theorem dL_law_971 : decode cL_law 971 = .ok (.if_icmp .eq 677, 3) := by decide +kernel
theorem dL_law_974 : decode cL_law 974 = .ok (.iconst 0, 1) := by decide +kernel
theorem dL_law_975 : decode cL_law 975 = .ok (.ireturn, 1) := by decide +kernel
theorem dL_law_976 : decode cL_law 976 = .ok (.aload_n 1, 1) := by decide +kernel
theorem dL_law_977 : decode cL_law 977 = .ok (.aload_n 0, 1) := by decide +kernel
theorem dL_law_978 : decode cL_law 978 = .ok (.iload_n 3, 1) := by decide +kernel
theorem dL_law_979 : decode cL_law 979 = .ok (.iconst 1, 1) := by decide +kernel
theorem dL_law_980 : decode cL_law 980 = .ok (.iadd, 1) := by decide +kernel
theorem dL_law_981 : decode cL_law 981 = .ok (.iaload, 1) := by decide +kernel
theorem dL_law_982 : decode cL_law 982 = .ok (.aload_n 0, 1) := by decide +kernel
theorem dL_law_983 : decode cL_law 983 = .ok (.iload_n 3, 1) := by decide +kernel
theorem dL_law_984 : decode cL_law 984 = .ok (.iconst 2, 1) := by decide +kernel
theorem dL_law_985 : decode cL_law 985 = .ok (.iadd, 1) := by decide +kernel
theorem dL_law_986 : decode cL_law 986 = .ok (.iaload, 1) := by decide +kernel
theorem dL_law_987 : decode cL_law 987 = .ok (.invokevirtual 115, 3) := by decide +kernel
theorem dL_law_990 : decode cL_law 990 = .ok (.aload_n 2, 1) := by decide +kernel
theorem dL_law_991 : decode cL_law 991 = .ok (.aload_n 0, 1) := by decide +kernel
theorem dL_law_992 : decode cL_law 992 = .ok (.iload_n 3, 1) := by decide +kernel
theorem dL_law_993 : decode cL_law 993 = .ok (.iconst 1, 1) := by decide +kernel
theorem dL_law_994 : decode cL_law 994 = .ok (.iadd, 1) := by decide +kernel
theorem dL_law_995 : decode cL_law 995 = .ok (.iaload, 1) := by decide +kernel
theorem dL_law_996 : decode cL_law 996 = .ok (.aload_n 0, 1) := by decide +kernel
theorem dL_law_997 : decode cL_law 997 = .ok (.iload_n 3, 1) := by decide +kernel
theorem dL_law_998 : decode cL_law 998 = .ok (.iconst 2, 1) := by decide +kernel
theorem dL_law_999 : decode cL_law 999 = .ok (.iadd, 1) := by decide +kernel
theorem dL_law_1000 : decode cL_law 1000 = .ok (.iaload, 1) := by decide +kernel
theorem dL_law_1001 : decode cL_law 1001 = .ok (.invokevirtual 118, 3) := by decide +kernel
theorem dL_law_1004 : decode cL_law 1004 = .ok (.if_icmp .eq 644, 3) := by decide +kernel
theorem dL_law_1007 : decode cL_law 1007 = .ok (.iconst 0, 1) := by decide +kernel
theorem dL_law_1008 : decode cL_law 1008 = .ok (.ireturn, 1) := by decide +kernel
theorem dL_law_1009 : decode cL_law 1009 = .ok (.aload_n 1, 1) := by decide +kernel
theorem dL_law_1010 : decode cL_law 1010 = .ok (.aload_n 0, 1) := by decide +kernel
theorem dL_law_1011 : decode cL_law 1011 = .ok (.iload_n 3, 1) := by decide +kernel
theorem dL_law_1012 : decode cL_law 1012 = .ok (.iconst 1, 1) := by decide +kernel
theorem dL_law_1013 : decode cL_law 1013 = .ok (.iadd, 1) := by decide +kernel
theorem dL_law_1014 : decode cL_law 1014 = .ok (.iaload, 1) := by decide +kernel
theorem dL_law_1015 : decode cL_law 1015 = .ok (.aload_n 0, 1) := by decide +kernel
theorem dL_law_1016 : decode cL_law 1016 = .ok (.iload_n 3, 1) := by decide +kernel
theorem dL_law_1017 : decode cL_law 1017 = .ok (.iconst 2, 1) := by decide +kernel
theorem dL_law_1018 : decode cL_law 1018 = .ok (.iadd, 1) := by decide +kernel
theorem dL_law_1019 : decode cL_law 1019 = .ok (.iaload, 1) := by decide +kernel
theorem dL_law_1020 : decode cL_law 1020 = .ok (.invokevirtual 119, 3) := by decide +kernel
theorem dL_law_1023 : decode cL_law 1023 = .ok (.aload_n 2, 1) := by decide +kernel
theorem dL_law_1024 : decode cL_law 1024 = .ok (.aload_n 0, 1) := by decide +kernel
theorem dL_law_1025 : decode cL_law 1025 = .ok (.iload_n 3, 1) := by decide +kernel
theorem dL_law_1026 : decode cL_law 1026 = .ok (.iconst 1, 1) := by decide +kernel
theorem dL_law_1027 : decode cL_law 1027 = .ok (.iadd, 1) := by decide +kernel
theorem dL_law_1028 : decode cL_law 1028 = .ok (.iaload, 1) := by decide +kernel
theorem dL_law_1029 : decode cL_law 1029 = .ok (.aload_n 0, 1) := by decide +kernel
theorem dL_law_1030 : decode cL_law 1030 = .ok (.iload_n 3, 1) := by decide +kernel
theorem dL_law_1031 : decode cL_law 1031 = .ok (.iconst 2, 1) := by decide +kernel
theorem dL_law_1032 : decode cL_law 1032 = .ok (.iadd, 1) := by decide +kernel
theorem dL_law_1033 : decode cL_law 1033 = .ok (.iaload, 1) := by decide +kernel
theorem dL_law_1034 : decode cL_law 1034 = .ok (.invokevirtual 122, 3) := by decide +kernel
theorem dL_law_1037 : decode cL_law 1037 = .ok (.if_icmp .eq 611, 3) := by decide +kernel
theorem dL_law_1040 : decode cL_law 1040 = .ok (.iconst 0, 1) := by decide +kernel
theorem dL_law_1041 : decode cL_law 1041 = .ok (.ireturn, 1) := by decide +kernel
theorem dL_law_1042 : decode cL_law 1042 = .ok (.aload_n 1, 1) := by decide +kernel
theorem dL_law_1043 : decode cL_law 1043 = .ok (.aload_n 0, 1) := by decide +kernel
theorem dL_law_1044 : decode cL_law 1044 = .ok (.iload_n 3, 1) := by decide +kernel
theorem dL_law_1045 : decode cL_law 1045 = .ok (.iconst 1, 1) := by decide +kernel
theorem dL_law_1046 : decode cL_law 1046 = .ok (.iadd, 1) := by decide +kernel
theorem dL_law_1047 : decode cL_law 1047 = .ok (.iaload, 1) := by decide +kernel
theorem dL_law_1048 : decode cL_law 1048 = .ok (.aload_n 0, 1) := by decide +kernel
theorem dL_law_1049 : decode cL_law 1049 = .ok (.iload_n 3, 1) := by decide +kernel
theorem dL_law_1050 : decode cL_law 1050 = .ok (.iconst 2, 1) := by decide +kernel
theorem dL_law_1051 : decode cL_law 1051 = .ok (.iadd, 1) := by decide +kernel
theorem dL_law_1052 : decode cL_law 1052 = .ok (.iaload, 1) := by decide +kernel
theorem dL_law_1053 : decode cL_law 1053 = .ok (.invokevirtual 123, 3) := by decide +kernel
theorem dL_law_1056 : decode cL_law 1056 = .ok (.aload_n 2, 1) := by decide +kernel
theorem dL_law_1057 : decode cL_law 1057 = .ok (.aload_n 0, 1) := by decide +kernel
theorem dL_law_1058 : decode cL_law 1058 = .ok (.iload_n 3, 1) := by decide +kernel
theorem dL_law_1059 : decode cL_law 1059 = .ok (.iconst 1, 1) := by decide +kernel
theorem dL_law_1060 : decode cL_law 1060 = .ok (.iadd, 1) := by decide +kernel
theorem dL_law_1061 : decode cL_law 1061 = .ok (.iaload, 1) := by decide +kernel
theorem dL_law_1062 : decode cL_law 1062 = .ok (.aload_n 0, 1) := by decide +kernel
theorem dL_law_1063 : decode cL_law 1063 = .ok (.iload_n 3, 1) := by decide +kernel
theorem dL_law_1064 : decode cL_law 1064 = .ok (.iconst 2, 1) := by decide +kernel
theorem dL_law_1065 : decode cL_law 1065 = .ok (.iadd, 1) := by decide +kernel
theorem dL_law_1066 : decode cL_law 1066 = .ok (.iaload, 1) := by decide +kernel
theorem dL_law_1067 : decode cL_law 1067 = .ok (.invokevirtual 126, 3) := by decide +kernel
theorem dL_law_1070 : decode cL_law 1070 = .ok (.if_icmp .eq 578, 3) := by decide +kernel
theorem dL_law_1073 : decode cL_law 1073 = .ok (.iconst 0, 1) := by decide +kernel
theorem dL_law_1074 : decode cL_law 1074 = .ok (.ireturn, 1) := by decide +kernel
theorem dL_law_1075 : decode cL_law 1075 = .ok (.aload_n 1, 1) := by decide +kernel
theorem dL_law_1076 : decode cL_law 1076 = .ok (.aload_n 0, 1) := by decide +kernel
theorem dL_law_1077 : decode cL_law 1077 = .ok (.iload_n 3, 1) := by decide +kernel
theorem dL_law_1078 : decode cL_law 1078 = .ok (.iconst 1, 1) := by decide +kernel
theorem dL_law_1079 : decode cL_law 1079 = .ok (.iadd, 1) := by decide +kernel
theorem dL_law_1080 : decode cL_law 1080 = .ok (.iaload, 1) := by decide +kernel
theorem dL_law_1081 : decode cL_law 1081 = .ok (.invokevirtual 127, 3) := by decide +kernel
theorem dL_law_1084 : decode cL_law 1084 = .ok (.aload_n 2, 1) := by decide +kernel
theorem dL_law_1085 : decode cL_law 1085 = .ok (.aload_n 0, 1) := by decide +kernel
theorem dL_law_1086 : decode cL_law 1086 = .ok (.iload_n 3, 1) := by decide +kernel
theorem dL_law_1087 : decode cL_law 1087 = .ok (.iconst 1, 1) := by decide +kernel
theorem dL_law_1088 : decode cL_law 1088 = .ok (.iadd, 1) := by decide +kernel
theorem dL_law_1089 : decode cL_law 1089 = .ok (.iaload, 1) := by decide +kernel
theorem dL_law_1090 : decode cL_law 1090 = .ok (.invokevirtual 130, 3) := by decide +kernel
theorem dL_law_1093 : decode cL_law 1093 = .ok (.if_icmp .eq 555, 3) := by decide +kernel
theorem dL_law_1096 : decode cL_law 1096 = .ok (.iconst 0, 1) := by decide +kernel
theorem dL_law_1097 : decode cL_law 1097 = .ok (.ireturn, 1) := by decide +kernel
theorem dL_law_1098 : decode cL_law 1098 = .ok (.aload_n 1, 1) := by decide +kernel
theorem dL_law_1099 : decode cL_law 1099 = .ok (.invokevirtual 131, 3) := by decide +kernel
theorem dL_law_1102 : decode cL_law 1102 = .ok (.aload_n 2, 1) := by decide +kernel
theorem dL_law_1103 : decode cL_law 1103 = .ok (.invokevirtual 134, 3) := by decide +kernel
theorem dL_law_1106 : decode cL_law 1106 = .ok (.if_icmp .eq 542, 3) := by decide +kernel
theorem dL_law_1109 : decode cL_law 1109 = .ok (.iconst 0, 1) := by decide +kernel
theorem dL_law_1110 : decode cL_law 1110 = .ok (.ireturn, 1) := by decide +kernel
theorem dL_law_1111 : decode cL_law 1111 = .ok (.aload_n 1, 1) := by decide +kernel
theorem dL_law_1112 : decode cL_law 1112 = .ok (.aload_n 0, 1) := by decide +kernel
theorem dL_law_1113 : decode cL_law 1113 = .ok (.iload_n 3, 1) := by decide +kernel
theorem dL_law_1114 : decode cL_law 1114 = .ok (.iconst 1, 1) := by decide +kernel
theorem dL_law_1115 : decode cL_law 1115 = .ok (.iadd, 1) := by decide +kernel
theorem dL_law_1116 : decode cL_law 1116 = .ok (.iaload, 1) := by decide +kernel
theorem dL_law_1117 : decode cL_law 1117 = .ok (.aload_n 0, 1) := by decide +kernel
theorem dL_law_1118 : decode cL_law 1118 = .ok (.iload_n 3, 1) := by decide +kernel
theorem dL_law_1119 : decode cL_law 1119 = .ok (.iconst 2, 1) := by decide +kernel
theorem dL_law_1120 : decode cL_law 1120 = .ok (.iadd, 1) := by decide +kernel
theorem dL_law_1121 : decode cL_law 1121 = .ok (.iaload, 1) := by decide +kernel
theorem dL_law_1122 : decode cL_law 1122 = .ok (.invokevirtual 135, 3) := by decide +kernel
theorem dL_law_1125 : decode cL_law 1125 = .ok (.aload_n 2, 1) := by decide +kernel
theorem dL_law_1126 : decode cL_law 1126 = .ok (.aload_n 0, 1) := by decide +kernel
theorem dL_law_1127 : decode cL_law 1127 = .ok (.iload_n 3, 1) := by decide +kernel
theorem dL_law_1128 : decode cL_law 1128 = .ok (.iconst 1, 1) := by decide +kernel
theorem dL_law_1129 : decode cL_law 1129 = .ok (.iadd, 1) := by decide +kernel
theorem dL_law_1130 : decode cL_law 1130 = .ok (.iaload, 1) := by decide +kernel
theorem dL_law_1131 : decode cL_law 1131 = .ok (.aload_n 0, 1) := by decide +kernel
theorem dL_law_1132 : decode cL_law 1132 = .ok (.iload_n 3, 1) := by decide +kernel
theorem dL_law_1133 : decode cL_law 1133 = .ok (.iconst 2, 1) := by decide +kernel
theorem dL_law_1134 : decode cL_law 1134 = .ok (.iadd, 1) := by decide +kernel
theorem dL_law_1135 : decode cL_law 1135 = .ok (.iaload, 1) := by decide +kernel
theorem dL_law_1136 : decode cL_law 1136 = .ok (.invokevirtual 138, 3) := by decide +kernel
theorem dL_law_1139 : decode cL_law 1139 = .ok (.if_icmp .eq 509, 3) := by decide +kernel
theorem dL_law_1142 : decode cL_law 1142 = .ok (.iconst 0, 1) := by decide +kernel
theorem dL_law_1143 : decode cL_law 1143 = .ok (.ireturn, 1) := by decide +kernel
theorem dL_law_1144 : decode cL_law 1144 = .ok (.aload_n 1, 1) := by decide +kernel
theorem dL_law_1145 : decode cL_law 1145 = .ok (.aload_n 0, 1) := by decide +kernel
theorem dL_law_1146 : decode cL_law 1146 = .ok (.iload_n 3, 1) := by decide +kernel
theorem dL_law_1147 : decode cL_law 1147 = .ok (.iconst 1, 1) := by decide +kernel
theorem dL_law_1148 : decode cL_law 1148 = .ok (.iadd, 1) := by decide +kernel
theorem dL_law_1149 : decode cL_law 1149 = .ok (.iaload, 1) := by decide +kernel
theorem dL_law_1150 : decode cL_law 1150 = .ok (.aload_n 0, 1) := by decide +kernel
theorem dL_law_1151 : decode cL_law 1151 = .ok (.iload_n 3, 1) := by decide +kernel
theorem dL_law_1152 : decode cL_law 1152 = .ok (.iconst 2, 1) := by decide +kernel
theorem dL_law_1153 : decode cL_law 1153 = .ok (.iadd, 1) := by decide +kernel
theorem dL_law_1154 : decode cL_law 1154 = .ok (.iaload, 1) := by decide +kernel
theorem dL_law_1155 : decode cL_law 1155 = .ok (.aload_n 0, 1) := by decide +kernel
theorem dL_law_1156 : decode cL_law 1156 = .ok (.iload_n 3, 1) := by decide +kernel
theorem dL_law_1157 : decode cL_law 1157 = .ok (.iconst 3, 1) := by decide +kernel
theorem dL_law_1158 : decode cL_law 1158 = .ok (.iadd, 1) := by decide +kernel
theorem dL_law_1159 : decode cL_law 1159 = .ok (.iaload, 1) := by decide +kernel
theorem dL_law_1160 : decode cL_law 1160 = .ok (.aload_n 0, 1) := by decide +kernel
theorem dL_law_1161 : decode cL_law 1161 = .ok (.iload_n 3, 1) := by decide +kernel
theorem dL_law_1162 : decode cL_law 1162 = .ok (.iconst 4, 1) := by decide +kernel
theorem dL_law_1163 : decode cL_law 1163 = .ok (.iadd, 1) := by decide +kernel
theorem dL_law_1164 : decode cL_law 1164 = .ok (.iaload, 1) := by decide +kernel
theorem dL_law_1165 : decode cL_law 1165 = .ok (.invokevirtual 139, 3) := by decide +kernel
theorem dL_law_1168 : decode cL_law 1168 = .ok (.aload_n 2, 1) := by decide +kernel
theorem dL_law_1169 : decode cL_law 1169 = .ok (.aload_n 0, 1) := by decide +kernel
theorem dL_law_1170 : decode cL_law 1170 = .ok (.iload_n 3, 1) := by decide +kernel
theorem dL_law_1171 : decode cL_law 1171 = .ok (.iconst 1, 1) := by decide +kernel
theorem dL_law_1172 : decode cL_law 1172 = .ok (.iadd, 1) := by decide +kernel
theorem dL_law_1173 : decode cL_law 1173 = .ok (.iaload, 1) := by decide +kernel
theorem dL_law_1174 : decode cL_law 1174 = .ok (.aload_n 0, 1) := by decide +kernel
theorem dL_law_1175 : decode cL_law 1175 = .ok (.iload_n 3, 1) := by decide +kernel
theorem dL_law_1176 : decode cL_law 1176 = .ok (.iconst 2, 1) := by decide +kernel
theorem dL_law_1177 : decode cL_law 1177 = .ok (.iadd, 1) := by decide +kernel
theorem dL_law_1178 : decode cL_law 1178 = .ok (.iaload, 1) := by decide +kernel
theorem dL_law_1179 : decode cL_law 1179 = .ok (.aload_n 0, 1) := by decide +kernel
theorem dL_law_1180 : decode cL_law 1180 = .ok (.iload_n 3, 1) := by decide +kernel
theorem dL_law_1181 : decode cL_law 1181 = .ok (.iconst 3, 1) := by decide +kernel
theorem dL_law_1182 : decode cL_law 1182 = .ok (.iadd, 1) := by decide +kernel
theorem dL_law_1183 : decode cL_law 1183 = .ok (.iaload, 1) := by decide +kernel
theorem dL_law_1184 : decode cL_law 1184 = .ok (.aload_n 0, 1) := by decide +kernel
theorem dL_law_1185 : decode cL_law 1185 = .ok (.iload_n 3, 1) := by decide +kernel
theorem dL_law_1186 : decode cL_law 1186 = .ok (.iconst 4, 1) := by decide +kernel
theorem dL_law_1187 : decode cL_law 1187 = .ok (.iadd, 1) := by decide +kernel
theorem dL_law_1188 : decode cL_law 1188 = .ok (.iaload, 1) := by decide +kernel
theorem dL_law_1189 : decode cL_law 1189 = .ok (.invokevirtual 143, 3) := by decide +kernel
theorem dL_law_1192 : decode cL_law 1192 = .ok (.if_icmp .eq 456, 3) := by decide +kernel
theorem dL_law_1195 : decode cL_law 1195 = .ok (.iconst 0, 1) := by decide +kernel
theorem dL_law_1196 : decode cL_law 1196 = .ok (.ireturn, 1) := by decide +kernel
theorem dL_law_1197 : decode cL_law 1197 = .ok (.aload_n 1, 1) := by decide +kernel
theorem dL_law_1198 : decode cL_law 1198 = .ok (.aload_n 0, 1) := by decide +kernel
theorem dL_law_1199 : decode cL_law 1199 = .ok (.iload_n 3, 1) := by decide +kernel
theorem dL_law_1200 : decode cL_law 1200 = .ok (.iconst 1, 1) := by decide +kernel
theorem dL_law_1201 : decode cL_law 1201 = .ok (.iadd, 1) := by decide +kernel
theorem dL_law_1202 : decode cL_law 1202 = .ok (.iaload, 1) := by decide +kernel
theorem dL_law_1203 : decode cL_law 1203 = .ok (.aload_n 0, 1) := by decide +kernel
theorem dL_law_1204 : decode cL_law 1204 = .ok (.iload_n 3, 1) := by decide +kernel
theorem dL_law_1205 : decode cL_law 1205 = .ok (.iconst 2, 1) := by decide +kernel
theorem dL_law_1206 : decode cL_law 1206 = .ok (.iadd, 1) := by decide +kernel
theorem dL_law_1207 : decode cL_law 1207 = .ok (.iaload, 1) := by decide +kernel
theorem dL_law_1208 : decode cL_law 1208 = .ok (.aload_n 0, 1) := by decide +kernel
theorem dL_law_1209 : decode cL_law 1209 = .ok (.iload_n 3, 1) := by decide +kernel
theorem dL_law_1210 : decode cL_law 1210 = .ok (.iconst 3, 1) := by decide +kernel
theorem dL_law_1211 : decode cL_law 1211 = .ok (.iadd, 1) := by decide +kernel
theorem dL_law_1212 : decode cL_law 1212 = .ok (.iaload, 1) := by decide +kernel
theorem dL_law_1213 : decode cL_law 1213 = .ok (.aload_n 0, 1) := by decide +kernel
theorem dL_law_1214 : decode cL_law 1214 = .ok (.iload_n 3, 1) := by decide +kernel
theorem dL_law_1215 : decode cL_law 1215 = .ok (.iconst 4, 1) := by decide +kernel
theorem dL_law_1216 : decode cL_law 1216 = .ok (.iadd, 1) := by decide +kernel
theorem dL_law_1217 : decode cL_law 1217 = .ok (.iaload, 1) := by decide +kernel
theorem dL_law_1218 : decode cL_law 1218 = .ok (.aload_n 0, 1) := by decide +kernel
theorem dL_law_1219 : decode cL_law 1219 = .ok (.iload_n 3, 1) := by decide +kernel
theorem dL_law_1220 : decode cL_law 1220 = .ok (.iconst 5, 1) := by decide +kernel
theorem dL_law_1221 : decode cL_law 1221 = .ok (.iadd, 1) := by decide +kernel
theorem dL_law_1222 : decode cL_law 1222 = .ok (.iaload, 1) := by decide +kernel
theorem dL_law_1223 : decode cL_law 1223 = .ok (.aload_n 0, 1) := by decide +kernel
theorem dL_law_1224 : decode cL_law 1224 = .ok (.iload_n 3, 1) := by decide +kernel
theorem dL_law_1225 : decode cL_law 1225 = .ok (.bipush 6, 2) := by decide +kernel
theorem dL_law_1227 : decode cL_law 1227 = .ok (.iadd, 1) := by decide +kernel
theorem dL_law_1228 : decode cL_law 1228 = .ok (.iaload, 1) := by decide +kernel
theorem dL_law_1229 : decode cL_law 1229 = .ok (.invokevirtual 144, 3) := by decide +kernel
theorem dL_law_1232 : decode cL_law 1232 = .ok (.aload_n 2, 1) := by decide +kernel
theorem dL_law_1233 : decode cL_law 1233 = .ok (.aload_n 0, 1) := by decide +kernel
theorem dL_law_1234 : decode cL_law 1234 = .ok (.iload_n 3, 1) := by decide +kernel
theorem dL_law_1235 : decode cL_law 1235 = .ok (.iconst 1, 1) := by decide +kernel
theorem dL_law_1236 : decode cL_law 1236 = .ok (.iadd, 1) := by decide +kernel
theorem dL_law_1237 : decode cL_law 1237 = .ok (.iaload, 1) := by decide +kernel
theorem dL_law_1238 : decode cL_law 1238 = .ok (.aload_n 0, 1) := by decide +kernel
theorem dL_law_1239 : decode cL_law 1239 = .ok (.iload_n 3, 1) := by decide +kernel
theorem dL_law_1240 : decode cL_law 1240 = .ok (.iconst 2, 1) := by decide +kernel
theorem dL_law_1241 : decode cL_law 1241 = .ok (.iadd, 1) := by decide +kernel
theorem dL_law_1242 : decode cL_law 1242 = .ok (.iaload, 1) := by decide +kernel
theorem dL_law_1243 : decode cL_law 1243 = .ok (.aload_n 0, 1) := by decide +kernel
theorem dL_law_1244 : decode cL_law 1244 = .ok (.iload_n 3, 1) := by decide +kernel
theorem dL_law_1245 : decode cL_law 1245 = .ok (.iconst 3, 1) := by decide +kernel
theorem dL_law_1246 : decode cL_law 1246 = .ok (.iadd, 1) := by decide +kernel
theorem dL_law_1247 : decode cL_law 1247 = .ok (.iaload, 1) := by decide +kernel
theorem dL_law_1248 : decode cL_law 1248 = .ok (.aload_n 0, 1) := by decide +kernel
theorem dL_law_1249 : decode cL_law 1249 = .ok (.iload_n 3, 1) := by decide +kernel
theorem dL_law_1250 : decode cL_law 1250 = .ok (.iconst 4, 1) := by decide +kernel
theorem dL_law_1251 : decode cL_law 1251 = .ok (.iadd, 1) := by decide +kernel
theorem dL_law_1252 : decode cL_law 1252 = .ok (.iaload, 1) := by decide +kernel
theorem dL_law_1253 : decode cL_law 1253 = .ok (.aload_n 0, 1) := by decide +kernel
theorem dL_law_1254 : decode cL_law 1254 = .ok (.iload_n 3, 1) := by decide +kernel
theorem dL_law_1255 : decode cL_law 1255 = .ok (.iconst 5, 1) := by decide +kernel
theorem dL_law_1256 : decode cL_law 1256 = .ok (.iadd, 1) := by decide +kernel
theorem dL_law_1257 : decode cL_law 1257 = .ok (.iaload, 1) := by decide +kernel
theorem dL_law_1258 : decode cL_law 1258 = .ok (.aload_n 0, 1) := by decide +kernel
theorem dL_law_1259 : decode cL_law 1259 = .ok (.iload_n 3, 1) := by decide +kernel
theorem dL_law_1260 : decode cL_law 1260 = .ok (.bipush 6, 2) := by decide +kernel
theorem dL_law_1262 : decode cL_law 1262 = .ok (.iadd, 1) := by decide +kernel
theorem dL_law_1263 : decode cL_law 1263 = .ok (.iaload, 1) := by decide +kernel
theorem dL_law_1264 : decode cL_law 1264 = .ok (.invokevirtual 148, 3) := by decide +kernel
theorem dL_law_1267 : decode cL_law 1267 = .ok (.if_icmp .eq 381, 3) := by decide +kernel
theorem dL_law_1270 : decode cL_law 1270 = .ok (.iconst 0, 1) := by decide +kernel
theorem dL_law_1271 : decode cL_law 1271 = .ok (.ireturn, 1) := by decide +kernel
theorem dL_law_1272 : decode cL_law 1272 = .ok (.aload_n 1, 1) := by decide +kernel
theorem dL_law_1273 : decode cL_law 1273 = .ok (.aload_n 0, 1) := by decide +kernel
theorem dL_law_1274 : decode cL_law 1274 = .ok (.iload_n 3, 1) := by decide +kernel
theorem dL_law_1275 : decode cL_law 1275 = .ok (.iconst 1, 1) := by decide +kernel
theorem dL_law_1276 : decode cL_law 1276 = .ok (.iadd, 1) := by decide +kernel
theorem dL_law_1277 : decode cL_law 1277 = .ok (.iaload, 1) := by decide +kernel
theorem dL_law_1278 : decode cL_law 1278 = .ok (.aload_n 0, 1) := by decide +kernel
theorem dL_law_1279 : decode cL_law 1279 = .ok (.iload_n 3, 1) := by decide +kernel
theorem dL_law_1280 : decode cL_law 1280 = .ok (.iconst 2, 1) := by decide +kernel
theorem dL_law_1281 : decode cL_law 1281 = .ok (.iadd, 1) := by decide +kernel
theorem dL_law_1282 : decode cL_law 1282 = .ok (.iaload, 1) := by decide +kernel
theorem dL_law_1283 : decode cL_law 1283 = .ok (.invokevirtual 149, 3) := by decide +kernel
theorem dL_law_1286 : decode cL_law 1286 = .ok (.aload_n 2, 1) := by decide +kernel
theorem dL_law_1287 : decode cL_law 1287 = .ok (.aload_n 0, 1) := by decide +kernel
theorem dL_law_1288 : decode cL_law 1288 = .ok (.iload_n 3, 1) := by decide +kernel
theorem dL_law_1289 : decode cL_law 1289 = .ok (.iconst 1, 1) := by decide +kernel
theorem dL_law_1290 : decode cL_law 1290 = .ok (.iadd, 1) := by decide +kernel
theorem dL_law_1291 : decode cL_law 1291 = .ok (.iaload, 1) := by decide +kernel
theorem dL_law_1292 : decode cL_law 1292 = .ok (.aload_n 0, 1) := by decide +kernel
theorem dL_law_1293 : decode cL_law 1293 = .ok (.iload_n 3, 1) := by decide +kernel
theorem dL_law_1294 : decode cL_law 1294 = .ok (.iconst 2, 1) := by decide +kernel
theorem dL_law_1295 : decode cL_law 1295 = .ok (.iadd, 1) := by decide +kernel
theorem dL_law_1296 : decode cL_law 1296 = .ok (.iaload, 1) := by decide +kernel
theorem dL_law_1297 : decode cL_law 1297 = .ok (.invokevirtual 152, 3) := by decide +kernel
theorem dL_law_1300 : decode cL_law 1300 = .ok (.if_icmp .eq 348, 3) := by decide +kernel
theorem dL_law_1303 : decode cL_law 1303 = .ok (.iconst 0, 1) := by decide +kernel
theorem dL_law_1304 : decode cL_law 1304 = .ok (.ireturn, 1) := by decide +kernel
theorem dL_law_1305 : decode cL_law 1305 = .ok (.aload_n 1, 1) := by decide +kernel
theorem dL_law_1306 : decode cL_law 1306 = .ok (.aload_n 0, 1) := by decide +kernel
theorem dL_law_1307 : decode cL_law 1307 = .ok (.iload_n 3, 1) := by decide +kernel
theorem dL_law_1308 : decode cL_law 1308 = .ok (.iconst 1, 1) := by decide +kernel
theorem dL_law_1309 : decode cL_law 1309 = .ok (.iadd, 1) := by decide +kernel
theorem dL_law_1310 : decode cL_law 1310 = .ok (.iaload, 1) := by decide +kernel
theorem dL_law_1311 : decode cL_law 1311 = .ok (.aload_n 0, 1) := by decide +kernel
theorem dL_law_1312 : decode cL_law 1312 = .ok (.iload_n 3, 1) := by decide +kernel
theorem dL_law_1313 : decode cL_law 1313 = .ok (.iconst 2, 1) := by decide +kernel
theorem dL_law_1314 : decode cL_law 1314 = .ok (.iadd, 1) := by decide +kernel
theorem dL_law_1315 : decode cL_law 1315 = .ok (.iaload, 1) := by decide +kernel
theorem dL_law_1316 : decode cL_law 1316 = .ok (.aload_n 0, 1) := by decide +kernel
theorem dL_law_1317 : decode cL_law 1317 = .ok (.iload_n 3, 1) := by decide +kernel
theorem dL_law_1318 : decode cL_law 1318 = .ok (.iconst 3, 1) := by decide +kernel
theorem dL_law_1319 : decode cL_law 1319 = .ok (.iadd, 1) := by decide +kernel
theorem dL_law_1320 : decode cL_law 1320 = .ok (.iaload, 1) := by decide +kernel
theorem dL_law_1321 : decode cL_law 1321 = .ok (.aload_n 0, 1) := by decide +kernel
theorem dL_law_1322 : decode cL_law 1322 = .ok (.iload_n 3, 1) := by decide +kernel
theorem dL_law_1323 : decode cL_law 1323 = .ok (.iconst 4, 1) := by decide +kernel
theorem dL_law_1324 : decode cL_law 1324 = .ok (.iadd, 1) := by decide +kernel
theorem dL_law_1325 : decode cL_law 1325 = .ok (.iaload, 1) := by decide +kernel
theorem dL_law_1326 : decode cL_law 1326 = .ok (.invokevirtual 153, 3) := by decide +kernel
theorem dL_law_1329 : decode cL_law 1329 = .ok (.aload_n 2, 1) := by decide +kernel
theorem dL_law_1330 : decode cL_law 1330 = .ok (.aload_n 0, 1) := by decide +kernel
theorem dL_law_1331 : decode cL_law 1331 = .ok (.iload_n 3, 1) := by decide +kernel
theorem dL_law_1332 : decode cL_law 1332 = .ok (.iconst 1, 1) := by decide +kernel
theorem dL_law_1333 : decode cL_law 1333 = .ok (.iadd, 1) := by decide +kernel
theorem dL_law_1334 : decode cL_law 1334 = .ok (.iaload, 1) := by decide +kernel
theorem dL_law_1335 : decode cL_law 1335 = .ok (.aload_n 0, 1) := by decide +kernel
theorem dL_law_1336 : decode cL_law 1336 = .ok (.iload_n 3, 1) := by decide +kernel
theorem dL_law_1337 : decode cL_law 1337 = .ok (.iconst 2, 1) := by decide +kernel
theorem dL_law_1338 : decode cL_law 1338 = .ok (.iadd, 1) := by decide +kernel
theorem dL_law_1339 : decode cL_law 1339 = .ok (.iaload, 1) := by decide +kernel
theorem dL_law_1340 : decode cL_law 1340 = .ok (.aload_n 0, 1) := by decide +kernel
theorem dL_law_1341 : decode cL_law 1341 = .ok (.iload_n 3, 1) := by decide +kernel
theorem dL_law_1342 : decode cL_law 1342 = .ok (.iconst 3, 1) := by decide +kernel
theorem dL_law_1343 : decode cL_law 1343 = .ok (.iadd, 1) := by decide +kernel
theorem dL_law_1344 : decode cL_law 1344 = .ok (.iaload, 1) := by decide +kernel
theorem dL_law_1345 : decode cL_law 1345 = .ok (.aload_n 0, 1) := by decide +kernel
theorem dL_law_1346 : decode cL_law 1346 = .ok (.iload_n 3, 1) := by decide +kernel
theorem dL_law_1347 : decode cL_law 1347 = .ok (.iconst 4, 1) := by decide +kernel
theorem dL_law_1348 : decode cL_law 1348 = .ok (.iadd, 1) := by decide +kernel
theorem dL_law_1349 : decode cL_law 1349 = .ok (.iaload, 1) := by decide +kernel
theorem dL_law_1350 : decode cL_law 1350 = .ok (.invokevirtual 156, 3) := by decide +kernel
theorem dL_law_1353 : decode cL_law 1353 = .ok (.if_icmp .eq 295, 3) := by decide +kernel
theorem dL_law_1356 : decode cL_law 1356 = .ok (.iconst 0, 1) := by decide +kernel
theorem dL_law_1357 : decode cL_law 1357 = .ok (.ireturn, 1) := by decide +kernel
theorem dL_law_1358 : decode cL_law 1358 = .ok (.aload_n 1, 1) := by decide +kernel
theorem dL_law_1359 : decode cL_law 1359 = .ok (.aload_n 0, 1) := by decide +kernel
theorem dL_law_1360 : decode cL_law 1360 = .ok (.iload_n 3, 1) := by decide +kernel
theorem dL_law_1361 : decode cL_law 1361 = .ok (.iconst 1, 1) := by decide +kernel
theorem dL_law_1362 : decode cL_law 1362 = .ok (.iadd, 1) := by decide +kernel
theorem dL_law_1363 : decode cL_law 1363 = .ok (.iaload, 1) := by decide +kernel
theorem dL_law_1364 : decode cL_law 1364 = .ok (.aload_n 0, 1) := by decide +kernel
theorem dL_law_1365 : decode cL_law 1365 = .ok (.iload_n 3, 1) := by decide +kernel
theorem dL_law_1366 : decode cL_law 1366 = .ok (.iconst 2, 1) := by decide +kernel
theorem dL_law_1367 : decode cL_law 1367 = .ok (.iadd, 1) := by decide +kernel
theorem dL_law_1368 : decode cL_law 1368 = .ok (.iaload, 1) := by decide +kernel
theorem dL_law_1369 : decode cL_law 1369 = .ok (.aload_n 0, 1) := by decide +kernel
theorem dL_law_1370 : decode cL_law 1370 = .ok (.iload_n 3, 1) := by decide +kernel
theorem dL_law_1371 : decode cL_law 1371 = .ok (.iconst 3, 1) := by decide +kernel
theorem dL_law_1372 : decode cL_law 1372 = .ok (.iadd, 1) := by decide +kernel
theorem dL_law_1373 : decode cL_law 1373 = .ok (.iaload, 1) := by decide +kernel
theorem dL_law_1374 : decode cL_law 1374 = .ok (.aload_n 0, 1) := by decide +kernel
theorem dL_law_1375 : decode cL_law 1375 = .ok (.iload_n 3, 1) := by decide +kernel
theorem dL_law_1376 : decode cL_law 1376 = .ok (.iconst 4, 1) := by decide +kernel
theorem dL_law_1377 : decode cL_law 1377 = .ok (.iadd, 1) := by decide +kernel
theorem dL_law_1378 : decode cL_law 1378 = .ok (.iaload, 1) := by decide +kernel
theorem dL_law_1379 : decode cL_law 1379 = .ok (.invokevirtual 157, 3) := by decide +kernel
theorem dL_law_1382 : decode cL_law 1382 = .ok (.aload_n 2, 1) := by decide +kernel
theorem dL_law_1383 : decode cL_law 1383 = .ok (.aload_n 0, 1) := by decide +kernel
theorem dL_law_1384 : decode cL_law 1384 = .ok (.iload_n 3, 1) := by decide +kernel
theorem dL_law_1385 : decode cL_law 1385 = .ok (.iconst 1, 1) := by decide +kernel
theorem dL_law_1386 : decode cL_law 1386 = .ok (.iadd, 1) := by decide +kernel
theorem dL_law_1387 : decode cL_law 1387 = .ok (.iaload, 1) := by decide +kernel
theorem dL_law_1388 : decode cL_law 1388 = .ok (.aload_n 0, 1) := by decide +kernel
theorem dL_law_1389 : decode cL_law 1389 = .ok (.iload_n 3, 1) := by decide +kernel
theorem dL_law_1390 : decode cL_law 1390 = .ok (.iconst 2, 1) := by decide +kernel
theorem dL_law_1391 : decode cL_law 1391 = .ok (.iadd, 1) := by decide +kernel
theorem dL_law_1392 : decode cL_law 1392 = .ok (.iaload, 1) := by decide +kernel
theorem dL_law_1393 : decode cL_law 1393 = .ok (.aload_n 0, 1) := by decide +kernel
theorem dL_law_1394 : decode cL_law 1394 = .ok (.iload_n 3, 1) := by decide +kernel
theorem dL_law_1395 : decode cL_law 1395 = .ok (.iconst 3, 1) := by decide +kernel
theorem dL_law_1396 : decode cL_law 1396 = .ok (.iadd, 1) := by decide +kernel
theorem dL_law_1397 : decode cL_law 1397 = .ok (.iaload, 1) := by decide +kernel
theorem dL_law_1398 : decode cL_law 1398 = .ok (.aload_n 0, 1) := by decide +kernel
theorem dL_law_1399 : decode cL_law 1399 = .ok (.iload_n 3, 1) := by decide +kernel
theorem dL_law_1400 : decode cL_law 1400 = .ok (.iconst 4, 1) := by decide +kernel
theorem dL_law_1401 : decode cL_law 1401 = .ok (.iadd, 1) := by decide +kernel
theorem dL_law_1402 : decode cL_law 1402 = .ok (.iaload, 1) := by decide +kernel
theorem dL_law_1403 : decode cL_law 1403 = .ok (.invokevirtual 160, 3) := by decide +kernel
theorem dL_law_1406 : decode cL_law 1406 = .ok (.if_icmp .eq 242, 3) := by decide +kernel
theorem dL_law_1409 : decode cL_law 1409 = .ok (.iconst 0, 1) := by decide +kernel
theorem dL_law_1410 : decode cL_law 1410 = .ok (.ireturn, 1) := by decide +kernel
theorem dL_law_1411 : decode cL_law 1411 = .ok (.aload_n 1, 1) := by decide +kernel
theorem dL_law_1412 : decode cL_law 1412 = .ok (.invokevirtual 161, 3) := by decide +kernel
theorem dL_law_1415 : decode cL_law 1415 = .ok (.aload_n 2, 1) := by decide +kernel
theorem dL_law_1416 : decode cL_law 1416 = .ok (.invokevirtual 164, 3) := by decide +kernel
theorem dL_law_1419 : decode cL_law 1419 = .ok (.if_icmp .eq 229, 3) := by decide +kernel
theorem dL_law_1422 : decode cL_law 1422 = .ok (.iconst 0, 1) := by decide +kernel
theorem dL_law_1423 : decode cL_law 1423 = .ok (.ireturn, 1) := by decide +kernel
theorem dL_law_1424 : decode cL_law 1424 = .ok (.aload_n 1, 1) := by decide +kernel
theorem dL_law_1425 : decode cL_law 1425 = .ok (.aload_n 0, 1) := by decide +kernel
theorem dL_law_1426 : decode cL_law 1426 = .ok (.iload_n 3, 1) := by decide +kernel
theorem dL_law_1427 : decode cL_law 1427 = .ok (.iconst 1, 1) := by decide +kernel
theorem dL_law_1428 : decode cL_law 1428 = .ok (.iadd, 1) := by decide +kernel
theorem dL_law_1429 : decode cL_law 1429 = .ok (.iaload, 1) := by decide +kernel
theorem dL_law_1430 : decode cL_law 1430 = .ok (.invokevirtual 165, 3) := by decide +kernel
theorem dL_law_1433 : decode cL_law 1433 = .ok (.aload_n 2, 1) := by decide +kernel
theorem dL_law_1434 : decode cL_law 1434 = .ok (.aload_n 0, 1) := by decide +kernel
theorem dL_law_1435 : decode cL_law 1435 = .ok (.iload_n 3, 1) := by decide +kernel
theorem dL_law_1436 : decode cL_law 1436 = .ok (.iconst 1, 1) := by decide +kernel
theorem dL_law_1437 : decode cL_law 1437 = .ok (.iadd, 1) := by decide +kernel
theorem dL_law_1438 : decode cL_law 1438 = .ok (.iaload, 1) := by decide +kernel
theorem dL_law_1439 : decode cL_law 1439 = .ok (.invokevirtual 169, 3) := by decide +kernel
theorem dL_law_1442 : decode cL_law 1442 = .ok (.if_icmp .eq 206, 3) := by decide +kernel
theorem dL_law_1445 : decode cL_law 1445 = .ok (.iconst 0, 1) := by decide +kernel
theorem dL_law_1446 : decode cL_law 1446 = .ok (.ireturn, 1) := by decide +kernel
theorem dL_law_1447 : decode cL_law 1447 = .ok (.aload_n 1, 1) := by decide +kernel
theorem dL_law_1448 : decode cL_law 1448 = .ok (.aload_n 0, 1) := by decide +kernel
theorem dL_law_1449 : decode cL_law 1449 = .ok (.iload_n 3, 1) := by decide +kernel
theorem dL_law_1450 : decode cL_law 1450 = .ok (.iconst 1, 1) := by decide +kernel
theorem dL_law_1451 : decode cL_law 1451 = .ok (.iadd, 1) := by decide +kernel
theorem dL_law_1452 : decode cL_law 1452 = .ok (.iaload, 1) := by decide +kernel
theorem dL_law_1453 : decode cL_law 1453 = .ok (.invokevirtual 170, 3) := by decide +kernel
theorem dL_law_1456 : decode cL_law 1456 = .ok (.aload_n 2, 1) := by decide +kernel
theorem dL_law_1457 : decode cL_law 1457 = .ok (.aload_n 0, 1) := by decide +kernel
theorem dL_law_1458 : decode cL_law 1458 = .ok (.iload_n 3, 1) := by decide +kernel
theorem dL_law_1459 : decode cL_law 1459 = .ok (.iconst 1, 1) := by decide +kernel
theorem dL_law_1460 : decode cL_law 1460 = .ok (.iadd, 1) := by decide +kernel
theorem dL_law_1461 : decode cL_law 1461 = .ok (.iaload, 1) := by decide +kernel
theorem dL_law_1462 : decode cL_law 1462 = .ok (.invokevirtual 173, 3) := by decide +kernel
theorem dL_law_1465 : decode cL_law 1465 = .ok (.if_icmp .eq 183, 3) := by decide +kernel
theorem dL_law_1468 : decode cL_law 1468 = .ok (.iconst 0, 1) := by decide +kernel
theorem dL_law_1469 : decode cL_law 1469 = .ok (.ireturn, 1) := by decide +kernel
theorem dL_law_1470 : decode cL_law 1470 = .ok (.aload_n 1, 1) := by decide +kernel
theorem dL_law_1471 : decode cL_law 1471 = .ok (.aload_n 0, 1) := by decide +kernel
theorem dL_law_1472 : decode cL_law 1472 = .ok (.iload_n 3, 1) := by decide +kernel
theorem dL_law_1473 : decode cL_law 1473 = .ok (.iconst 1, 1) := by decide +kernel
theorem dL_law_1474 : decode cL_law 1474 = .ok (.iadd, 1) := by decide +kernel
theorem dL_law_1475 : decode cL_law 1475 = .ok (.iaload, 1) := by decide +kernel
theorem dL_law_1476 : decode cL_law 1476 = .ok (.aload_n 0, 1) := by decide +kernel
theorem dL_law_1477 : decode cL_law 1477 = .ok (.iload_n 3, 1) := by decide +kernel
theorem dL_law_1478 : decode cL_law 1478 = .ok (.iconst 2, 1) := by decide +kernel
theorem dL_law_1479 : decode cL_law 1479 = .ok (.iadd, 1) := by decide +kernel
theorem dL_law_1480 : decode cL_law 1480 = .ok (.iaload, 1) := by decide +kernel
theorem dL_law_1481 : decode cL_law 1481 = .ok (.invokevirtual 174, 3) := by decide +kernel
theorem dL_law_1484 : decode cL_law 1484 = .ok (.aload_n 2, 1) := by decide +kernel
theorem dL_law_1485 : decode cL_law 1485 = .ok (.aload_n 0, 1) := by decide +kernel
theorem dL_law_1486 : decode cL_law 1486 = .ok (.iload_n 3, 1) := by decide +kernel
theorem dL_law_1487 : decode cL_law 1487 = .ok (.iconst 1, 1) := by decide +kernel
theorem dL_law_1488 : decode cL_law 1488 = .ok (.iadd, 1) := by decide +kernel
theorem dL_law_1489 : decode cL_law 1489 = .ok (.iaload, 1) := by decide +kernel
theorem dL_law_1490 : decode cL_law 1490 = .ok (.aload_n 0, 1) := by decide +kernel
theorem dL_law_1491 : decode cL_law 1491 = .ok (.iload_n 3, 1) := by decide +kernel
theorem dL_law_1492 : decode cL_law 1492 = .ok (.iconst 2, 1) := by decide +kernel
theorem dL_law_1493 : decode cL_law 1493 = .ok (.iadd, 1) := by decide +kernel
theorem dL_law_1494 : decode cL_law 1494 = .ok (.iaload, 1) := by decide +kernel
theorem dL_law_1495 : decode cL_law 1495 = .ok (.invokevirtual 177, 3) := by decide +kernel
theorem dL_law_1498 : decode cL_law 1498 = .ok (.if_icmp .eq 150, 3) := by decide +kernel
theorem dL_law_1501 : decode cL_law 1501 = .ok (.iconst 0, 1) := by decide +kernel
theorem dL_law_1502 : decode cL_law 1502 = .ok (.ireturn, 1) := by decide +kernel
theorem dL_law_1503 : decode cL_law 1503 = .ok (.aload_n 1, 1) := by decide +kernel
theorem dL_law_1504 : decode cL_law 1504 = .ok (.invokevirtual 178, 3) := by decide +kernel
theorem dL_law_1507 : decode cL_law 1507 = .ok (.aload_n 2, 1) := by decide +kernel
theorem dL_law_1508 : decode cL_law 1508 = .ok (.invokevirtual 181, 3) := by decide +kernel
theorem dL_law_1511 : decode cL_law 1511 = .ok (.if_icmp .eq 137, 3) := by decide +kernel
theorem dL_law_1514 : decode cL_law 1514 = .ok (.iconst 0, 1) := by decide +kernel
theorem dL_law_1515 : decode cL_law 1515 = .ok (.ireturn, 1) := by decide +kernel
theorem dL_law_1516 : decode cL_law 1516 = .ok (.aload_n 1, 1) := by decide +kernel
theorem dL_law_1517 : decode cL_law 1517 = .ok (.aload_n 0, 1) := by decide +kernel
theorem dL_law_1518 : decode cL_law 1518 = .ok (.iload_n 3, 1) := by decide +kernel
theorem dL_law_1519 : decode cL_law 1519 = .ok (.iconst 1, 1) := by decide +kernel
theorem dL_law_1520 : decode cL_law 1520 = .ok (.iadd, 1) := by decide +kernel
theorem dL_law_1521 : decode cL_law 1521 = .ok (.iaload, 1) := by decide +kernel
theorem dL_law_1522 : decode cL_law 1522 = .ok (.aload_n 0, 1) := by decide +kernel
theorem dL_law_1523 : decode cL_law 1523 = .ok (.iload_n 3, 1) := by decide +kernel
theorem dL_law_1524 : decode cL_law 1524 = .ok (.iconst 2, 1) := by decide +kernel
theorem dL_law_1525 : decode cL_law 1525 = .ok (.iadd, 1) := by decide +kernel
theorem dL_law_1526 : decode cL_law 1526 = .ok (.iaload, 1) := by decide +kernel
theorem dL_law_1527 : decode cL_law 1527 = .ok (.aload_n 0, 1) := by decide +kernel
theorem dL_law_1528 : decode cL_law 1528 = .ok (.iload_n 3, 1) := by decide +kernel
theorem dL_law_1529 : decode cL_law 1529 = .ok (.iconst 3, 1) := by decide +kernel
theorem dL_law_1530 : decode cL_law 1530 = .ok (.iadd, 1) := by decide +kernel
theorem dL_law_1531 : decode cL_law 1531 = .ok (.iaload, 1) := by decide +kernel
theorem dL_law_1532 : decode cL_law 1532 = .ok (.invokevirtual 182, 3) := by decide +kernel
theorem dL_law_1535 : decode cL_law 1535 = .ok (.aload_n 2, 1) := by decide +kernel
theorem dL_law_1536 : decode cL_law 1536 = .ok (.aload_n 0, 1) := by decide +kernel
theorem dL_law_1537 : decode cL_law 1537 = .ok (.iload_n 3, 1) := by decide +kernel
theorem dL_law_1538 : decode cL_law 1538 = .ok (.iconst 1, 1) := by decide +kernel
theorem dL_law_1539 : decode cL_law 1539 = .ok (.iadd, 1) := by decide +kernel
theorem dL_law_1540 : decode cL_law 1540 = .ok (.iaload, 1) := by decide +kernel
theorem dL_law_1541 : decode cL_law 1541 = .ok (.aload_n 0, 1) := by decide +kernel
theorem dL_law_1542 : decode cL_law 1542 = .ok (.iload_n 3, 1) := by decide +kernel
theorem dL_law_1543 : decode cL_law 1543 = .ok (.iconst 2, 1) := by decide +kernel
theorem dL_law_1544 : decode cL_law 1544 = .ok (.iadd, 1) := by decide +kernel
theorem dL_law_1545 : decode cL_law 1545 = .ok (.iaload, 1) := by decide +kernel
theorem dL_law_1546 : decode cL_law 1546 = .ok (.aload_n 0, 1) := by decide +kernel
theorem dL_law_1547 : decode cL_law 1547 = .ok (.iload_n 3, 1) := by decide +kernel
theorem dL_law_1548 : decode cL_law 1548 = .ok (.iconst 3, 1) := by decide +kernel
theorem dL_law_1549 : decode cL_law 1549 = .ok (.iadd, 1) := by decide +kernel
theorem dL_law_1550 : decode cL_law 1550 = .ok (.iaload, 1) := by decide +kernel
theorem dL_law_1551 : decode cL_law 1551 = .ok (.invokevirtual 185, 3) := by decide +kernel
theorem dL_law_1554 : decode cL_law 1554 = .ok (.if_icmp .eq 94, 3) := by decide +kernel
theorem dL_law_1557 : decode cL_law 1557 = .ok (.iconst 0, 1) := by decide +kernel
theorem dL_law_1558 : decode cL_law 1558 = .ok (.ireturn, 1) := by decide +kernel
theorem dL_law_1559 : decode cL_law 1559 = .ok (.aload_n 1, 1) := by decide +kernel
theorem dL_law_1560 : decode cL_law 1560 = .ok (.aload_n 0, 1) := by decide +kernel
theorem dL_law_1561 : decode cL_law 1561 = .ok (.iload_n 3, 1) := by decide +kernel
theorem dL_law_1562 : decode cL_law 1562 = .ok (.iconst 1, 1) := by decide +kernel
theorem dL_law_1563 : decode cL_law 1563 = .ok (.iadd, 1) := by decide +kernel
theorem dL_law_1564 : decode cL_law 1564 = .ok (.iaload, 1) := by decide +kernel
theorem dL_law_1565 : decode cL_law 1565 = .ok (.aload_n 0, 1) := by decide +kernel
theorem dL_law_1566 : decode cL_law 1566 = .ok (.iload_n 3, 1) := by decide +kernel
theorem dL_law_1567 : decode cL_law 1567 = .ok (.iconst 2, 1) := by decide +kernel
theorem dL_law_1568 : decode cL_law 1568 = .ok (.iadd, 1) := by decide +kernel
theorem dL_law_1569 : decode cL_law 1569 = .ok (.iaload, 1) := by decide +kernel
theorem dL_law_1570 : decode cL_law 1570 = .ok (.aload_n 0, 1) := by decide +kernel
theorem dL_law_1571 : decode cL_law 1571 = .ok (.iload_n 3, 1) := by decide +kernel
theorem dL_law_1572 : decode cL_law 1572 = .ok (.iconst 3, 1) := by decide +kernel
theorem dL_law_1573 : decode cL_law 1573 = .ok (.iadd, 1) := by decide +kernel
theorem dL_law_1574 : decode cL_law 1574 = .ok (.iaload, 1) := by decide +kernel
theorem dL_law_1575 : decode cL_law 1575 = .ok (.aload_n 0, 1) := by decide +kernel
theorem dL_law_1576 : decode cL_law 1576 = .ok (.iload_n 3, 1) := by decide +kernel
theorem dL_law_1577 : decode cL_law 1577 = .ok (.iconst 4, 1) := by decide +kernel
theorem dL_law_1578 : decode cL_law 1578 = .ok (.iadd, 1) := by decide +kernel
theorem dL_law_1579 : decode cL_law 1579 = .ok (.iaload, 1) := by decide +kernel
theorem dL_law_1580 : decode cL_law 1580 = .ok (.aload_n 0, 1) := by decide +kernel
theorem dL_law_1581 : decode cL_law 1581 = .ok (.iload_n 3, 1) := by decide +kernel
theorem dL_law_1582 : decode cL_law 1582 = .ok (.iconst 5, 1) := by decide +kernel
theorem dL_law_1583 : decode cL_law 1583 = .ok (.iadd, 1) := by decide +kernel
theorem dL_law_1584 : decode cL_law 1584 = .ok (.iaload, 1) := by decide +kernel
theorem dL_law_1585 : decode cL_law 1585 = .ok (.invokevirtual 186, 3) := by decide +kernel
theorem dL_law_1588 : decode cL_law 1588 = .ok (.aload_n 2, 1) := by decide +kernel
theorem dL_law_1589 : decode cL_law 1589 = .ok (.aload_n 0, 1) := by decide +kernel
theorem dL_law_1590 : decode cL_law 1590 = .ok (.iload_n 3, 1) := by decide +kernel
theorem dL_law_1591 : decode cL_law 1591 = .ok (.iconst 1, 1) := by decide +kernel
theorem dL_law_1592 : decode cL_law 1592 = .ok (.iadd, 1) := by decide +kernel
theorem dL_law_1593 : decode cL_law 1593 = .ok (.iaload, 1) := by decide +kernel
theorem dL_law_1594 : decode cL_law 1594 = .ok (.aload_n 0, 1) := by decide +kernel
theorem dL_law_1595 : decode cL_law 1595 = .ok (.iload_n 3, 1) := by decide +kernel
theorem dL_law_1596 : decode cL_law 1596 = .ok (.iconst 2, 1) := by decide +kernel
theorem dL_law_1597 : decode cL_law 1597 = .ok (.iadd, 1) := by decide +kernel
theorem dL_law_1598 : decode cL_law 1598 = .ok (.iaload, 1) := by decide +kernel
theorem dL_law_1599 : decode cL_law 1599 = .ok (.aload_n 0, 1) := by decide +kernel
theorem dL_law_1600 : decode cL_law 1600 = .ok (.iload_n 3, 1) := by decide +kernel
theorem dL_law_1601 : decode cL_law 1601 = .ok (.iconst 3, 1) := by decide +kernel
theorem dL_law_1602 : decode cL_law 1602 = .ok (.iadd, 1) := by decide +kernel
theorem dL_law_1603 : decode cL_law 1603 = .ok (.iaload, 1) := by decide +kernel
theorem dL_law_1604 : decode cL_law 1604 = .ok (.aload_n 0, 1) := by decide +kernel
theorem dL_law_1605 : decode cL_law 1605 = .ok (.iload_n 3, 1) := by decide +kernel
theorem dL_law_1606 : decode cL_law 1606 = .ok (.iconst 4, 1) := by decide +kernel
theorem dL_law_1607 : decode cL_law 1607 = .ok (.iadd, 1) := by decide +kernel
theorem dL_law_1608 : decode cL_law 1608 = .ok (.iaload, 1) := by decide +kernel
theorem dL_law_1609 : decode cL_law 1609 = .ok (.aload_n 0, 1) := by decide +kernel
theorem dL_law_1610 : decode cL_law 1610 = .ok (.iload_n 3, 1) := by decide +kernel
theorem dL_law_1611 : decode cL_law 1611 = .ok (.iconst 5, 1) := by decide +kernel
theorem dL_law_1612 : decode cL_law 1612 = .ok (.iadd, 1) := by decide +kernel
theorem dL_law_1613 : decode cL_law 1613 = .ok (.iaload, 1) := by decide +kernel
theorem dL_law_1614 : decode cL_law 1614 = .ok (.invokevirtual 189, 3) := by decide +kernel
theorem dL_law_1617 : decode cL_law 1617 = .ok (.if_icmp .eq 31, 3) := by decide +kernel
theorem dL_law_1620 : decode cL_law 1620 = .ok (.iconst 0, 1) := by decide +kernel
theorem dL_law_1621 : decode cL_law 1621 = .ok (.ireturn, 1) := by decide +kernel
theorem dL_law_1622 : decode cL_law 1622 = .ok (.aload_n 1, 1) := by decide +kernel
theorem dL_law_1623 : decode cL_law 1623 = .ok (.invokevirtual 190, 3) := by decide +kernel
theorem dL_law_1626 : decode cL_law 1626 = .ok (.aload_n 2, 1) := by decide +kernel
theorem dL_law_1627 : decode cL_law 1627 = .ok (.invokevirtual 193, 3) := by decide +kernel
theorem dL_law_1630 : decode cL_law 1630 = .ok (.if_icmp .eq 18, 3) := by decide +kernel
theorem dL_law_1633 : decode cL_law 1633 = .ok (.iconst 0, 1) := by decide +kernel
theorem dL_law_1634 : decode cL_law 1634 = .ok (.ireturn, 1) := by decide +kernel
theorem dL_law_1635 : decode cL_law 1635 = .ok (.aload_n 1, 1) := by decide +kernel
theorem dL_law_1636 : decode cL_law 1636 = .ok (.invokevirtual 194, 3) := by decide +kernel
theorem dL_law_1639 : decode cL_law 1639 = .ok (.aload_n 2, 1) := by decide +kernel
theorem dL_law_1640 : decode cL_law 1640 = .ok (.invokevirtual 197, 3) := by decide +kernel
theorem dL_law_1643 : decode cL_law 1643 = .ok (.if_icmp .eq 5, 3) := by decide +kernel
theorem dL_law_1646 : decode cL_law 1646 = .ok (.iconst 0, 1) := by decide +kernel
theorem dL_law_1647 : decode cL_law 1647 = .ok (.ireturn, 1) := by decide +kernel
theorem dL_law_1648 : decode cL_law 1648 = .ok (.iinc 3 7, 3) := by decide +kernel
theorem dL_law_1651 : decode cL_law 1651 = .ok (.goto (-1633), 3) := by decide +kernel
theorem dL_law_1654 : decode cL_law 1654 = .ok (.iconst 1, 1) := by decide +kernel
theorem dL_law_1655 : decode cL_law 1655 = .ok (.ireturn, 1) := by decide +kernel
