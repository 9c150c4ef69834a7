theorem dX10_pour_101 : decode cX10_pour 101 = .ok (.iload_n 3, 1) := by decide +kernel
theorem dX10_pour_102 : decode cX10_pour 102 = .ok (.iaload, 1) := by decide +kernel
theorem dX10_pour_103 : decode cX10_pour 103 = .ok (.iload 4, 2) := by decide +kernel
theorem dX10_pour_105 : decode cX10_pour 105 = .ok (.isub, 1) := by decide +kernel
theorem dX10_pour_106 : decode cX10_pour 106 = .ok (.if_icmp .le 9, 3) := by decide +kernel
theorem dX10_pour_109 : decode cX10_pour 109 = .ok (.aload_n 0, 1) := by decide +kernel
theorem dX10_pour_110 : decode cX10_pour 110 = .ok (.iconst 3, 1) := by decide +kernel
theorem dX10_pour_111 : decode cX10_pour 111 = .ok (.invokevirtual 88, 3) := by decide +kernel
theorem dX10_pour_114 : decode cX10_pour 114 = .ok (.ireturn, 1) := by decide +kernel
theorem dX10_pour_115 : decode cX10_pour 115 = .ok (.iconst 0, 1) := by decide +kernel
theorem dX10_pour_116 : decode cX10_pour 116 = .ok (.istore 6, 2) := by decide +kernel
theorem dX10_pour_118 : decode cX10_pour 118 = .ok (.iload 6, 2) := by decide +kernel
theorem dX10_pour_120 : decode cX10_pour 120 = .ok (.iload 5, 2) := by decide +kernel
theorem dX10_pour_122 : decode cX10_pour 122 = .ok (.if_icmp .ge 58, 3) := by decide +kernel
theorem dX10_pour_125 : decode cX10_pour 125 = .ok (.iload_n 2, 1) := by decide +kernel
theorem dX10_pour_126 : decode cX10_pour 126 = .ok (.iload 4, 2) := by decide +kernel
theorem dX10_pour_128 : decode cX10_pour 128 = .ok (.if_icmp .ge 13, 3) := by decide +kernel
theorem dX10_pour_131 : decode cX10_pour 131 = .ok (.iload 5, 2) := by decide +kernel
theorem dX10_pour_133 : decode cX10_pour 133 = .ok (.iconst 1, 1) := by decide +kernel
theorem dX10_pour_134 : decode cX10_pour 134 = .ok (.isub, 1) := by decide +kernel
theorem dX10_pour_135 : decode cX10_pour 135 = .ok (.iload 6, 2) := by decide +kernel
theorem dX10_pour_137 : decode cX10_pour 137 = .ok (.isub, 1) := by decide +kernel
theorem dX10_pour_138 : decode cX10_pour 138 = .ok (.goto 5, 3) := by decide +kernel
theorem dX10_pour_141 : decode cX10_pour 141 = .ok (.iload 6, 2) := by decide +kernel
theorem dX10_pour_143 : decode cX10_pour 143 = .ok (.istore 7, 2) := by decide +kernel
theorem dX10_pour_145 : decode cX10_pour 145 = .ok (.aload_n 0, 1) := by decide +kernel
theorem dX10_pour_146 : decode cX10_pour 146 = .ok (.getfield 23, 3) := by decide +kernel
theorem dX10_pour_149 : decode cX10_pour 149 = .ok (.bipush 60, 2) := by decide +kernel
theorem dX10_pour_151 : decode cX10_pour 151 = .ok (.iload_n 3, 1) := by decide +kernel
theorem dX10_pour_152 : decode cX10_pour 152 = .ok (.imul, 1) := by decide +kernel
theorem dX10_pour_153 : decode cX10_pour 153 = .ok (.iload 4, 2) := by decide +kernel
theorem dX10_pour_155 : decode cX10_pour 155 = .ok (.iadd, 1) := by decide +kernel
theorem dX10_pour_156 : decode cX10_pour 156 = .ok (.iload 7, 2) := by decide +kernel
theorem dX10_pour_158 : decode cX10_pour 158 = .ok (.iadd, 1) := by decide +kernel
theorem dX10_pour_159 : decode cX10_pour 159 = .ok (.aload_n 0, 1) := by decide +kernel
theorem dX10_pour_160 : decode cX10_pour 160 = .ok (.getfield 23, 3) := by decide +kernel
theorem dX10_pour_163 : decode cX10_pour 163 = .ok (.bipush 60, 2) := by decide +kernel
theorem dX10_pour_165 : decode cX10_pour 165 = .ok (.iload_n 1, 1) := by decide +kernel
theorem dX10_pour_166 : decode cX10_pour 166 = .ok (.imul, 1) := by decide +kernel
theorem dX10_pour_167 : decode cX10_pour 167 = .ok (.iload_n 2, 1) := by decide +kernel
theorem dX10_pour_168 : decode cX10_pour 168 = .ok (.iadd, 1) := by decide +kernel
theorem dX10_pour_169 : decode cX10_pour 169 = .ok (.iload 7, 2) := by decide +kernel
theorem dX10_pour_171 : decode cX10_pour 171 = .ok (.iadd, 1) := by decide +kernel
theorem dX10_pour_172 : decode cX10_pour 172 = .ok (.laload, 1) := by decide +kernel
theorem dX10_pour_173 : decode cX10_pour 173 = .ok (.lastore, 1) := by decide +kernel
theorem dX10_pour_174 : decode cX10_pour 174 = .ok (.iinc 6 1, 3) := by decide +kernel
theorem dX10_pour_177 : decode cX10_pour 177 = .ok (.goto (-59), 3) := by decide +kernel
theorem dX10_pour_180 : decode cX10_pour 180 = .ok (.aload_n 0, 1) := by decide +kernel
theorem dX10_pour_181 : decode cX10_pour 181 = .ok (.iconst 0, 1) := by decide +kernel
theorem dX10_pour_182 : decode cX10_pour 182 = .ok (.invokevirtual 88, 3) := by decide +kernel
theorem dX10_pour_185 : decode cX10_pour 185 = .ok (.ireturn, 1) := by decide +kernel
theorem dX10_feed_0 : decode cX10_feed 0 = .ok (.aload_n 0, 1) := by decide +kernel
theorem dX10_feed_1 : decode cX10_feed 1 = .ok (.getfield 105, 3) := by decide +kernel
theorem dX10_feed_4 : decode cX10_feed 4 = .ok (.bipush 20, 2) := by decide +kernel
theorem dX10_feed_6 : decode cX10_feed 6 = .ok (.iadd, 1) := by decide +kernel
theorem dX10_feed_7 : decode cX10_feed 7 = .ok (.sipush 600, 3) := by decide +kernel
theorem dX10_feed_10 : decode cX10_feed 10 = .ok (.if_icmp .le 5, 3) := by decide +kernel
theorem dX10_feed_13 : decode cX10_feed 13 = .ok (.iconst (-1), 1) := by decide +kernel
theorem dX10_feed_14 : decode cX10_feed 14 = .ok (.ireturn, 1) := by decide +kernel
theorem dX10_feed_15 : decode cX10_feed 15 = .ok (.aload_n 0, 1) := by decide +kernel
theorem dX10_feed_16 : decode cX10_feed 16 = .ok (.iload_n 1, 1) := by decide +kernel
theorem dX10_feed_17 : decode cX10_feed 17 = .ok (.invokevirtual 108, 3) := by decide +kernel
theorem dX10_feed_20 : decode cX10_feed 20 = .ok (.aload_n 0, 1) := by decide +kernel
theorem dX10_feed_21 : decode cX10_feed 21 = .ok (.iload_n 2, 1) := by decide +kernel
theorem dX10_feed_22 : decode cX10_feed 22 = .ok (.invokevirtual 108, 3) := by decide +kernel
theorem dX10_feed_25 : decode cX10_feed 25 = .ok (.aload_n 0, 1) := by decide +kernel
theorem dX10_feed_26 : decode cX10_feed 26 = .ok (.iload_n 3, 1) := by decide +kernel
theorem dX10_feed_27 : decode cX10_feed 27 = .ok (.invokevirtual 108, 3) := by decide +kernel
theorem dX10_feed_30 : decode cX10_feed 30 = .ok (.aload_n 0, 1) := by decide +kernel
theorem dX10_feed_31 : decode cX10_feed 31 = .ok (.iload 4, 2) := by decide +kernel
theorem dX10_feed_33 : decode cX10_feed 33 = .ok (.invokevirtual 108, 3) := by decide +kernel
theorem dX10_feed_36 : decode cX10_feed 36 = .ok (.aload_n 0, 1) := by decide +kernel
theorem dX10_feed_37 : decode cX10_feed 37 = .ok (.iload 5, 2) := by decide +kernel
theorem dX10_feed_39 : decode cX10_feed 39 = .ok (.invokevirtual 108, 3) := by decide +kernel
theorem dX10_feed_42 : decode cX10_feed 42 = .ok (.aload_n 0, 1) := by decide +kernel
theorem dX10_feed_43 : decode cX10_feed 43 = .ok (.getfield 105, 3) := by decide +kernel
theorem dX10_feed_46 : decode cX10_feed 46 = .ok (.ireturn, 1) := by decide +kernel
theorem dX10_four_0 : decode cX10_four 0 = .ok (.bipush 24, 2) := by decide +kernel
theorem dX10_four_2 : decode cX10_four 2 = .ok (.istore_n 2, 1) := by decide +kernel
theorem dX10_four_3 : decode cX10_four 3 = .ok (.iload_n 2, 1) := by decide +kernel
theorem dX10_four_4 : decode cX10_four 4 = .ok (.ifCond .lt 32, 3) := by decide +kernel
theorem dX10_four_7 : decode cX10_four 7 = .ok (.aload_n 0, 1) := by decide +kernel
theorem dX10_four_8 : decode cX10_four 8 = .ok (.getfield 27, 3) := by decide +kernel
theorem dX10_four_11 : decode cX10_four 11 = .ok (.aload_n 0, 1) := by decide +kernel
theorem dX10_four_12 : decode cX10_four 12 = .ok (.getfield 105, 3) := by decide +kernel
theorem dX10_four_15 : decode cX10_four 15 = .ok (.iload_n 1, 1) := by decide +kernel
theorem dX10_four_16 : decode cX10_four 16 = .ok (.iload_n 2, 1) := by decide +kernel
theorem dX10_four_17 : decode cX10_four 17 = .ok (.ishr, 1) := by decide +kernel
theorem dX10_four_18 : decode cX10_four 18 = .ok (.i2b, 1) := by decide +kernel
theorem dX10_four_19 : decode cX10_four 19 = .ok (.bastore, 1) := by decide +kernel
theorem dX10_four_20 : decode cX10_four 20 = .ok (.aload_n 0, 1) := by decide +kernel
theorem dX10_four_21 : decode cX10_four 21 = .ok (.dup, 1) := by decide +kernel
theorem dX10_four_22 : decode cX10_four 22 = .ok (.getfield 105, 3) := by decide +kernel
theorem dX10_four_25 : decode cX10_four 25 = .ok (.iconst 1, 1) := by decide +kernel
theorem dX10_four_26 : decode cX10_four 26 = .ok (.iadd, 1) := by decide +kernel
theorem dX10_four_27 : decode cX10_four 27 = .ok (.putfield 105, 3) := by decide +kernel
theorem dX10_four_30 : decode cX10_four 30 = .ok (.iinc 2 (-8), 3) := by decide +kernel
theorem dX10_four_33 : decode cX10_four 33 = .ok (.goto (-30), 3) := by decide +kernel
theorem dX10_four_36 : decode cX10_four 36 = .ok (.return_, 1) := by decide +kernel
theorem dX10_byteAt_0 : decode cX10_byteAt 0 = .ok (.iload_n 1, 1) := by decide +kernel
theorem dX10_byteAt_1 : decode cX10_byteAt 1 = .ok (.aload_n 0, 1) := by decide +kernel
theorem dX10_byteAt_2 : decode cX10_byteAt 2 = .ok (.getfield 112, 3) := by decide +kernel
theorem dX10_byteAt_5 : decode cX10_byteAt 5 = .ok (.if_icmp .ge 16, 3) := by decide +kernel
theorem dX10_byteAt_8 : decode cX10_byteAt 8 = .ok (.aload_n 0, 1) := by decide +kernel
theorem dX10_byteAt_9 : decode cX10_byteAt 9 = .ok (.getfield 31, 3) := by decide +kernel
theorem dX10_byteAt_12 : decode cX10_byteAt 12 = .ok (.iload_n 1, 1) := by decide +kernel
theorem dX10_byteAt_13 : decode cX10_byteAt 13 = .ok (.baload, 1) := by decide +kernel
theorem dX10_byteAt_14 : decode cX10_byteAt 14 = .ok (.sipush 255, 3) := by decide +kernel
theorem dX10_byteAt_17 : decode cX10_byteAt 17 = .ok (.iand, 1) := by decide +kernel
theorem dX10_byteAt_18 : decode cX10_byteAt 18 = .ok (.goto 4, 3) := by decide +kernel
theorem dX10_byteAt_21 : decode cX10_byteAt 21 = .ok (.iconst (-1), 1) := by decide +kernel
theorem dX10_byteAt_22 : decode cX10_byteAt 22 = .ok (.ireturn, 1) := by decide +kernel
theorem dX10_isSmall_0 : decode cX10_isSmall 0 = .ok (.iload_n 0, 1) := by decide +kernel
theorem dX10_isSmall_1 : decode cX10_isSmall 1 = .ok (.bipush 97, 2) := by decide +kernel
theorem dX10_isSmall_3 : decode cX10_isSmall 3 = .ok (.if_icmp .lt 13, 3) := by decide +kernel
theorem dX10_isSmall_6 : decode cX10_isSmall 6 = .ok (.iload_n 0, 1) := by decide +kernel
theorem dX10_isSmall_7 : decode cX10_isSmall 7 = .ok (.bipush 122, 2) := by decide +kernel
theorem dX10_isSmall_9 : decode cX10_isSmall 9 = .ok (.if_icmp .gt 7, 3) := by decide +kernel
theorem dX10_isSmall_12 : decode cX10_isSmall 12 = .ok (.iconst 1, 1) := by decide +kernel
theorem dX10_isSmall_13 : decode cX10_isSmall 13 = .ok (.goto 4, 3) := by decide +kernel
theorem dX10_isSmall_16 : decode cX10_isSmall 16 = .ok (.iconst 0, 1) := by decide +kernel
theorem dX10_isSmall_17 : decode cX10_isSmall 17 = .ok (.ireturn, 1) := by decide +kernel
theorem dX10_isDigit_0 : decode cX10_isDigit 0 = .ok (.iload_n 0, 1) := by decide +kernel
theorem dX10_isDigit_1 : decode cX10_isDigit 1 = .ok (.bipush 48, 2) := by decide +kernel
theorem dX10_isDigit_3 : decode cX10_isDigit 3 = .ok (.if_icmp .lt 13, 3) := by decide +kernel
theorem dX10_isDigit_6 : decode cX10_isDigit 6 = .ok (.iload_n 0, 1) := by decide +kernel
theorem dX10_isDigit_7 : decode cX10_isDigit 7 = .ok (.bipush 57, 2) := by decide +kernel
theorem dX10_isDigit_9 : decode cX10_isDigit 9 = .ok (.if_icmp .gt 7, 3) := by decide +kernel
theorem dX10_isDigit_12 : decode cX10_isDigit 12 = .ok (.iconst 1, 1) := by decide +kernel
theorem dX10_isDigit_13 : decode cX10_isDigit 13 = .ok (.goto 4, 3) := by decide +kernel
theorem dX10_isDigit_16 : decode cX10_isDigit 16 = .ok (.iconst 0, 1) := by decide +kernel
theorem dX10_isDigit_17 : decode cX10_isDigit 17 = .ok (.ireturn, 1) := by decide +kernel
theorem dX10_ahead_0 : decode cX10_ahead 0 = .ok (.aload_n 0, 1) := by decide +kernel
theorem dX10_ahead_1 : decode cX10_ahead 1 = .ok (.aload_n 0, 1) := by decide +kernel
theorem dX10_ahead_2 : decode cX10_ahead 2 = .ok (.getfield 115, 3) := by decide +kernel
theorem dX10_ahead_5 : decode cX10_ahead 5 = .ok (.invokevirtual 118, 3) := by decide +kernel
theorem dX10_ahead_8 : decode cX10_ahead 8 = .ok (.bipush 32, 2) := by decide +kernel
theorem dX10_ahead_10 : decode cX10_ahead 10 = .ok (.if_icmp .eq 16, 3) := by decide +kernel
theorem dX10_ahead_13 : decode cX10_ahead 13 = .ok (.aload_n 0, 1) := by decide +kernel
theorem dX10_ahead_14 : decode cX10_ahead 14 = .ok (.aload_n 0, 1) := by decide +kernel
theorem dX10_ahead_15 : decode cX10_ahead 15 = .ok (.getfield 115, 3) := by decide +kernel
theorem dX10_ahead_18 : decode cX10_ahead 18 = .ok (.invokevirtual 118, 3) := by decide +kernel
theorem dX10_ahead_21 : decode cX10_ahead 21 = .ok (.bipush 10, 2) := by decide +kernel
theorem dX10_ahead_23 : decode cX10_ahead 23 = .ok (.if_icmp .ne 16, 3) := by decide +kernel
theorem dX10_ahead_26 : decode cX10_ahead 26 = .ok (.aload_n 0, 1) := by decide +kernel
theorem dX10_ahead_27 : decode cX10_ahead 27 = .ok (.dup, 1) := by decide +kernel
theorem dX10_ahead_28 : decode cX10_ahead 28 = .ok (.getfield 115, 3) := by decide +kernel
theorem dX10_ahead_31 : decode cX10_ahead 31 = .ok (.iconst 1, 1) := by decide +kernel
theorem dX10_ahead_32 : decode cX10_ahead 32 = .ok (.iadd, 1) := by decide +kernel
theorem dX10_ahead_33 : decode cX10_ahead 33 = .ok (.putfield 115, 3) := by decide +kernel
theorem dX10_ahead_36 : decode cX10_ahead 36 = .ok (.goto (-36), 3) := by decide +kernel
theorem dX10_ahead_39 : decode cX10_ahead 39 = .ok (.aload_n 0, 1) := by decide +kernel
theorem dX10_ahead_40 : decode cX10_ahead 40 = .ok (.aload_n 0, 1) := by decide +kernel
theorem dX10_ahead_41 : decode cX10_ahead 41 = .ok (.getfield 115, 3) := by decide +kernel
theorem dX10_ahead_44 : decode cX10_ahead 44 = .ok (.putfield 122, 3) := by decide +kernel
theorem dX10_ahead_47 : decode cX10_ahead 47 = .ok (.aload_n 0, 1) := by decide +kernel
theorem dX10_ahead_48 : decode cX10_ahead 48 = .ok (.aload_n 0, 1) := by decide +kernel
theorem dX10_ahead_49 : decode cX10_ahead 49 = .ok (.getfield 115, 3) := by decide +kernel
theorem dX10_ahead_52 : decode cX10_ahead 52 = .ok (.invokevirtual 118, 3) := by decide +kernel
theorem dX10_ahead_55 : decode cX10_ahead 55 = .ok (.istore_n 1, 1) := by decide +kernel
theorem dX10_ahead_56 : decode cX10_ahead 56 = .ok (.aload_n 0, 1) := by decide +kernel
theorem dX10_ahead_57 : decode cX10_ahead 57 = .ok (.iload_n 1, 1) := by decide +kernel
theorem dX10_ahead_58 : decode cX10_ahead 58 = .ok (.putfield 125, 3) := by decide +kernel
theorem dX10_ahead_61 : decode cX10_ahead 61 = .ok (.iload_n 1, 1) := by decide +kernel
theorem dX10_ahead_62 : decode cX10_ahead 62 = .ok (.iconst (-1), 1) := by decide +kernel
theorem dX10_ahead_63 : decode cX10_ahead 63 = .ok (.if_icmp .ne 11, 3) := by decide +kernel
theorem dX10_ahead_66 : decode cX10_ahead 66 = .ok (.aload_n 0, 1) := by decide +kernel
theorem dX10_ahead_67 : decode cX10_ahead 67 = .ok (.iconst 0, 1) := by decide +kernel
theorem dX10_ahead_68 : decode cX10_ahead 68 = .ok (.putfield 128, 3) := by decide +kernel
theorem dX10_ahead_71 : decode cX10_ahead 71 = .ok (.goto 163, 3) := by decide +kernel
theorem dX10_ahead_74 : decode cX10_ahead 74 = .ok (.iload_n 1, 1) := by decide +kernel
theorem dX10_ahead_75 : decode cX10_ahead 75 = .ok (.invokestatic 131, 3) := by decide +kernel
theorem dX10_ahead_78 : decode cX10_ahead 78 = .ok (.ifCond .eq 38, 3) := by decide +kernel
theorem dX10_ahead_81 : decode cX10_ahead 81 = .ok (.aload_n 0, 1) := by decide +kernel
theorem dX10_ahead_82 : decode cX10_ahead 82 = .ok (.aload_n 0, 1) := by decide +kernel
theorem dX10_ahead_83 : decode cX10_ahead 83 = .ok (.getfield 115, 3) := by decide +kernel
theorem dX10_ahead_86 : decode cX10_ahead 86 = .ok (.invokevirtual 118, 3) := by decide +kernel
theorem dX10_ahead_89 : decode cX10_ahead 89 = .ok (.invokestatic 131, 3) := by decide +kernel
theorem dX10_ahead_92 : decode cX10_ahead 92 = .ok (.ifCond .eq 16, 3) := by decide +kernel
theorem dX10_ahead_95 : decode cX10_ahead 95 = .ok (.aload_n 0, 1) := by decide +kernel
theorem dX10_ahead_96 : decode cX10_ahead 96 = .ok (.dup, 1) := by decide +kernel
theorem dX10_ahead_97 : decode cX10_ahead 97 = .ok (.getfield 115, 3) := by decide +kernel
theorem dX10_ahead_100 : decode cX10_ahead 100 = .ok (.iconst 1, 1) := by decide +kernel
theorem dX10_ahead_101 : decode cX10_ahead 101 = .ok (.iadd, 1) := by decide +kernel
theorem dX10_ahead_102 : decode cX10_ahead 102 = .ok (.putfield 115, 3) := by decide +kernel
theorem dX10_ahead_105 : decode cX10_ahead 105 = .ok (.goto (-24), 3) := by decide +kernel
theorem dX10_ahead_108 : decode cX10_ahead 108 = .ok (.aload_n 0, 1) := by decide +kernel
theorem dX10_ahead_109 : decode cX10_ahead 109 = .ok (.iconst 2, 1) := by decide +kernel
theorem dX10_ahead_110 : decode cX10_ahead 110 = .ok (.putfield 128, 3) := by decide +kernel
theorem dX10_ahead_113 : decode cX10_ahead 113 = .ok (.goto 121, 3) := by decide +kernel
theorem dX10_ahead_116 : decode cX10_ahead 116 = .ok (.iload_n 1, 1) := by decide +kernel
theorem dX10_ahead_117 : decode cX10_ahead 117 = .ok (.invokestatic 134, 3) := by decide +kernel
theorem dX10_ahead_120 : decode cX10_ahead 120 = .ok (.ifCond .eq 89, 3) := by decide +kernel
theorem dX10_ahead_123 : decode cX10_ahead 123 = .ok (.aload_n 0, 1) := by decide +kernel
theorem dX10_ahead_124 : decode cX10_ahead 124 = .ok (.iconst 0, 1) := by decide +kernel
theorem dX10_ahead_125 : decode cX10_ahead 125 = .ok (.putfield 125, 3) := by decide +kernel
theorem dX10_ahead_128 : decode cX10_ahead 128 = .ok (.aload_n 0, 1) := by decide +kernel
theorem dX10_ahead_129 : decode cX10_ahead 129 = .ok (.aload_n 0, 1) := by decide +kernel
theorem dX10_ahead_130 : decode cX10_ahead 130 = .ok (.getfield 115, 3) := by decide +kernel
theorem dX10_ahead_133 : decode cX10_ahead 133 = .ok (.invokevirtual 118, 3) := by decide +kernel
theorem dX10_ahead_136 : decode cX10_ahead 136 = .ok (.invokestatic 134, 3) := by decide +kernel
theorem dX10_ahead_139 : decode cX10_ahead 139 = .ok (.ifCond .eq 45, 3) := by decide +kernel
theorem dX10_ahead_142 : decode cX10_ahead 142 = .ok (.aload_n 0, 1) := by decide +kernel
theorem dX10_ahead_143 : decode cX10_ahead 143 = .ok (.sipush 1000, 3) := by decide +kernel
theorem dX10_ahead_146 : decode cX10_ahead 146 = .ok (.bipush 10, 2) := by decide +kernel
theorem dX10_ahead_148 : decode cX10_ahead 148 = .ok (.aload_n 0, 1) := by decide +kernel
theorem dX10_ahead_149 : decode cX10_ahead 149 = .ok (.getfield 125, 3) := by decide +kernel
theorem dX10_ahead_152 : decode cX10_ahead 152 = .ok (.imul, 1) := by decide +kernel
theorem dX10_ahead_153 : decode cX10_ahead 153 = .ok (.aload_n 0, 1) := by decide +kernel
theorem dX10_ahead_154 : decode cX10_ahead 154 = .ok (.aload_n 0, 1) := by decide +kernel
theorem dX10_ahead_155 : decode cX10_ahead 155 = .ok (.getfield 115, 3) := by decide +kernel
theorem dX10_ahead_158 : decode cX10_ahead 158 = .ok (.invokevirtual 118, 3) := by decide +kernel
theorem dX10_ahead_161 : decode cX10_ahead 161 = .ok (.iadd, 1) := by decide +kernel
theorem dX10_ahead_162 : decode cX10_ahead 162 = .ok (.bipush 48, 2) := by decide +kernel
theorem dX10_ahead_164 : decode cX10_ahead 164 = .ok (.isub, 1) := by decide +kernel
theorem dX10_ahead_165 : decode cX10_ahead 165 = .ok (.invokestatic 137, 3) := by decide +kernel
theorem dX10_ahead_168 : decode cX10_ahead 168 = .ok (.putfield 125, 3) := by decide +kernel
theorem dX10_ahead_171 : decode cX10_ahead 171 = .ok (.aload_n 0, 1) := by decide +kernel
theorem dX10_ahead_172 : decode cX10_ahead 172 = .ok (.dup, 1) := by decide +kernel
theorem dX10_ahead_173 : decode cX10_ahead 173 = .ok (.getfield 115, 3) := by decide +kernel
theorem dX10_ahead_176 : decode cX10_ahead 176 = .ok (.iconst 1, 1) := by decide +kernel
theorem dX10_ahead_177 : decode cX10_ahead 177 = .ok (.iadd, 1) := by decide +kernel
theorem dX10_ahead_178 : decode cX10_ahead 178 = .ok (.putfield 115, 3) := by decide +kernel
theorem dX10_ahead_181 : decode cX10_ahead 181 = .ok (.goto (-53), 3) := by decide +kernel
theorem dX10_ahead_184 : decode cX10_ahead 184 = .ok (.aload_n 0, 1) := by decide +kernel
theorem dX10_ahead_185 : decode cX10_ahead 185 = .ok (.aload_n 0, 1) := by decide +kernel
theorem dX10_ahead_186 : decode cX10_ahead 186 = .ok (.getfield 115, 3) := by decide +kernel
theorem dX10_ahead_189 : decode cX10_ahead 189 = .ok (.aload_n 0, 1) := by decide +kernel
theorem dX10_ahead_190 : decode cX10_ahead 190 = .ok (.getfield 122, 3) := by decide +kernel
theorem dX10_ahead_193 : decode cX10_ahead 193 = .ok (.isub, 1) := by decide +kernel
theorem dX10_ahead_194 : decode cX10_ahead 194 = .ok (.iconst 2, 1) := by decide +kernel
theorem dX10_ahead_195 : decode cX10_ahead 195 = .ok (.if_icmp .le 7, 3) := by decide +kernel
theorem dX10_ahead_198 : decode cX10_ahead 198 = .ok (.iconst 1, 1) := by decide +kernel
theorem dX10_ahead_199 : decode cX10_ahead 199 = .ok (.goto 4, 3) := by decide +kernel
theorem dX10_ahead_202 : decode cX10_ahead 202 = .ok (.iconst 3, 1) := by decide +kernel
theorem dX10_ahead_203 : decode cX10_ahead 203 = .ok (.putfield 128, 3) := by decide +kernel
theorem dX10_ahead_206 : decode cX10_ahead 206 = .ok (.goto 28, 3) := by decide +kernel
theorem dX10_ahead_209 : decode cX10_ahead 209 = .ok (.aload_n 0, 1) := by decide +kernel
theorem dX10_ahead_210 : decode cX10_ahead 210 = .ok (.dup, 1) := by decide +kernel
theorem dX10_ahead_211 : decode cX10_ahead 211 = .ok (.getfield 115, 3) := by decide +kernel
theorem dX10_ahead_214 : decode cX10_ahead 214 = .ok (.iconst 1, 1) := by decide +kernel
theorem dX10_ahead_215 : decode cX10_ahead 215 = .ok (.iadd, 1) := by decide +kernel
theorem dX10_ahead_216 : decode cX10_ahead 216 = .ok (.putfield 115, 3) := by decide +kernel
theorem dX10_ahead_219 : decode cX10_ahead 219 = .ok (.aload_n 0, 1) := by decide +kernel
theorem dX10_ahead_220 : decode cX10_ahead 220 = .ok (.iload_n 1, 1) := by decide +kernel
theorem dX10_ahead_221 : decode cX10_ahead 221 = .ok (.bipush 59, 2) := by decide +kernel
theorem dX10_ahead_223 : decode cX10_ahead 223 = .ok (.if_icmp .ne 7, 3) := by decide +kernel
theorem dX10_ahead_226 : decode cX10_ahead 226 = .ok (.iconst 4, 1) := by decide +kernel
theorem dX10_ahead_227 : decode cX10_ahead 227 = .ok (.goto 4, 3) := by decide +kernel
theorem dX10_ahead_230 : decode cX10_ahead 230 = .ok (.iconst 1, 1) := by decide +kernel
theorem dX10_ahead_231 : decode cX10_ahead 231 = .ok (.putfield 128, 3) := by decide +kernel
theorem dX10_ahead_234 : decode cX10_ahead 234 = .ok (.return_, 1) := by decide +kernel
theorem dX10_keyWord_0 : decode cX10_keyWord 0 = .ok (.aload_n 0, 1) := by decide +kernel
theorem dX10_keyWord_1 : decode cX10_keyWord 1 = .ok (.getfield 128, 3) := by decide +kernel
theorem dX10_keyWord_4 : decode cX10_keyWord 4 = .ok (.iconst 2, 1) := by decide +kernel
theorem dX10_keyWord_5 : decode cX10_keyWord 5 = .ok (.if_icmp .eq 5, 3) := by decide +kernel
theorem dX10_keyWord_8 : decode cX10_keyWord 8 = .ok (.iconst (-1), 1) := by decide +kernel
theorem dX10_keyWord_9 : decode cX10_keyWord 9 = .ok (.ireturn, 1) := by decide +kernel
theorem dX10_keyWord_10 : decode cX10_keyWord 10 = .ok (.iconst 0, 1) := by decide +kernel
theorem dX10_keyWord_11 : decode cX10_keyWord 11 = .ok (.istore_n 1, 1) := by decide +kernel
theorem dX10_keyWord_12 : decode cX10_keyWord 12 = .ok (.iconst 1, 1) := by decide +kernel
theorem dX10_keyWord_13 : decode cX10_keyWord 13 = .ok (.istore_n 2, 1) := by decide +kernel
theorem dX10_keyWord_14 : decode cX10_keyWord 14 = .ok (.iload_n 2, 1) := by decide +kernel
theorem dX10_keyWord_15 : decode cX10_keyWord 15 = .ok (.ldc 142, 2) := by decide +kernel
theorem dX10_keyWord_17 : decode cX10_keyWord 17 = .ok (.invokevirtual 144, 3) := by decide +kernel
theorem dX10_keyWord_20 : decode cX10_keyWord 20 = .ok (.if_icmp .ge 111, 3) := by decide +kernel
theorem dX10_keyWord_23 : decode cX10_keyWord 23 = .ok (.iload_n 2, 1) := by decide +kernel
theorem dX10_keyWord_24 : decode cX10_keyWord 24 = .ok (.istore_n 3, 1) := by decide +kernel
theorem dX10_keyWord_25 : decode cX10_keyWord 25 = .ok (.ldc 142, 2) := by decide +kernel
theorem dX10_keyWord_27 : decode cX10_keyWord 27 = .ok (.iload_n 3, 1) := by decide +kernel
theorem dX10_keyWord_28 : decode cX10_keyWord 28 = .ok (.invokevirtual 150, 3) := by decide +kernel
theorem dX10_keyWord_31 : decode cX10_keyWord 31 = .ok (.bipush 32, 2) := by decide +kernel
theorem dX10_keyWord_33 : decode cX10_keyWord 33 = .ok (.if_icmp .eq 9, 3) := by decide +kernel
theorem dX10_keyWord_36 : decode cX10_keyWord 36 = .ok (.iinc 3 1, 3) := by decide +kernel
theorem dX10_keyWord_39 : decode cX10_keyWord 39 = .ok (.goto (-14), 3) := by decide +kernel
theorem dX10_keyWord_42 : decode cX10_keyWord 42 = .ok (.iload_n 3, 1) := by decide +kernel
theorem dX10_keyWord_43 : decode cX10_keyWord 43 = .ok (.iload_n 2, 1) := by decide +kernel
theorem dX10_keyWord_44 : decode cX10_keyWord 44 = .ok (.isub, 1) := by decide +kernel
theorem dX10_keyWord_45 : decode cX10_keyWord 45 = .ok (.aload_n 0, 1) := by decide +kernel
theorem dX10_keyWord_46 : decode cX10_keyWord 46 = .ok (.getfield 115, 3) := by decide +kernel
theorem dX10_keyWord_49 : decode cX10_keyWord 49 = .ok (.aload_n 0, 1) := by decide +kernel
theorem dX10_keyWord_50 : decode cX10_keyWord 50 = .ok (.getfield 122, 3) := by decide +kernel
theorem dX10_keyWord_53 : decode cX10_keyWord 53 = .ok (.isub, 1) := by decide +kernel
theorem dX10_keyWord_54 : decode cX10_keyWord 54 = .ok (.if_icmp .ne 7, 3) := by decide +kernel
theorem dX10_keyWord_57 : decode cX10_keyWord 57 = .ok (.iconst 1, 1) := by decide +kernel
theorem dX10_keyWord_58 : decode cX10_keyWord 58 = .ok (.goto 4, 3) := by decide +kernel
theorem dX10_keyWord_61 : decode cX10_keyWord 61 = .ok (.iconst 0, 1) := by decide +kernel
theorem dX10_keyWord_62 : decode cX10_keyWord 62 = .ok (.istore 4, 2) := by decide +kernel
theorem dX10_keyWord_64 : decode cX10_keyWord 64 = .ok (.iload_n 2, 1) := by decide +kernel
theorem dX10_keyWord_65 : decode cX10_keyWord 65 = .ok (.istore 5, 2) := by decide +kernel
theorem dX10_keyWord_67 : decode cX10_keyWord 67 = .ok (.iload 5, 2) := by decide +kernel
theorem dX10_keyWord_69 : decode cX10_keyWord 69 = .ok (.iload_n 3, 1) := by decide +kernel
theorem dX10_keyWord_70 : decode cX10_keyWord 70 = .ok (.if_icmp .ge 44, 3) := by decide +kernel
theorem dX10_keyWord_73 : decode cX10_keyWord 73 = .ok (.iload 4, 2) := by decide +kernel
theorem dX10_keyWord_75 : decode cX10_keyWord 75 = .ok (.ifCond .eq 39, 3) := by decide +kernel
theorem dX10_keyWord_78 : decode cX10_keyWord 78 = .ok (.ldc 142, 2) := by decide +kernel
theorem dX10_keyWord_80 : decode cX10_keyWord 80 = .ok (.iload 5, 2) := by decide +kernel
theorem dX10_keyWord_82 : decode cX10_keyWord 82 = .ok (.invokevirtual 150, 3) := by decide +kernel
theorem dX10_keyWord_85 : decode cX10_keyWord 85 = .ok (.aload_n 0, 1) := by decide +kernel
theorem dX10_keyWord_86 : decode cX10_keyWord 86 = .ok (.aload_n 0, 1) := by decide +kernel
theorem dX10_keyWord_87 : decode cX10_keyWord 87 = .ok (.getfield 122, 3) := by decide +kernel
theorem dX10_keyWord_90 : decode cX10_keyWord 90 = .ok (.iload 5, 2) := by decide +kernel
theorem dX10_keyWord_92 : decode cX10_keyWord 92 = .ok (.iadd, 1) := by decide +kernel
theorem dX10_keyWord_93 : decode cX10_keyWord 93 = .ok (.iload_n 2, 1) := by decide +kernel
theorem dX10_keyWord_94 : decode cX10_keyWord 94 = .ok (.isub, 1) := by decide +kernel
theorem dX10_keyWord_95 : decode cX10_keyWord 95 = .ok (.invokevirtual 118, 3) := by decide +kernel
theorem dX10_keyWord_98 : decode cX10_keyWord 98 = .ok (.if_icmp .ne 7, 3) := by decide +kernel
theorem dX10_keyWord_101 : decode cX10_keyWord 101 = .ok (.iconst 1, 1) := by decide +kernel
theorem dX10_keyWord_102 : decode cX10_keyWord 102 = .ok (.goto 4, 3) := by decide +kernel
theorem dX10_keyWord_105 : decode cX10_keyWord 105 = .ok (.iconst 0, 1) := by decide +kernel
theorem dX10_keyWord_106 : decode cX10_keyWord 106 = .ok (.istore 4, 2) := by decide +kernel
theorem dX10_keyWord_108 : decode cX10_keyWord 108 = .ok (.iinc 5 1, 3) := by decide +kernel
theorem dX10_keyWord_111 : decode cX10_keyWord 111 = .ok (.goto (-44), 3) := by decide +kernel
theorem dX10_keyWord_114 : decode cX10_keyWord 114 = .ok (.iload 4, 2) := by decide +kernel
theorem dX10_keyWord_116 : decode cX10_keyWord 116 = .ok (.ifCond .eq 5, 3) := by decide +kernel
theorem dX10_keyWord_119 : decode cX10_keyWord 119 = .ok (.iload_n 1, 1) := by decide +kernel
theorem dX10_keyWord_120 : decode cX10_keyWord 120 = .ok (.ireturn, 1) := by decide +kernel
theorem dX10_keyWord_121 : decode cX10_keyWord 121 = .ok (.iinc 1 1, 3) := by decide +kernel
theorem dX10_keyWord_124 : decode cX10_keyWord 124 = .ok (.iload_n 3, 1) := by decide +kernel
theorem dX10_keyWord_125 : decode cX10_keyWord 125 = .ok (.iconst 1, 1) := by decide +kernel
theorem dX10_keyWord_126 : decode cX10_keyWord 126 = .ok (.iadd, 1) := by decide +kernel
theorem dX10_keyWord_127 : decode cX10_keyWord 127 = .ok (.istore_n 2, 1) := by decide +kernel
theorem dX10_keyWord_128 : decode cX10_keyWord 128 = .ok (.goto (-114), 3) := by decide +kernel
theorem dX10_keyWord_131 : decode cX10_keyWord 131 = .ok (.iconst (-1), 1) := by decide +kernel
theorem dX10_keyWord_132 : decode cX10_keyWord 132 = .ok (.ireturn, 1) := by decide +kernel
theorem dX10_fails_0 : decode cX10_fails 0 = .ok (.aload_n 0, 1) := by decide +kernel
theorem dX10_fails_1 : decode cX10_fails 1 = .ok (.getfield 154, 3) := by decide +kernel
theorem dX10_fails_4 : decode cX10_fails 4 = .ok (.ifCond .ne 28, 3) := by decide +kernel
theorem dX10_fails_7 : decode cX10_fails 7 = .ok (.aload_n 0, 1) := by decide +kernel
theorem dX10_fails_8 : decode cX10_fails 8 = .ok (.aload_n 0, 1) := by decide +kernel
theorem dX10_fails_9 : decode cX10_fails 9 = .ok (.getfield 128, 3) := by decide +kernel
theorem dX10_fails_12 : decode cX10_fails 12 = .ok (.iconst 1, 1) := by decide +kernel
theorem dX10_fails_13 : decode cX10_fails 13 = .ok (.if_icmp .ne 7, 3) := by decide +kernel
theorem dX10_fails_16 : decode cX10_fails 16 = .ok (.iconst 1, 1) := by decide +kernel
theorem dX10_fails_17 : decode cX10_fails 17 = .ok (.goto 4, 3) := by decide +kernel
theorem dX10_fails_20 : decode cX10_fails 20 = .ok (.iload_n 1, 1) := by decide +kernel
theorem dX10_fails_21 : decode cX10_fails 21 = .ok (.putfield 154, 3) := by decide +kernel
theorem dX10_fails_24 : decode cX10_fails 24 = .ok (.aload_n 0, 1) := by decide +kernel
theorem dX10_fails_25 : decode cX10_fails 25 = .ok (.aload_n 0, 1) := by decide +kernel
theorem dX10_fails_26 : decode cX10_fails 26 = .ok (.getfield 122, 3) := by decide +kernel
theorem dX10_fails_29 : decode cX10_fails 29 = .ok (.putfield 38, 3) := by decide +kernel
theorem dX10_fails_32 : decode cX10_fails 32 = .ok (.iconst 0, 1) := by decide +kernel
theorem dX10_fails_33 : decode cX10_fails 33 = .ok (.ireturn, 1) := by decide +kernel
theorem dX10_wantWord_0 : decode cX10_wantWord 0 = .ok (.aload_n 0, 1) := by decide +kernel
theorem dX10_wantWord_1 : decode cX10_wantWord 1 = .ok (.invokevirtual 157, 3) := by decide +kernel
theorem dX10_wantWord_4 : decode cX10_wantWord 4 = .ok (.iload_n 1, 1) := by decide +kernel
theorem dX10_wantWord_5 : decode cX10_wantWord 5 = .ok (.if_icmp .eq 9, 3) := by decide +kernel
theorem dX10_wantWord_8 : decode cX10_wantWord 8 = .ok (.aload_n 0, 1) := by decide +kernel
theorem dX10_wantWord_9 : decode cX10_wantWord 9 = .ok (.iconst 2, 1) := by decide +kernel
theorem dX10_wantWord_10 : decode cX10_wantWord 10 = .ok (.invokevirtual 160, 3) := by decide +kernel
theorem dX10_wantWord_13 : decode cX10_wantWord 13 = .ok (.ireturn, 1) := by decide +kernel
theorem dX10_wantWord_14 : decode cX10_wantWord 14 = .ok (.aload_n 0, 1) := by decide +kernel
theorem dX10_wantWord_15 : decode cX10_wantWord 15 = .ok (.invokevirtual 163, 3) := by decide +kernel
theorem dX10_wantWord_18 : decode cX10_wantWord 18 = .ok (.iconst 1, 1) := by decide +kernel
theorem dX10_wantWord_19 : decode cX10_wantWord 19 = .ok (.ireturn, 1) := by decide +kernel
theorem dX10_isName_0 : decode cX10_isName 0 = .ok (.aload_n 0, 1) := by decide +kernel
theorem dX10_isName_1 : decode cX10_isName 1 = .ok (.getfield 128, 3) := by decide +kernel
theorem dX10_isName_4 : decode cX10_isName 4 = .ok (.iconst 2, 1) := by decide +kernel
theorem dX10_isName_5 : decode cX10_isName 5 = .ok (.if_icmp .ne 29, 3) := by decide +kernel
theorem dX10_isName_8 : decode cX10_isName 8 = .ok (.aload_n 0, 1) := by decide +kernel
theorem dX10_isName_9 : decode cX10_isName 9 = .ok (.getfield 115, 3) := by decide +kernel
theorem dX10_isName_12 : decode cX10_isName 12 = .ok (.aload_n 0, 1) := by decide +kernel
theorem dX10_isName_13 : decode cX10_isName 13 = .ok (.getfield 122, 3) := by decide +kernel
theorem dX10_isName_16 : decode cX10_isName 16 = .ok (.isub, 1) := by decide +kernel
theorem dX10_isName_17 : decode cX10_isName 17 = .ok (.bipush 8, 2) := by decide +kernel
theorem dX10_isName_19 : decode cX10_isName 19 = .ok (.if_icmp .gt 15, 3) := by decide +kernel
theorem dX10_isName_22 : decode cX10_isName 22 = .ok (.aload_n 0, 1) := by decide +kernel
theorem dX10_isName_23 : decode cX10_isName 23 = .ok (.invokevirtual 157, 3) := by decide +kernel
theorem dX10_isName_26 : decode cX10_isName 26 = .ok (.iconst (-1), 1) := by decide +kernel
theorem dX10_isName_27 : decode cX10_isName 27 = .ok (.if_icmp .ne 7, 3) := by decide +kernel
theorem dX10_isName_30 : decode cX10_isName 30 = .ok (.iconst 1, 1) := by decide +kernel
theorem dX10_isName_31 : decode cX10_isName 31 = .ok (.goto 4, 3) := by decide +kernel
theorem dX10_isName_34 : decode cX10_isName 34 = .ok (.iconst 0, 1) := by decide +kernel
theorem dX10_isName_35 : decode cX10_isName 35 = .ok (.ireturn, 1) := by decide +kernel
theorem dX10_nameHere_0 : decode cX10_nameHere 0 = .ok (.lconst 0, 1) := by decide +kernel
theorem dX10_nameHere_1 : decode cX10_nameHere 1 = .ok (.lstore_n 1, 1) := by decide +kernel
theorem dX10_nameHere_2 : decode cX10_nameHere 2 = .ok (.aload_n 0, 1) := by decide +kernel
theorem dX10_nameHere_3 : decode cX10_nameHere 3 = .ok (.getfield 122, 3) := by decide +kernel
theorem dX10_nameHere_6 : decode cX10_nameHere 6 = .ok (.istore_n 3, 1) := by decide +kernel
theorem dX10_nameHere_7 : decode cX10_nameHere 7 = .ok (.iload_n 3, 1) := by decide +kernel
theorem dX10_nameHere_8 : decode cX10_nameHere 8 = .ok (.aload_n 0, 1) := by decide +kernel
theorem dX10_nameHere_9 : decode cX10_nameHere 9 = .ok (.getfield 115, 3) := by decide +kernel
theorem dX10_nameHere_12 : decode cX10_nameHere 12 = .ok (.if_icmp .ge 21, 3) := by decide +kernel
theorem dX10_nameHere_15 : decode cX10_nameHere 15 = .ok (.lload_n 1, 1) := by decide +kernel
theorem dX10_nameHere_16 : decode cX10_nameHere 16 = .ok (.bipush 8, 2) := by decide +kernel
theorem dX10_nameHere_18 : decode cX10_nameHere 18 = .ok (.lshl, 1) := by decide +kernel
theorem dX10_nameHere_19 : decode cX10_nameHere 19 = .ok (.aload_n 0, 1) := by decide +kernel
theorem dX10_nameHere_20 : decode cX10_nameHere 20 = .ok (.iload_n 3, 1) := by decide +kernel
theorem dX10_nameHere_21 : decode cX10_nameHere 21 = .ok (.invokevirtual 118, 3) := by decide +kernel
theorem dX10_nameHere_24 : decode cX10_nameHere 24 = .ok (.i2l, 1) := by decide +kernel
theorem dX10_nameHere_25 : decode cX10_nameHere 25 = .ok (.lor, 1) := by decide +kernel
theorem dX10_nameHere_26 : decode cX10_nameHere 26 = .ok (.lstore_n 1, 1) := by decide +kernel
theorem dX10_nameHere_27 : decode cX10_nameHere 27 = .ok (.iinc 3 1, 3) := by decide +kernel
theorem dX10_nameHere_30 : decode cX10_nameHere 30 = .ok (.goto (-23), 3) := by decide +kernel
theorem dX10_nameHere_33 : decode cX10_nameHere 33 = .ok (.lload_n 1, 1) := by decide +kernel
theorem dX10_nameHere_34 : decode cX10_nameHere 34 = .ok (.lreturn, 1) := by decide +kernel
theorem dX10_number_0 : decode cX10_number 0 = .ok (.aload_n 0, 1) := by decide +kernel
theorem dX10_number_1 : decode cX10_number 1 = .ok (.getfield 128, 3) := by decide +kernel
theorem dX10_number_4 : decode cX10_number 4 = .ok (.iconst 3, 1) := by decide +kernel
theorem dX10_number_5 : decode cX10_number 5 = .ok (.if_icmp .eq 9, 3) := by decide +kernel
theorem dX10_number_8 : decode cX10_number 8 = .ok (.aload_n 0, 1) := by decide +kernel
theorem dX10_number_9 : decode cX10_number 9 = .ok (.iconst 2, 1) := by decide +kernel
theorem dX10_number_10 : decode cX10_number 10 = .ok (.invokevirtual 160, 3) := by decide +kernel
theorem dX10_number_13 : decode cX10_number 13 = .ok (.ireturn, 1) := by decide +kernel
theorem dX10_number_14 : decode cX10_number 14 = .ok (.aload_n 0, 1) := by decide +kernel
theorem dX10_number_15 : decode cX10_number 15 = .ok (.getfield 125, 3) := by decide +kernel
theorem dX10_number_18 : decode cX10_number 18 = .ok (.iload_n 2, 1) := by decide +kernel
theorem dX10_number_19 : decode cX10_number 19 = .ok (.if_icmp .lt 11, 3) := by decide +kernel
theorem dX10_number_22 : decode cX10_number 22 = .ok (.aload_n 0, 1) := by decide +kernel
theorem dX10_number_23 : decode cX10_number 23 = .ok (.getfield 125, 3) := by decide +kernel
theorem dX10_number_26 : decode cX10_number 26 = .ok (.iload_n 3, 1) := by decide +kernel
theorem dX10_number_27 : decode cX10_number 27 = .ok (.if_icmp .le 9, 3) := by decide +kernel
theorem dX10_number_30 : decode cX10_number 30 = .ok (.aload_n 0, 1) := by decide +kernel
theorem dX10_number_31 : decode cX10_number 31 = .ok (.iconst 4, 1) := by decide +kernel
theorem dX10_number_32 : decode cX10_number 32 = .ok (.invokevirtual 160, 3) := by decide +kernel
theorem dX10_number_35 : decode cX10_number 35 = .ok (.ireturn, 1) := by decide +kernel
theorem dX10_number_36 : decode cX10_number 36 = .ok (.aload_n 0, 1) := by decide +kernel
theorem dX10_number_37 : decode cX10_number 37 = .ok (.getfield 7, 3) := by decide +kernel
theorem dX10_number_40 : decode cX10_number 40 = .ok (.iload_n 1, 1) := by decide +kernel
theorem dX10_number_41 : decode cX10_number 41 = .ok (.aload_n 0, 1) := by decide +kernel
theorem dX10_number_42 : decode cX10_number 42 = .ok (.getfield 125, 3) := by decide +kernel
theorem dX10_number_45 : decode cX10_number 45 = .ok (.iastore, 1) := by decide +kernel
theorem dX10_number_46 : decode cX10_number 46 = .ok (.aload_n 0, 1) := by decide +kernel
theorem dX10_number_47 : decode cX10_number 47 = .ok (.invokevirtual 163, 3) := by decide +kernel
theorem dX10_number_50 : decode cX10_number 50 = .ok (.iconst 1, 1) := by decide +kernel
theorem dX10_number_51 : decode cX10_number 51 = .ok (.ireturn, 1) := by decide +kernel
theorem dX10_find_0 : decode cX10_find 0 = .ok (.iconst 0, 1) := by decide +kernel
theorem dX10_find_1 : decode cX10_find 1 = .ok (.istore 4, 2) := by decide +kernel
theorem dX10_find_3 : decode cX10_find 3 = .ok (.iload 4, 2) := by decide +kernel
theorem dX10_find_5 : decode cX10_find 5 = .ok (.iload_n 1, 1) := by decide +kernel
theorem dX10_find_6 : decode cX10_find 6 = .ok (.if_icmp .ge 21, 3) := by decide +kernel
theorem dX10_find_9 : decode cX10_find 9 = .ok (.aload_n 0, 1) := by decide +kernel
theorem dX10_find_10 : decode cX10_find 10 = .ok (.iload 4, 2) := by decide +kernel
theorem dX10_find_12 : decode cX10_find 12 = .ok (.laload, 1) := by decide +kernel
theorem dX10_find_13 : decode cX10_find 13 = .ok (.lload_n 2, 1) := by decide +kernel
theorem dX10_find_14 : decode cX10_find 14 = .ok (.lcmp, 1) := by decide +kernel
theorem dX10_find_15 : decode cX10_find 15 = .ok (.ifCond .ne 6, 3) := by decide +kernel
theorem dX10_find_18 : decode cX10_find 18 = .ok (.iload 4, 2) := by decide +kernel
theorem dX10_find_20 : decode cX10_find 20 = .ok (.ireturn, 1) := by decide +kernel
theorem dX10_find_21 : decode cX10_find 21 = .ok (.iinc 4 1, 3) := by decide +kernel
theorem dX10_find_24 : decode cX10_find 24 = .ok (.goto (-21), 3) := by decide +kernel
theorem dX10_find_27 : decode cX10_find 27 = .ok (.iconst (-1), 1) := by decide +kernel
theorem dX10_find_28 : decode cX10_find 28 = .ok (.ireturn, 1) := by decide +kernel
theorem dX10_aStrip_0 : decode cX10_aStrip 0 = .ok (.aload_n 0, 1) := by decide +kernel
theorem dX10_aStrip_1 : decode cX10_aStrip 1 = .ok (.getfield 7, 3) := by decide +kernel
theorem dX10_aStrip_4 : decode cX10_aStrip 4 = .ok (.sipush 400, 3) := by decide +kernel
theorem dX10_aStrip_7 : decode cX10_aStrip 7 = .ok (.iaload, 1) := by decide +kernel
theorem dX10_aStrip_8 : decode cX10_aStrip 8 = .ok (.istore_n 1, 1) := by decide +kernel
theorem dX10_aStrip_9 : decode cX10_aStrip 9 = .ok (.sipush 408, 3) := by decide +kernel
theorem dX10_aStrip_12 : decode cX10_aStrip 12 = .ok (.iconst 5, 1) := by decide +kernel
theorem dX10_aStrip_13 : decode cX10_aStrip 13 = .ok (.iload_n 1, 1) := by decide +kernel
theorem dX10_aStrip_14 : decode cX10_aStrip 14 = .ok (.imul, 1) := by decide +kernel
theorem dX10_aStrip_15 : decode cX10_aStrip 15 = .ok (.iadd, 1) := by decide +kernel
theorem dX10_aStrip_16 : decode cX10_aStrip 16 = .ok (.istore_n 2, 1) := by decide +kernel
theorem dX10_aStrip_17 : decode cX10_aStrip 17 = .ok (.iload_n 1, 1) := by decide +kernel
theorem dX10_aStrip_18 : decode cX10_aStrip 18 = .ok (.bipush 10, 2) := by decide +kernel
theorem dX10_aStrip_20 : decode cX10_aStrip 20 = .ok (.if_icmp .ne 9, 3) := by decide +kernel
theorem dX10_aStrip_23 : decode cX10_aStrip 23 = .ok (.aload_n 0, 1) := by decide +kernel
theorem dX10_aStrip_24 : decode cX10_aStrip 24 = .ok (.iconst 5, 1) := by decide +kernel
theorem dX10_aStrip_25 : decode cX10_aStrip 25 = .ok (.invokevirtual 160, 3) := by decide +kernel
theorem dX10_aStrip_28 : decode cX10_aStrip 28 = .ok (.ireturn, 1) := by decide +kernel
theorem dX10_aStrip_29 : decode cX10_aStrip 29 = .ok (.aload_n 0, 1) := by decide +kernel
theorem dX10_aStrip_30 : decode cX10_aStrip 30 = .ok (.invokevirtual 163, 3) := by decide +kernel
theorem dX10_aStrip_33 : decode cX10_aStrip 33 = .ok (.aload_n 0, 1) := by decide +kernel
theorem dX10_aStrip_34 : decode cX10_aStrip 34 = .ok (.invokevirtual 166, 3) := by decide +kernel
theorem dX10_aStrip_37 : decode cX10_aStrip 37 = .ok (.ifCond .ne 9, 3) := by decide +kernel
theorem dX10_aStrip_40 : decode cX10_aStrip 40 = .ok (.aload_n 0, 1) := by decide +kernel
theorem dX10_aStrip_41 : decode cX10_aStrip 41 = .ok (.iconst 2, 1) := by decide +kernel
theorem dX10_aStrip_42 : decode cX10_aStrip 42 = .ok (.invokevirtual 160, 3) := by decide +kernel
theorem dX10_aStrip_45 : decode cX10_aStrip 45 = .ok (.ireturn, 1) := by decide +kernel
theorem dX10_aStrip_46 : decode cX10_aStrip 46 = .ok (.aload_n 0, 1) := by decide +kernel
theorem dX10_aStrip_47 : decode cX10_aStrip 47 = .ok (.getfield 41, 3) := by decide +kernel
theorem dX10_aStrip_50 : decode cX10_aStrip 50 = .ok (.iload_n 1, 1) := by decide +kernel
theorem dX10_aStrip_51 : decode cX10_aStrip 51 = .ok (.aload_n 0, 1) := by decide +kernel
theorem dX10_aStrip_52 : decode cX10_aStrip 52 = .ok (.invokevirtual 170, 3) := by decide +kernel
theorem dX10_aStrip_55 : decode cX10_aStrip 55 = .ok (.invokestatic 174, 3) := by decide +kernel
theorem dX10_aStrip_58 : decode cX10_aStrip 58 = .ok (.iconst (-1), 1) := by decide +kernel
theorem dX10_aStrip_59 : decode cX10_aStrip 59 = .ok (.if_icmp .eq 9, 3) := by decide +kernel
theorem dX10_aStrip_62 : decode cX10_aStrip 62 = .ok (.aload_n 0, 1) := by decide +kernel
theorem dX10_aStrip_63 : decode cX10_aStrip 63 = .ok (.iconst 3, 1) := by decide +kernel
theorem dX10_aStrip_64 : decode cX10_aStrip 64 = .ok (.invokevirtual 160, 3) := by decide +kernel
theorem dX10_aStrip_67 : decode cX10_aStrip 67 = .ok (.ireturn, 1) := by decide +kernel
theorem dX10_aStrip_68 : decode cX10_aStrip 68 = .ok (.aload_n 0, 1) := by decide +kernel
theorem dX10_aStrip_69 : decode cX10_aStrip 69 = .ok (.getfield 41, 3) := by decide +kernel
theorem dX10_aStrip_72 : decode cX10_aStrip 72 = .ok (.iload_n 1, 1) := by decide +kernel
theorem dX10_aStrip_73 : decode cX10_aStrip 73 = .ok (.aload_n 0, 1) := by decide +kernel
theorem dX10_aStrip_74 : decode cX10_aStrip 74 = .ok (.invokevirtual 170, 3) := by decide +kernel
theorem dX10_aStrip_77 : decode cX10_aStrip 77 = .ok (.lastore, 1) := by decide +kernel
theorem dX10_aStrip_78 : decode cX10_aStrip 78 = .ok (.aload_n 0, 1) := by decide +kernel
theorem dX10_aStrip_79 : decode cX10_aStrip 79 = .ok (.invokevirtual 163, 3) := by decide +kernel
theorem dX10_aStrip_82 : decode cX10_aStrip 82 = .ok (.aload_n 0, 1) := by decide +kernel
theorem dX10_aStrip_83 : decode cX10_aStrip 83 = .ok (.bipush 6, 2) := by decide +kernel
theorem dX10_aStrip_85 : decode cX10_aStrip 85 = .ok (.invokevirtual 178, 3) := by decide +kernel
theorem dX10_aStrip_88 : decode cX10_aStrip 88 = .ok (.ifCond .eq 49, 3) := by decide +kernel
theorem dX10_aStrip_91 : decode cX10_aStrip 91 = .ok (.aload_n 0, 1) := by decide +kernel
theorem dX10_aStrip_92 : decode cX10_aStrip 92 = .ok (.iload_n 2, 1) := by decide +kernel
theorem dX10_aStrip_93 : decode cX10_aStrip 93 = .ok (.iconst 0, 1) := by decide +kernel
theorem dX10_aStrip_94 : decode cX10_aStrip 94 = .ok (.bipush 99, 2) := by decide +kernel
theorem dX10_aStrip_96 : decode cX10_aStrip 96 = .ok (.invokevirtual 181, 3) := by decide +kernel
theorem dX10_aStrip_99 : decode cX10_aStrip 99 = .ok (.ifCond .eq 38, 3) := by decide +kernel
theorem dX10_aStrip_102 : decode cX10_aStrip 102 = .ok (.aload_n 0, 1) := by decide +kernel
theorem dX10_aStrip_103 : decode cX10_aStrip 103 = .ok (.iload_n 2, 1) := by decide +kernel
theorem dX10_aStrip_104 : decode cX10_aStrip 104 = .ok (.iconst 1, 1) := by decide +kernel
theorem dX10_aStrip_105 : decode cX10_aStrip 105 = .ok (.iadd, 1) := by decide +kernel
theorem dX10_aStrip_106 : decode cX10_aStrip 106 = .ok (.iconst 0, 1) := by decide +kernel
theorem dX10_aStrip_107 : decode cX10_aStrip 107 = .ok (.bipush 99, 2) := by decide +kernel
theorem dX10_aStrip_109 : decode cX10_aStrip 109 = .ok (.invokevirtual 181, 3) := by decide +kernel
theorem dX10_aStrip_112 : decode cX10_aStrip 112 = .ok (.ifCond .eq 25, 3) := by decide +kernel
theorem dX10_aStrip_115 : decode cX10_aStrip 115 = .ok (.aload_n 0, 1) := by decide +kernel
theorem dX10_aStrip_116 : decode cX10_aStrip 116 = .ok (.bipush 7, 2) := by decide +kernel
theorem dX10_aStrip_118 : decode cX10_aStrip 118 = .ok (.invokevirtual 178, 3) := by decide +kernel
theorem dX10_aStrip_121 : decode cX10_aStrip 121 = .ok (.ifCond .eq 16, 3) := by decide +kernel
theorem dX10_aStrip_124 : decode cX10_aStrip 124 = .ok (.aload_n 0, 1) := by decide +kernel
theorem dX10_aStrip_125 : decode cX10_aStrip 125 = .ok (.iload_n 2, 1) := by decide +kernel
theorem dX10_aStrip_126 : decode cX10_aStrip 126 = .ok (.iconst 2, 1) := by decide +kernel
theorem dX10_aStrip_127 : decode cX10_aStrip 127 = .ok (.iadd, 1) := by decide +kernel
theorem dX10_aStrip_128 : decode cX10_aStrip 128 = .ok (.iconst 1, 1) := by decide +kernel
theorem dX10_aStrip_129 : decode cX10_aStrip 129 = .ok (.bipush 99, 2) := by decide +kernel
theorem dX10_aStrip_131 : decode cX10_aStrip 131 = .ok (.invokevirtual 181, 3) := by decide +kernel
theorem dX10_aStrip_134 : decode cX10_aStrip 134 = .ok (.ifCond .ne 5, 3) := by decide +kernel
theorem dX10_aStrip_137 : decode cX10_aStrip 137 = .ok (.iconst 0, 1) := by decide +kernel
theorem dX10_aStrip_138 : decode cX10_aStrip 138 = .ok (.ireturn, 1) := by decide +kernel
theorem dX10_aStrip_139 : decode cX10_aStrip 139 = .ok (.aload_n 0, 1) := by decide +kernel
theorem dX10_aStrip_140 : decode cX10_aStrip 140 = .ok (.getfield 7, 3) := by decide +kernel
theorem dX10_aStrip_143 : decode cX10_aStrip 143 = .ok (.iload_n 2, 1) := by decide +kernel
theorem dX10_aStrip_144 : decode cX10_aStrip 144 = .ok (.iconst 3, 1) := by decide +kernel
theorem dX10_aStrip_145 : decode cX10_aStrip 145 = .ok (.iadd, 1) := by decide +kernel
theorem dX10_aStrip_146 : decode cX10_aStrip 146 = .ok (.iconst 1, 1) := by decide +kernel
theorem dX10_aStrip_147 : decode cX10_aStrip 147 = .ok (.iastore, 1) := by decide +kernel
theorem dX10_aStrip_148 : decode cX10_aStrip 148 = .ok (.aload_n 0, 1) := by decide +kernel
theorem dX10_aStrip_149 : decode cX10_aStrip 149 = .ok (.getfield 7, 3) := by decide +kernel
theorem dX10_aStrip_152 : decode cX10_aStrip 152 = .ok (.iload_n 2, 1) := by decide +kernel
theorem dX10_aStrip_153 : decode cX10_aStrip 153 = .ok (.iconst 4, 1) := by decide +kernel
theorem dX10_aStrip_154 : decode cX10_aStrip 154 = .ok (.iadd, 1) := by decide +kernel
theorem dX10_aStrip_155 : decode cX10_aStrip 155 = .ok (.iconst (-1), 1) := by decide +kernel
theorem dX10_aStrip_156 : decode cX10_aStrip 156 = .ok (.iastore, 1) := by decide +kernel
theorem dX10_aStrip_157 : decode cX10_aStrip 157 = .ok (.aload_n 0, 1) := by decide +kernel
theorem dX10_aStrip_158 : decode cX10_aStrip 158 = .ok (.getfield 7, 3) := by decide +kernel
theorem dX10_aStrip_161 : decode cX10_aStrip 161 = .ok (.sipush 400, 3) := by decide +kernel
theorem dX10_aStrip_164 : decode cX10_aStrip 164 = .ok (.dup2, 1) := by decide +kernel
theorem dX10_aStrip_165 : decode cX10_aStrip 165 = .ok (.iaload, 1) := by decide +kernel
theorem dX10_aStrip_166 : decode cX10_aStrip 166 = .ok (.iconst 1, 1) := by decide +kernel
theorem dX10_aStrip_167 : decode cX10_aStrip 167 = .ok (.iadd, 1) := by decide +kernel
theorem dX10_aStrip_168 : decode cX10_aStrip 168 = .ok (.iastore, 1) := by decide +kernel
theorem dX10_aStrip_169 : decode cX10_aStrip 169 = .ok (.aload_n 0, 1) := by decide +kernel
theorem dX10_aStrip_170 : decode cX10_aStrip 170 = .ok (.invokevirtual 157, 3) := by decide +kernel
theorem dX10_aStrip_173 : decode cX10_aStrip 173 = .ok (.bipush 8, 2) := by decide +kernel
theorem dX10_aStrip_175 : decode cX10_aStrip 175 = .ok (.if_icmp .eq 5, 3) := by decide +kernel
theorem dX10_aStrip_178 : decode cX10_aStrip 178 = .ok (.iconst 1, 1) := by decide +kernel
theorem dX10_aStrip_179 : decode cX10_aStrip 179 = .ok (.ireturn, 1) := by decide +kernel
theorem dX10_aStrip_180 : decode cX10_aStrip 180 = .ok (.aload_n 0, 1) := by decide +kernel
theorem dX10_aStrip_181 : decode cX10_aStrip 181 = .ok (.invokevirtual 163, 3) := by decide +kernel
theorem dX10_aStrip_184 : decode cX10_aStrip 184 = .ok (.aload_n 0, 1) := by decide +kernel
theorem dX10_aStrip_185 : decode cX10_aStrip 185 = .ok (.iload_n 2, 1) := by decide +kernel
theorem dX10_aStrip_186 : decode cX10_aStrip 186 = .ok (.iconst 3, 1) := by decide +kernel
theorem dX10_aStrip_187 : decode cX10_aStrip 187 = .ok (.iadd, 1) := by decide +kernel
theorem dX10_aStrip_188 : decode cX10_aStrip 188 = .ok (.iconst 1, 1) := by decide +kernel
theorem dX10_aStrip_189 : decode cX10_aStrip 189 = .ok (.iconst 3, 1) := by decide +kernel
theorem dX10_aStrip_190 : decode cX10_aStrip 190 = .ok (.invokevirtual 181, 3) := by decide +kernel
theorem dX10_aStrip_193 : decode cX10_aStrip 193 = .ok (.ireturn, 1) := by decide +kernel
theorem dX10_aHarm_0 : decode cX10_aHarm 0 = .ok (.aload_n 0, 1) := by decide +kernel
theorem dX10_aHarm_1 : decode cX10_aHarm 1 = .ok (.getfield 7, 3) := by decide +kernel
theorem dX10_aHarm_4 : decode cX10_aHarm 4 = .ok (.sipush 401, 3) := by decide +kernel
theorem dX10_aHarm_7 : decode cX10_aHarm 7 = .ok (.iaload, 1) := by decide +kernel
theorem dX10_aHarm_8 : decode cX10_aHarm 8 = .ok (.istore_n 2, 1) := by decide +kernel
theorem dX10_aHarm_9 : decode cX10_aHarm 9 = .ok (.sipush 458, 3) := by decide +kernel
theorem dX10_aHarm_12 : decode cX10_aHarm 12 = .ok (.iconst 5, 1) := by decide +kernel
theorem dX10_aHarm_13 : decode cX10_aHarm 13 = .ok (.iload_n 2, 1) := by decide +kernel
theorem dX10_aHarm_14 : decode cX10_aHarm 14 = .ok (.imul, 1) := by decide +kernel
theorem dX10_aHarm_15 : decode cX10_aHarm 15 = .ok (.iadd, 1) := by decide +kernel
theorem dX10_aHarm_16 : decode cX10_aHarm 16 = .ok (.istore_n 3, 1) := by decide +kernel
theorem dX10_aHarm_17 : decode cX10_aHarm 17 = .ok (.iload_n 2, 1) := by decide +kernel
theorem dX10_aHarm_18 : decode cX10_aHarm 18 = .ok (.bipush 6, 2) := by decide +kernel
theorem dX10_aHarm_20 : decode cX10_aHarm 20 = .ok (.if_icmp .ne 9, 3) := by decide +kernel
theorem dX10_aHarm_23 : decode cX10_aHarm 23 = .ok (.aload_n 0, 1) := by decide +kernel
theorem dX10_aHarm_24 : decode cX10_aHarm 24 = .ok (.iconst 5, 1) := by decide +kernel
theorem dX10_aHarm_25 : decode cX10_aHarm 25 = .ok (.invokevirtual 160, 3) := by decide +kernel
theorem dX10_aHarm_28 : decode cX10_aHarm 28 = .ok (.ireturn, 1) := by decide +kernel
theorem dX10_aHarm_29 : decode cX10_aHarm 29 = .ok (.aload_n 0, 1) := by decide +kernel
theorem dX10_aHarm_30 : decode cX10_aHarm 30 = .ok (.invokevirtual 163, 3) := by decide +kernel
theorem dX10_aHarm_33 : decode cX10_aHarm 33 = .ok (.aload_n 0, 1) := by decide +kernel
theorem dX10_aHarm_34 : decode cX10_aHarm 34 = .ok (.getfield 7, 3) := by decide +kernel
theorem dX10_aHarm_37 : decode cX10_aHarm 37 = .ok (.iload_n 3, 1) := by decide +kernel
theorem dX10_aHarm_38 : decode cX10_aHarm 38 = .ok (.iload_n 1, 1) := by decide +kernel
theorem dX10_aHarm_39 : decode cX10_aHarm 39 = .ok (.iastore, 1) := by decide +kernel
theorem dX10_aHarm_40 : decode cX10_aHarm 40 = .ok (.iload_n 1, 1) := by decide +kernel
theorem dX10_aHarm_41 : decode cX10_aHarm 41 = .ok (.ifCond .ne 47, 3) := by decide +kernel
theorem dX10_aHarm_44 : decode cX10_aHarm 44 = .ok (.aload_n 0, 1) := by decide +kernel
theorem dX10_aHarm_45 : decode cX10_aHarm 45 = .ok (.iload_n 3, 1) := by decide +kernel
theorem dX10_aHarm_46 : decode cX10_aHarm 46 = .ok (.iconst 1, 1) := by decide +kernel
theorem dX10_aHarm_47 : decode cX10_aHarm 47 = .ok (.iadd, 1) := by decide +kernel
theorem dX10_aHarm_48 : decode cX10_aHarm 48 = .ok (.iconst 0, 1) := by decide +kernel
theorem dX10_aHarm_49 : decode cX10_aHarm 49 = .ok (.bipush 99, 2) := by decide +kernel
theorem dX10_aHarm_51 : decode cX10_aHarm 51 = .ok (.invokevirtual 181, 3) := by decide +kernel
theorem dX10_aHarm_54 : decode cX10_aHarm 54 = .ok (.ifCond .eq 32, 3) := by decide +kernel
theorem dX10_aHarm_57 : decode cX10_aHarm 57 = .ok (.aload_n 0, 1) := by decide +kernel
theorem dX10_aHarm_58 : decode cX10_aHarm 58 = .ok (.bipush 9, 2) := by decide +kernel
theorem dX10_aHarm_60 : decode cX10_aHarm 60 = .ok (.invokevirtual 178, 3) := by decide +kernel
theorem dX10_aHarm_63 : decode cX10_aHarm 63 = .ok (.ifCond .eq 23, 3) := by decide +kernel
theorem dX10_aHarm_66 : decode cX10_aHarm 66 = .ok (.aload_n 0, 1) := by decide +kernel
theorem dX10_aHarm_67 : decode cX10_aHarm 67 = .ok (.iload_n 3, 1) := by decide +kernel
theorem dX10_aHarm_68 : decode cX10_aHarm 68 = .ok (.iconst 2, 1) := by decide +kernel
theorem dX10_aHarm_69 : decode cX10_aHarm 69 = .ok (.iadd, 1) := by decide +kernel
theorem dX10_aHarm_70 : decode cX10_aHarm 70 = .ok (.aload_n 0, 1) := by decide +kernel
theorem dX10_aHarm_71 : decode cX10_aHarm 71 = .ok (.getfield 7, 3) := by decide +kernel
theorem dX10_aHarm_74 : decode cX10_aHarm 74 = .ok (.iload_n 3, 1) := by decide +kernel
theorem dX10_aHarm_75 : decode cX10_aHarm 75 = .ok (.iconst 1, 1) := by decide +kernel
theorem dX10_aHarm_76 : decode cX10_aHarm 76 = .ok (.iadd, 1) := by decide +kernel
theorem dX10_aHarm_77 : decode cX10_aHarm 77 = .ok (.iaload, 1) := by decide +kernel
theorem dX10_aHarm_78 : decode cX10_aHarm 78 = .ok (.bipush 99, 2) := by decide +kernel
theorem dX10_aHarm_80 : decode cX10_aHarm 80 = .ok (.invokevirtual 181, 3) := by decide +kernel
theorem dX10_aHarm_83 : decode cX10_aHarm 83 = .ok (.ifCond .ne 5, 3) := by decide +kernel
theorem dX10_aHarm_86 : decode cX10_aHarm 86 = .ok (.iconst 0, 1) := by decide +kernel
theorem dX10_aHarm_87 : decode cX10_aHarm 87 = .ok (.ireturn, 1) := by decide +kernel
theorem dX10_aHarm_88 : decode cX10_aHarm 88 = .ok (.iload_n 1, 1) := by decide +kernel
theorem dX10_aHarm_89 : decode cX10_aHarm 89 = .ok (.iconst 1, 1) := by decide +kernel
theorem dX10_aHarm_90 : decode cX10_aHarm 90 = .ok (.if_icmp .eq 8, 3) := by decide +kernel
theorem dX10_aHarm_93 : decode cX10_aHarm 93 = .ok (.iload_n 1, 1) := by decide +kernel
theorem dX10_aHarm_94 : decode cX10_aHarm 94 = .ok (.iconst 2, 1) := by decide +kernel
theorem dX10_aHarm_95 : decode cX10_aHarm 95 = .ok (.if_icmp .ne 36, 3) := by decide +kernel
theorem dX10_aHarm_98 : decode cX10_aHarm 98 = .ok (.aload_n 0, 1) := by decide +kernel
theorem dX10_aHarm_99 : decode cX10_aHarm 99 = .ok (.iload_n 3, 1) := by decide +kernel
theorem dX10_aHarm_100 : decode cX10_aHarm 100 = .ok (.iconst 1, 1) := by decide +kernel
theorem dX10_aHarm_101 : decode cX10_aHarm 101 = .ok (.iadd, 1) := by decide +kernel
theorem dX10_aHarm_102 : decode cX10_aHarm 102 = .ok (.iload_n 1, 1) := by decide +kernel
theorem dX10_aHarm_103 : decode cX10_aHarm 103 = .ok (.iconst 1, 1) := by decide +kernel
theorem dX10_aHarm_104 : decode cX10_aHarm 104 = .ok (.if_icmp .ne 7, 3) := by decide +kernel
theorem dX10_aHarm_107 : decode cX10_aHarm 107 = .ok (.iconst 0, 1) := by decide +kernel
theorem dX10_aHarm_108 : decode cX10_aHarm 108 = .ok (.goto 4, 3) := by decide +kernel
theorem dX10_aHarm_111 : decode cX10_aHarm 111 = .ok (.iconst 1, 1) := by decide +kernel
theorem dX10_aHarm_112 : decode cX10_aHarm 112 = .ok (.iload_n 1, 1) := by decide +kernel
theorem dX10_aHarm_113 : decode cX10_aHarm 113 = .ok (.iconst 1, 1) := by decide +kernel
theorem dX10_aHarm_114 : decode cX10_aHarm 114 = .ok (.if_icmp .ne 8, 3) := by decide +kernel
theorem dX10_aHarm_117 : decode cX10_aHarm 117 = .ok (.bipush 99, 2) := by decide +kernel
theorem dX10_aHarm_119 : decode cX10_aHarm 119 = .ok (.goto 4, 3) := by decide +kernel
theorem dX10_aHarm_122 : decode cX10_aHarm 122 = .ok (.iconst 3, 1) := by decide +kernel
theorem dX10_aHarm_123 : decode cX10_aHarm 123 = .ok (.invokevirtual 181, 3) := by decide +kernel
theorem dX10_aHarm_126 : decode cX10_aHarm 126 = .ok (.ifCond .ne 5, 3) := by decide +kernel
theorem dX10_aHarm_129 : decode cX10_aHarm 129 = .ok (.iconst 0, 1) := by decide +kernel
theorem dX10_aHarm_130 : decode cX10_aHarm 130 = .ok (.ireturn, 1) := by decide +kernel
theorem dX10_aHarm_131 : decode cX10_aHarm 131 = .ok (.aload_n 0, 1) := by decide +kernel
theorem dX10_aHarm_132 : decode cX10_aHarm 132 = .ok (.bipush 12, 2) := by decide +kernel
theorem dX10_aHarm_134 : decode cX10_aHarm 134 = .ok (.invokevirtual 178, 3) := by decide +kernel
theorem dX10_aHarm_137 : decode cX10_aHarm 137 = .ok (.ifCond .eq 38, 3) := by decide +kernel
theorem dX10_aHarm_140 : decode cX10_aHarm 140 = .ok (.aload_n 0, 1) := by decide +kernel
theorem dX10_aHarm_141 : decode cX10_aHarm 141 = .ok (.iload_n 3, 1) := by decide +kernel
theorem dX10_aHarm_142 : decode cX10_aHarm 142 = .ok (.iconst 3, 1) := by decide +kernel
theorem dX10_aHarm_143 : decode cX10_aHarm 143 = .ok (.iadd, 1) := by decide +kernel
theorem dX10_aHarm_144 : decode cX10_aHarm 144 = .ok (.iconst 0, 1) := by decide +kernel
theorem dX10_aHarm_145 : decode cX10_aHarm 145 = .ok (.bipush 8, 2) := by decide +kernel
theorem dX10_aHarm_147 : decode cX10_aHarm 147 = .ok (.invokevirtual 181, 3) := by decide +kernel
theorem dX10_aHarm_150 : decode cX10_aHarm 150 = .ok (.ifCond .eq 25, 3) := by decide +kernel
theorem dX10_aHarm_153 : decode cX10_aHarm 153 = .ok (.aload_n 0, 1) := by decide +kernel
theorem dX10_aHarm_154 : decode cX10_aHarm 154 = .ok (.bipush 13, 2) := by decide +kernel
theorem dX10_aHarm_156 : decode cX10_aHarm 156 = .ok (.invokevirtual 178, 3) := by decide +kernel
theorem dX10_aHarm_159 : decode cX10_aHarm 159 = .ok (.ifCond .eq 16, 3) := by decide +kernel
theorem dX10_aHarm_162 : decode cX10_aHarm 162 = .ok (.aload_n 0, 1) := by decide +kernel
theorem dX10_aHarm_163 : decode cX10_aHarm 163 = .ok (.iload_n 3, 1) := by decide +kernel
theorem dX10_aHarm_164 : decode cX10_aHarm 164 = .ok (.iconst 4, 1) := by decide +kernel
theorem dX10_aHarm_165 : decode cX10_aHarm 165 = .ok (.iadd, 1) := by decide +kernel
theorem dX10_aHarm_166 : decode cX10_aHarm 166 = .ok (.iconst 0, 1) := by decide +kernel
theorem dX10_aHarm_167 : decode cX10_aHarm 167 = .ok (.bipush 16, 2) := by decide +kernel
theorem dX10_aHarm_169 : decode cX10_aHarm 169 = .ok (.invokevirtual 181, 3) := by decide +kernel
theorem dX10_aHarm_172 : decode cX10_aHarm 172 = .ok (.ifCond .ne 5, 3) := by decide +kernel
theorem dX10_aHarm_175 : decode cX10_aHarm 175 = .ok (.iconst 0, 1) := by decide +kernel
theorem dX10_aHarm_176 : decode cX10_aHarm 176 = .ok (.ireturn, 1) := by decide +kernel
theorem dX10_aHarm_177 : decode cX10_aHarm 177 = .ok (.aload_n 0, 1) := by decide +kernel
theorem dX10_aHarm_178 : decode cX10_aHarm 178 = .ok (.getfield 7, 3) := by decide +kernel
theorem dX10_aHarm_181 : decode cX10_aHarm 181 = .ok (.sipush 401, 3) := by decide +kernel
theorem dX10_aHarm_184 : decode cX10_aHarm 184 = .ok (.dup2, 1) := by decide +kernel
theorem dX10_aHarm_185 : decode cX10_aHarm 185 = .ok (.iaload, 1) := by decide +kernel
theorem dX10_aHarm_186 : decode cX10_aHarm 186 = .ok (.iconst 1, 1) := by decide +kernel
theorem dX10_aHarm_187 : decode cX10_aHarm 187 = .ok (.iadd, 1) := by decide +kernel
theorem dX10_aHarm_188 : decode cX10_aHarm 188 = .ok (.iastore, 1) := by decide +kernel
theorem dX10_aHarm_189 : decode cX10_aHarm 189 = .ok (.iconst 1, 1) := by decide +kernel
theorem dX10_aHarm_190 : decode cX10_aHarm 190 = .ok (.ireturn, 1) := by decide +kernel
theorem dX10_aFamily_0 : decode cX10_aFamily 0 = .ok (.aload_n 0, 1) := by decide +kernel
theorem dX10_aFamily_1 : decode cX10_aFamily 1 = .ok (.getfield 7, 3) := by decide +kernel
theorem dX10_aFamily_4 : decode cX10_aFamily 4 = .ok (.sipush 402, 3) := by decide +kernel
theorem dX10_aFamily_7 : decode cX10_aFamily 7 = .ok (.iaload, 1) := by decide +kernel
theorem dX10_aFamily_8 : decode cX10_aFamily 8 = .ok (.istore_n 1, 1) := by decide +kernel
theorem dX10_aFamily_9 : decode cX10_aFamily 9 = .ok (.sipush 488, 3) := by decide +kernel
theorem dX10_aFamily_12 : decode cX10_aFamily 12 = .ok (.iconst 3, 1) := by decide +kernel
theorem dX10_aFamily_13 : decode cX10_aFamily 13 = .ok (.iload_n 1, 1) := by decide +kernel
theorem dX10_aFamily_14 : decode cX10_aFamily 14 = .ok (.imul, 1) := by decide +kernel
theorem dX10_aFamily_15 : decode cX10_aFamily 15 = .ok (.iadd, 1) := by decide +kernel
theorem dX10_aFamily_16 : decode cX10_aFamily 16 = .ok (.istore_n 2, 1) := by decide +kernel
theorem dX10_aFamily_17 : decode cX10_aFamily 17 = .ok (.iload_n 1, 1) := by decide +kernel
theorem dX10_aFamily_18 : decode cX10_aFamily 18 = .ok (.iconst 4, 1) := by decide +kernel
theorem dX10_aFamily_19 : decode cX10_aFamily 19 = .ok (.if_icmp .ne 9, 3) := by decide +kernel
theorem dX10_aFamily_22 : decode cX10_aFamily 22 = .ok (.aload_n 0, 1) := by decide +kernel
theorem dX10_aFamily_23 : decode cX10_aFamily 23 = .ok (.iconst 5, 1) := by decide +kernel
theorem dX10_aFamily_24 : decode cX10_aFamily 24 = .ok (.invokevirtual 160, 3) := by decide +kernel
theorem dX10_aFamily_27 : decode cX10_aFamily 27 = .ok (.ireturn, 1) := by decide +kernel
theorem dX10_aFamily_28 : decode cX10_aFamily 28 = .ok (.aload_n 0, 1) := by decide +kernel
theorem dX10_aFamily_29 : decode cX10_aFamily 29 = .ok (.invokevirtual 163, 3) := by decide +kernel
theorem dX10_aFamily_32 : decode cX10_aFamily 32 = .ok (.aload_n 0, 1) := by decide +kernel
theorem dX10_aFamily_33 : decode cX10_aFamily 33 = .ok (.invokevirtual 166, 3) := by decide +kernel
theorem dX10_aFamily_36 : decode cX10_aFamily 36 = .ok (.ifCond .ne 9, 3) := by decide +kernel
theorem dX10_aFamily_39 : decode cX10_aFamily 39 = .ok (.aload_n 0, 1) := by decide +kernel
theorem dX10_aFamily_40 : decode cX10_aFamily 40 = .ok (.iconst 2, 1) := by decide +kernel
theorem dX10_aFamily_41 : decode cX10_aFamily 41 = .ok (.invokevirtual 160, 3) := by decide +kernel
theorem dX10_aFamily_44 : decode cX10_aFamily 44 = .ok (.ireturn, 1) := by decide +kernel
theorem dX10_aFamily_45 : decode cX10_aFamily 45 = .ok (.aload_n 0, 1) := by decide +kernel
theorem dX10_aFamily_46 : decode cX10_aFamily 46 = .ok (.getfield 44, 3) := by decide +kernel
theorem dX10_aFamily_49 : decode cX10_aFamily 49 = .ok (.iload_n 1, 1) := by decide +kernel
theorem dX10_aFamily_50 : decode cX10_aFamily 50 = .ok (.aload_n 0, 1) := by decide +kernel
theorem dX10_aFamily_51 : decode cX10_aFamily 51 = .ok (.invokevirtual 170, 3) := by decide +kernel
theorem dX10_aFamily_54 : decode cX10_aFamily 54 = .ok (.invokestatic 174, 3) := by decide +kernel
theorem dX10_aFamily_57 : decode cX10_aFamily 57 = .ok (.iconst (-1), 1) := by decide +kernel
theorem dX10_aFamily_58 : decode cX10_aFamily 58 = .ok (.if_icmp .eq 9, 3) := by decide +kernel
theorem dX10_aFamily_61 : decode cX10_aFamily 61 = .ok (.aload_n 0, 1) := by decide +kernel
theorem dX10_aFamily_62 : decode cX10_aFamily 62 = .ok (.iconst 3, 1) := by decide +kernel
theorem dX10_aFamily_63 : decode cX10_aFamily 63 = .ok (.invokevirtual 160, 3) := by decide +kernel
theorem dX10_aFamily_66 : decode cX10_aFamily 66 = .ok (.ireturn, 1) := by decide +kernel
theorem dX10_aFamily_67 : decode cX10_aFamily 67 = .ok (.aload_n 0, 1) := by decide +kernel
theorem dX10_aFamily_68 : decode cX10_aFamily 68 = .ok (.getfield 44, 3) := by decide +kernel
theorem dX10_aFamily_71 : decode cX10_aFamily 71 = .ok (.iload_n 1, 1) := by decide +kernel
theorem dX10_aFamily_72 : decode cX10_aFamily 72 = .ok (.aload_n 0, 1) := by decide +kernel
theorem dX10_aFamily_73 : decode cX10_aFamily 73 = .ok (.invokevirtual 170, 3) := by decide +kernel
theorem dX10_aFamily_76 : decode cX10_aFamily 76 = .ok (.lastore, 1) := by decide +kernel
theorem dX10_aFamily_77 : decode cX10_aFamily 77 = .ok (.aload_n 0, 1) := by decide +kernel
theorem dX10_aFamily_78 : decode cX10_aFamily 78 = .ok (.invokevirtual 163, 3) := by decide +kernel
theorem dX10_aFamily_81 : decode cX10_aFamily 81 = .ok (.aload_n 0, 1) := by decide +kernel
theorem dX10_aFamily_82 : decode cX10_aFamily 82 = .ok (.bipush 6, 2) := by decide +kernel
theorem dX10_aFamily_84 : decode cX10_aFamily 84 = .ok (.invokevirtual 178, 3) := by decide +kernel
theorem dX10_aFamily_87 : decode cX10_aFamily 87 = .ok (.ifCond .eq 49, 3) := by decide +kernel
theorem dX10_aFamily_90 : decode cX10_aFamily 90 = .ok (.aload_n 0, 1) := by decide +kernel
theorem dX10_aFamily_91 : decode cX10_aFamily 91 = .ok (.iload_n 2, 1) := by decide +kernel
theorem dX10_aFamily_92 : decode cX10_aFamily 92 = .ok (.iconst 0, 1) := by decide +kernel
theorem dX10_aFamily_93 : decode cX10_aFamily 93 = .ok (.bipush 99, 2) := by decide +kernel
theorem dX10_aFamily_95 : decode cX10_aFamily 95 = .ok (.invokevirtual 181, 3) := by decide +kernel
theorem dX10_aFamily_98 : decode cX10_aFamily 98 = .ok (.ifCond .eq 38, 3) := by decide +kernel
theorem dX10_aFamily_101 : decode cX10_aFamily 101 = .ok (.aload_n 0, 1) := by decide +kernel
theorem dX10_aFamily_102 : decode cX10_aFamily 102 = .ok (.iload_n 2, 1) := by decide +kernel
theorem dX10_aFamily_103 : decode cX10_aFamily 103 = .ok (.iconst 1, 1) := by decide +kernel
theorem dX10_aFamily_104 : decode cX10_aFamily 104 = .ok (.iadd, 1) := by decide +kernel
theorem dX10_aFamily_105 : decode cX10_aFamily 105 = .ok (.iconst 0, 1) := by decide +kernel
theorem dX10_aFamily_106 : decode cX10_aFamily 106 = .ok (.bipush 99, 2) := by decide +kernel
theorem dX10_aFamily_108 : decode cX10_aFamily 108 = .ok (.invokevirtual 181, 3) := by decide +kernel
theorem dX10_aFamily_111 : decode cX10_aFamily 111 = .ok (.ifCond .eq 25, 3) := by decide +kernel
theorem dX10_aFamily_114 : decode cX10_aFamily 114 = .ok (.aload_n 0, 1) := by decide +kernel
theorem dX10_aFamily_115 : decode cX10_aFamily 115 = .ok (.bipush 10, 2) := by decide +kernel
theorem dX10_aFamily_117 : decode cX10_aFamily 117 = .ok (.invokevirtual 178, 3) := by decide +kernel
theorem dX10_aFamily_120 : decode cX10_aFamily 120 = .ok (.ifCond .eq 16, 3) := by decide +kernel
theorem dX10_aFamily_123 : decode cX10_aFamily 123 = .ok (.aload_n 0, 1) := by decide +kernel
theorem dX10_aFamily_124 : decode cX10_aFamily 124 = .ok (.iload_n 2, 1) := by decide +kernel
theorem dX10_aFamily_125 : decode cX10_aFamily 125 = .ok (.iconst 2, 1) := by decide +kernel
theorem dX10_aFamily_126 : decode cX10_aFamily 126 = .ok (.iadd, 1) := by decide +kernel
theorem dX10_aFamily_127 : decode cX10_aFamily 127 = .ok (.iconst 0, 1) := by decide +kernel
theorem dX10_aFamily_128 : decode cX10_aFamily 128 = .ok (.bipush 99, 2) := by decide +kernel
theorem dX10_aFamily_130 : decode cX10_aFamily 130 = .ok (.invokevirtual 181, 3) := by decide +kernel
theorem dX10_aFamily_133 : decode cX10_aFamily 133 = .ok (.ifCond .ne 5, 3) := by decide +kernel
theorem dX10_aFamily_136 : decode cX10_aFamily 136 = .ok (.iconst 0, 1) := by decide +kernel
theorem dX10_aFamily_137 : decode cX10_aFamily 137 = .ok (.ireturn, 1) := by decide +kernel
theorem dX10_aFamily_138 : decode cX10_aFamily 138 = .ok (.aload_n 0, 1) := by decide +kernel
theorem dX10_aFamily_139 : decode cX10_aFamily 139 = .ok (.getfield 7, 3) := by decide +kernel
theorem dX10_aFamily_142 : decode cX10_aFamily 142 = .ok (.sipush 402, 3) := by decide +kernel
theorem dX10_aFamily_145 : decode cX10_aFamily 145 = .ok (.dup2, 1) := by decide +kernel
theorem dX10_aFamily_146 : decode cX10_aFamily 146 = .ok (.iaload, 1) := by decide +kernel
theorem dX10_aFamily_147 : decode cX10_aFamily 147 = .ok (.iconst 1, 1) := by decide +kernel
theorem dX10_aFamily_148 : decode cX10_aFamily 148 = .ok (.iadd, 1) := by decide +kernel
theorem dX10_aFamily_149 : decode cX10_aFamily 149 = .ok (.iastore, 1) := by decide +kernel
theorem dX10_aFamily_150 : decode cX10_aFamily 150 = .ok (.aload_n 0, 1) := by decide +kernel
theorem dX10_aFamily_151 : decode cX10_aFamily 151 = .ok (.invokevirtual 157, 3) := by decide +kernel
theorem dX10_aFamily_154 : decode cX10_aFamily 154 = .ok (.bipush 11, 2) := by decide +kernel
theorem dX10_aFamily_156 : decode cX10_aFamily 156 = .ok (.if_icmp .ne 98, 3) := by decide +kernel
theorem dX10_aFamily_159 : decode cX10_aFamily 159 = .ok (.aload_n 0, 1) := by decide +kernel
theorem dX10_aFamily_160 : decode cX10_aFamily 160 = .ok (.invokevirtual 163, 3) := by decide +kernel
theorem dX10_aFamily_163 : decode cX10_aFamily 163 = .ok (.aload_n 0, 1) := by decide +kernel
theorem dX10_aFamily_164 : decode cX10_aFamily 164 = .ok (.invokevirtual 166, 3) := by decide +kernel
theorem dX10_aFamily_167 : decode cX10_aFamily 167 = .ok (.ifCond .ne 9, 3) := by decide +kernel
theorem dX10_aFamily_170 : decode cX10_aFamily 170 = .ok (.aload_n 0, 1) := by decide +kernel
theorem dX10_aFamily_171 : decode cX10_aFamily 171 = .ok (.iconst 2, 1) := by decide +kernel
theorem dX10_aFamily_172 : decode cX10_aFamily 172 = .ok (.invokevirtual 160, 3) := by decide +kernel
theorem dX10_aFamily_175 : decode cX10_aFamily 175 = .ok (.ireturn, 1) := by decide +kernel
theorem dX10_aFamily_176 : decode cX10_aFamily 176 = .ok (.aload_n 0, 1) := by decide +kernel
theorem dX10_aFamily_177 : decode cX10_aFamily 177 = .ok (.getfield 41, 3) := by decide +kernel
theorem dX10_aFamily_180 : decode cX10_aFamily 180 = .ok (.aload_n 0, 1) := by decide +kernel
theorem dX10_aFamily_181 : decode cX10_aFamily 181 = .ok (.getfield 7, 3) := by decide +kernel
theorem dX10_aFamily_184 : decode cX10_aFamily 184 = .ok (.sipush 400, 3) := by decide +kernel
theorem dX10_aFamily_187 : decode cX10_aFamily 187 = .ok (.iaload, 1) := by decide +kernel
theorem dX10_aFamily_188 : decode cX10_aFamily 188 = .ok (.aload_n 0, 1) := by decide +kernel
theorem dX10_aFamily_189 : decode cX10_aFamily 189 = .ok (.invokevirtual 170, 3) := by decide +kernel
theorem dX10_aFamily_192 : decode cX10_aFamily 192 = .ok (.invokestatic 174, 3) := by decide +kernel
theorem dX10_aFamily_195 : decode cX10_aFamily 195 = .ok (.istore_n 3, 1) := by decide +kernel
theorem dX10_aFamily_196 : decode cX10_aFamily 196 = .ok (.iload_n 3, 1) := by decide +kernel
theorem dX10_aFamily_197 : decode cX10_aFamily 197 = .ok (.iconst (-1), 1) := by decide +kernel
theorem dX10_aFamily_198 : decode cX10_aFamily 198 = .ok (.if_icmp .ne 9, 3) := by decide +kernel
theorem dX10_aFamily_201 : decode cX10_aFamily 201 = .ok (.aload_n 0, 1) := by decide +kernel
theorem dX10_aFamily_202 : decode cX10_aFamily 202 = .ok (.iconst 3, 1) := by decide +kernel
theorem dX10_aFamily_203 : decode cX10_aFamily 203 = .ok (.invokevirtual 160, 3) := by decide +kernel
theorem dX10_aFamily_206 : decode cX10_aFamily 206 = .ok (.ireturn, 1) := by decide +kernel
theorem dX10_aFamily_207 : decode cX10_aFamily 207 = .ok (.aload_n 0, 1) := by decide +kernel
theorem dX10_aFamily_208 : decode cX10_aFamily 208 = .ok (.getfield 7, 3) := by decide +kernel
theorem dX10_aFamily_211 : decode cX10_aFamily 211 = .ok (.sipush 408, 3) := by decide +kernel
theorem dX10_aFamily_214 : decode cX10_aFamily 214 = .ok (.iconst 5, 1) := by decide +kernel
theorem dX10_aFamily_215 : decode cX10_aFamily 215 = .ok (.iload_n 3, 1) := by decide +kernel
theorem dX10_aFamily_216 : decode cX10_aFamily 216 = .ok (.imul, 1) := by decide +kernel
theorem dX10_aFamily_217 : decode cX10_aFamily 217 = .ok (.iadd, 1) := by decide +kernel
theorem dX10_aFamily_218 : decode cX10_aFamily 218 = .ok (.iconst 4, 1) := by decide +kernel
theorem dX10_aFamily_219 : decode cX10_aFamily 219 = .ok (.iadd, 1) := by decide +kernel
theorem dX10_aFamily_220 : decode cX10_aFamily 220 = .ok (.iaload, 1) := by decide +kernel
theorem dX10_aFamily_221 : decode cX10_aFamily 221 = .ok (.iconst (-1), 1) := by decide +kernel
theorem dX10_aFamily_222 : decode cX10_aFamily 222 = .ok (.if_icmp .eq 10, 3) := by decide +kernel
theorem dX10_aFamily_225 : decode cX10_aFamily 225 = .ok (.aload_n 0, 1) := by decide +kernel
theorem dX10_aFamily_226 : decode cX10_aFamily 226 = .ok (.bipush 6, 2) := by decide +kernel
theorem dX10_aFamily_228 : decode cX10_aFamily 228 = .ok (.invokevirtual 160, 3) := by decide +kernel
theorem dX10_aFamily_231 : decode cX10_aFamily 231 = .ok (.ireturn, 1) := by decide +kernel
theorem dX10_aFamily_232 : decode cX10_aFamily 232 = .ok (.aload_n 0, 1) := by decide +kernel
theorem dX10_aFamily_233 : decode cX10_aFamily 233 = .ok (.getfield 7, 3) := by decide +kernel
theorem dX10_aFamily_236 : decode cX10_aFamily 236 = .ok (.sipush 408, 3) := by decide +kernel
theorem dX10_aFamily_239 : decode cX10_aFamily 239 = .ok (.iconst 5, 1) := by decide +kernel
theorem dX10_aFamily_240 : decode cX10_aFamily 240 = .ok (.iload_n 3, 1) := by decide +kernel
theorem dX10_aFamily_241 : decode cX10_aFamily 241 = .ok (.imul, 1) := by decide +kernel
theorem dX10_aFamily_242 : decode cX10_aFamily 242 = .ok (.iadd, 1) := by decide +kernel
theorem dX10_aFamily_243 : decode cX10_aFamily 243 = .ok (.iconst 4, 1) := by decide +kernel
theorem dX10_aFamily_244 : decode cX10_aFamily 244 = .ok (.iadd, 1) := by decide +kernel
theorem dX10_aFamily_245 : decode cX10_aFamily 245 = .ok (.iload_n 1, 1) := by decide +kernel
theorem dX10_aFamily_246 : decode cX10_aFamily 246 = .ok (.iastore, 1) := by decide +kernel
theorem dX10_aFamily_247 : decode cX10_aFamily 247 = .ok (.aload_n 0, 1) := by decide +kernel
theorem dX10_aFamily_248 : decode cX10_aFamily 248 = .ok (.invokevirtual 163, 3) := by decide +kernel
theorem dX10_aFamily_251 : decode cX10_aFamily 251 = .ok (.goto (-101), 3) := by decide +kernel
theorem dX10_aFamily_254 : decode cX10_aFamily 254 = .ok (.iconst 1, 1) := by decide +kernel
theorem dX10_aFamily_255 : decode cX10_aFamily 255 = .ok (.ireturn, 1) := by decide +kernel
theorem dX10_part_0 : decode cX10_part 0 = .ok (.aload_n 0, 1) := by decide +kernel
theorem dX10_part_1 : decode cX10_part 1 = .ok (.invokevirtual 157, 3) := by decide +kernel
theorem dX10_part_4 : decode cX10_part 4 = .ok (.istore_n 1, 1) := by decide +kernel
theorem dX10_part_5 : decode cX10_part 5 = .ok (.iload_n 1, 1) := by decide +kernel
theorem dX10_part_6 : decode cX10_part 6 = .ok (.ifCond .ne 10, 3) := by decide +kernel
theorem dX10_part_9 : decode cX10_part 9 = .ok (.aload_n 0, 1) := by decide +kernel
theorem dX10_part_10 : decode cX10_part 10 = .ok (.invokevirtual 185, 3) := by decide +kernel
theorem dX10_part_13 : decode cX10_part 13 = .ok (.goto 40, 3) := by decide +kernel
theorem dX10_part_16 : decode cX10_part 16 = .ok (.iload_n 1, 1) := by decide +kernel
theorem dX10_part_17 : decode cX10_part 17 = .ok (.iconst 1, 1) := by decide +kernel
theorem dX10_part_18 : decode cX10_part 18 = .ok (.if_icmp .lt 18, 3) := by decide +kernel
theorem dX10_part_21 : decode cX10_part 21 = .ok (.iload_n 1, 1) := by decide +kernel
theorem dX10_part_22 : decode cX10_part 22 = .ok (.iconst 5, 1) := by decide +kernel
theorem dX10_part_23 : decode cX10_part 23 = .ok (.if_icmp .ge 13, 3) := by decide +kernel
theorem dX10_part_26 : decode cX10_part 26 = .ok (.aload_n 0, 1) := by decide +kernel
theorem dX10_part_27 : decode cX10_part 27 = .ok (.iload_n 1, 1) := by decide +kernel
theorem dX10_part_28 : decode cX10_part 28 = .ok (.iconst 1, 1) := by decide +kernel
theorem dX10_part_29 : decode cX10_part 29 = .ok (.isub, 1) := by decide +kernel
theorem dX10_part_30 : decode cX10_part 30 = .ok (.invokevirtual 188, 3) := by decide +kernel
theorem dX10_part_33 : decode cX10_part 33 = .ok (.goto 20, 3) := by decide +kernel
theorem dX10_part_36 : decode cX10_part 36 = .ok (.iload_n 1, 1) := by decide +kernel
theorem dX10_part_37 : decode cX10_part 37 = .ok (.iconst 5, 1) := by decide +kernel
theorem dX10_part_38 : decode cX10_part 38 = .ok (.if_icmp .ne 10, 3) := by decide +kernel
theorem dX10_part_41 : decode cX10_part 41 = .ok (.aload_n 0, 1) := by decide +kernel
theorem dX10_part_42 : decode cX10_part 42 = .ok (.invokevirtual 191, 3) := by decide +kernel
theorem dX10_part_45 : decode cX10_part 45 = .ok (.goto 8, 3) := by decide +kernel
theorem dX10_part_48 : decode cX10_part 48 = .ok (.aload_n 0, 1) := by decide +kernel
theorem dX10_part_49 : decode cX10_part 49 = .ok (.iconst 2, 1) := by decide +kernel
theorem dX10_part_50 : decode cX10_part 50 = .ok (.invokevirtual 160, 3) := by decide +kernel
theorem dX10_part_53 : decode cX10_part 53 = .ok (.istore_n 2, 1) := by decide +kernel
theorem dX10_part_54 : decode cX10_part 54 = .ok (.iload_n 2, 1) := by decide +kernel
theorem dX10_part_55 : decode cX10_part 55 = .ok (.ifCond .ne 5, 3) := by decide +kernel
theorem dX10_part_58 : decode cX10_part 58 = .ok (.iconst 0, 1) := by decide +kernel
theorem dX10_part_59 : decode cX10_part 59 = .ok (.ireturn, 1) := by decide +kernel
theorem dX10_part_60 : decode cX10_part 60 = .ok (.aload_n 0, 1) := by decide +kernel
theorem dX10_part_61 : decode cX10_part 61 = .ok (.getfield 128, 3) := by decide +kernel
theorem dX10_part_64 : decode cX10_part 64 = .ok (.iconst 4, 1) := by decide +kernel
theorem dX10_part_65 : decode cX10_part 65 = .ok (.if_icmp .eq 9, 3) := by decide +kernel
theorem dX10_part_68 : decode cX10_part 68 = .ok (.aload_n 0, 1) := by decide +kernel
theorem dX10_part_69 : decode cX10_part 69 = .ok (.iconst 2, 1) := by decide +kernel
theorem dX10_part_70 : decode cX10_part 70 = .ok (.invokevirtual 160, 3) := by decide +kernel
theorem dX10_part_73 : decode cX10_part 73 = .ok (.ireturn, 1) := by decide +kernel
theorem dX10_part_74 : decode cX10_part 74 = .ok (.aload_n 0, 1) := by decide +kernel
theorem dX10_part_75 : decode cX10_part 75 = .ok (.invokevirtual 163, 3) := by decide +kernel
theorem dX10_part_78 : decode cX10_part 78 = .ok (.iconst 1, 1) := by decide +kernel
theorem dX10_part_79 : decode cX10_part 79 = .ok (.ireturn, 1) := by decide +kernel
theorem dX10_village_0 : decode cX10_village 0 = .ok (.iload_n 1, 1) := by decide +kernel
theorem dX10_village_1 : decode cX10_village 1 = .ok (.ifCond .lt 11, 3) := by decide +kernel
theorem dX10_village_4 : decode cX10_village 4 = .ok (.iload_n 1, 1) := by decide +kernel
theorem dX10_village_5 : decode cX10_village 5 = .ok (.aload_n 0, 1) := by decide +kernel
theorem dX10_village_6 : decode cX10_village 6 = .ok (.getfield 105, 3) := by decide +kernel
theorem dX10_village_9 : decode cX10_village 9 = .ok (.if_icmp .le 9, 3) := by decide +kernel
theorem dX10_village_12 : decode cX10_village 12 = .ok (.aload_n 0, 1) := by decide +kernel
theorem dX10_village_13 : decode cX10_village 13 = .ok (.iconst 1, 1) := by decide +kernel
theorem dX10_village_14 : decode cX10_village 14 = .ok (.invokevirtual 194, 3) := by decide +kernel
theorem dX10_village_17 : decode cX10_village 17 = .ok (.ireturn, 1) := by decide +kernel
theorem dX10_village_18 : decode cX10_village 18 = .ok (.aload_n 0, 1) := by decide +kernel
theorem dX10_village_19 : decode cX10_village 19 = .ok (.iload_n 1, 1) := by decide +kernel
theorem dX10_village_20 : decode cX10_village 20 = .ok (.putfield 112, 3) := by decide +kernel
theorem dX10_village_23 : decode cX10_village 23 = .ok (.iconst 0, 1) := by decide +kernel
theorem dX10_village_24 : decode cX10_village 24 = .ok (.istore_n 2, 1) := by decide +kernel
theorem dX10_village_25 : decode cX10_village 25 = .ok (.iload_n 2, 1) := by decide +kernel
theorem dX10_village_26 : decode cX10_village 26 = .ok (.iload_n 1, 1) := by decide +kernel
theorem dX10_village_27 : decode cX10_village 27 = .ok (.if_icmp .ge 21, 3) := by decide +kernel
theorem dX10_village_30 : decode cX10_village 30 = .ok (.aload_n 0, 1) := by decide +kernel
theorem dX10_village_31 : decode cX10_village 31 = .ok (.getfield 31, 3) := by decide +kernel
theorem dX10_village_34 : decode cX10_village 34 = .ok (.iload_n 2, 1) := by decide +kernel
theorem dX10_village_35 : decode cX10_village 35 = .ok (.aload_n 0, 1) := by decide +kernel
theorem dX10_village_36 : decode cX10_village 36 = .ok (.getfield 27, 3) := by decide +kernel
theorem dX10_village_39 : decode cX10_village 39 = .ok (.iload_n 2, 1) := by decide +kernel
theorem dX10_village_40 : decode cX10_village 40 = .ok (.baload, 1) := by decide +kernel
theorem dX10_village_41 : decode cX10_village 41 = .ok (.bastore, 1) := by decide +kernel
theorem dX10_village_42 : decode cX10_village 42 = .ok (.iinc 2 1, 3) := by decide +kernel
theorem dX10_village_45 : decode cX10_village 45 = .ok (.goto (-20), 3) := by decide +kernel
theorem dX10_village_48 : decode cX10_village 48 = .ok (.aload_n 0, 1) := by decide +kernel
theorem dX10_village_49 : decode cX10_village 49 = .ok (.iconst 0, 1) := by decide +kernel
theorem dX10_village_50 : decode cX10_village 50 = .ok (.putfield 105, 3) := by decide +kernel
theorem dX10_village_53 : decode cX10_village 53 = .ok (.aload_n 0, 1) := by decide +kernel
theorem dX10_village_54 : decode cX10_village 54 = .ok (.iconst 0, 1) := by decide +kernel
theorem dX10_village_55 : decode cX10_village 55 = .ok (.putfield 154, 3) := by decide +kernel
theorem dX10_village_58 : decode cX10_village 58 = .ok (.aload_n 0, 1) := by decide +kernel
theorem dX10_village_59 : decode cX10_village 59 = .ok (.iconst (-1), 1) := by decide +kernel
theorem dX10_village_60 : decode cX10_village 60 = .ok (.putfield 38, 3) := by decide +kernel
theorem dX10_village_63 : decode cX10_village 63 = .ok (.aload_n 0, 1) := by decide +kernel
theorem dX10_village_64 : decode cX10_village 64 = .ok (.iconst 0, 1) := by decide +kernel
theorem dX10_village_65 : decode cX10_village 65 = .ok (.putfield 115, 3) := by decide +kernel
theorem dX10_village_68 : decode cX10_village 68 = .ok (.iconst 0, 1) := by decide +kernel
theorem dX10_village_69 : decode cX10_village 69 = .ok (.istore_n 2, 1) := by decide +kernel
theorem dX10_village_70 : decode cX10_village 70 = .ok (.iload_n 2, 1) := by decide +kernel
theorem dX10_village_71 : decode cX10_village 71 = .ok (.bipush 100, 2) := by decide +kernel
theorem dX10_village_73 : decode cX10_village 73 = .ok (.if_icmp .ge 20, 3) := by decide +kernel
theorem dX10_village_76 : decode cX10_village 76 = .ok (.aload_n 0, 1) := by decide +kernel
theorem dX10_village_77 : decode cX10_village 77 = .ok (.getfield 7, 3) := by decide +kernel
theorem dX10_village_80 : decode cX10_village 80 = .ok (.sipush 400, 3) := by decide +kernel
theorem dX10_village_83 : decode cX10_village 83 = .ok (.iload_n 2, 1) := by decide +kernel
theorem dX10_village_84 : decode cX10_village 84 = .ok (.iadd, 1) := by decide +kernel
theorem dX10_village_85 : decode cX10_village 85 = .ok (.iconst 0, 1) := by decide +kernel
theorem dX10_village_86 : decode cX10_village 86 = .ok (.iastore, 1) := by decide +kernel
theorem dX10_village_87 : decode cX10_village 87 = .ok (.iinc 2 1, 3) := by decide +kernel
theorem dX10_village_90 : decode cX10_village 90 = .ok (.goto (-20), 3) := by decide +kernel
theorem dX10_village_93 : decode cX10_village 93 = .ok (.aload_n 0, 1) := by decide +kernel
theorem dX10_village_94 : decode cX10_village 94 = .ok (.getfield 7, 3) := by decide +kernel
theorem dX10_village_97 : decode cX10_village 97 = .ok (.sipush 403, 3) := by decide +kernel
theorem dX10_village_100 : decode cX10_village 100 = .ok (.aload_n 0, 1) := by decide +kernel
theorem dX10_village_101 : decode cX10_village 101 = .ok (.getfield 7, 3) := by decide +kernel
theorem dX10_village_104 : decode cX10_village 104 = .ok (.iconst 3, 1) := by decide +kernel
theorem dX10_village_105 : decode cX10_village 105 = .ok (.iaload, 1) := by decide +kernel
theorem dX10_village_106 : decode cX10_village 106 = .ok (.iastore, 1) := by decide +kernel
theorem dX10_village_107 : decode cX10_village 107 = .ok (.aload_n 0, 1) := by decide +kernel
theorem dX10_village_108 : decode cX10_village 108 = .ok (.getfield 7, 3) := by decide +kernel
theorem dX10_village_111 : decode cX10_village 111 = .ok (.sipush 404, 3) := by decide +kernel
theorem dX10_village_114 : decode cX10_village 114 = .ok (.aload_n 0, 1) := by decide +kernel
theorem dX10_village_115 : decode cX10_village 115 = .ok (.getfield 7, 3) := by decide +kernel
theorem dX10_village_118 : decode cX10_village 118 = .ok (.iconst 4, 1) := by decide +kernel
theorem dX10_village_119 : decode cX10_village 119 = .ok (.iaload, 1) := by decide +kernel
theorem dX10_village_120 : decode cX10_village 120 = .ok (.iastore, 1) := by decide +kernel
theorem dX10_village_121 : decode cX10_village 121 = .ok (.aload_n 0, 1) := by decide +kernel
theorem dX10_village_122 : decode cX10_village 122 = .ok (.invokevirtual 163, 3) := by decide +kernel
theorem dX10_village_125 : decode cX10_village 125 = .ok (.aload_n 0, 1) := by decide +kernel
theorem dX10_village_126 : decode cX10_village 126 = .ok (.getfield 128, 3) := by decide +kernel
theorem dX10_village_129 : decode cX10_village 129 = .ok (.ifCond .eq 7, 3) := by decide +kernel
theorem dX10_village_132 : decode cX10_village 132 = .ok (.iconst 1, 1) := by decide +kernel
theorem dX10_village_133 : decode cX10_village 133 = .ok (.goto 4, 3) := by decide +kernel
theorem dX10_village_136 : decode cX10_village 136 = .ok (.iconst 0, 1) := by decide +kernel
theorem dX10_village_137 : decode cX10_village 137 = .ok (.istore_n 2, 1) := by decide +kernel
theorem dX10_village_138 : decode cX10_village 138 = .ok (.iload_n 2, 1) := by decide +kernel
theorem dX10_village_139 : decode cX10_village 139 = .ok (.ifCond .eq 26, 3) := by decide +kernel
theorem dX10_village_142 : decode cX10_village 142 = .ok (.aload_n 0, 1) := by decide +kernel
theorem dX10_village_143 : decode cX10_village 143 = .ok (.invokevirtual 197, 3) := by decide +kernel
theorem dX10_village_146 : decode cX10_village 146 = .ok (.ifCond .eq 14, 3) := by decide +kernel
theorem dX10_village_149 : decode cX10_village 149 = .ok (.aload_n 0, 1) := by decide +kernel
theorem dX10_village_150 : decode cX10_village 150 = .ok (.getfield 128, 3) := by decide +kernel
theorem dX10_village_153 : decode cX10_village 153 = .ok (.ifCond .eq 7, 3) := by decide +kernel
theorem dX10_village_156 : decode cX10_village 156 = .ok (.iconst 1, 1) := by decide +kernel
theorem dX10_village_157 : decode cX10_village 157 = .ok (.goto 4, 3) := by decide +kernel
theorem dX10_village_160 : decode cX10_village 160 = .ok (.iconst 0, 1) := by decide +kernel
theorem dX10_village_161 : decode cX10_village 161 = .ok (.istore_n 2, 1) := by decide +kernel
theorem dX10_village_162 : decode cX10_village 162 = .ok (.goto (-24), 3) := by decide +kernel
theorem dX10_village_165 : decode cX10_village 165 = .ok (.aload_n 0, 1) := by decide +kernel
theorem dX10_village_166 : decode cX10_village 166 = .ok (.aload_n 0, 1) := by decide +kernel
theorem dX10_village_167 : decode cX10_village 167 = .ok (.getfield 154, 3) := by decide +kernel
theorem dX10_village_170 : decode cX10_village 170 = .ok (.putfield 34, 3) := by decide +kernel
theorem dX10_village_173 : decode cX10_village 173 = .ok (.aload_n 0, 1) := by decide +kernel
theorem dX10_village_174 : decode cX10_village 174 = .ok (.getfield 154, 3) := by decide +kernel
theorem dX10_village_177 : decode cX10_village 177 = .ok (.ifCond .le 10, 3) := by decide +kernel
theorem dX10_village_180 : decode cX10_village 180 = .ok (.aload_n 0, 1) := by decide +kernel
theorem dX10_village_181 : decode cX10_village 181 = .ok (.bipush 9, 2) := by decide +kernel
theorem dX10_village_183 : decode cX10_village 183 = .ok (.invokevirtual 194, 3) := by decide +kernel
theorem dX10_village_186 : decode cX10_village 186 = .ok (.ireturn, 1) := by decide +kernel
theorem dX10_village_187 : decode cX10_village 187 = .ok (.aload_n 0, 1) := by decide +kernel
theorem dX10_village_188 : decode cX10_village 188 = .ok (.sipush 400, 3) := by decide +kernel
theorem dX10_village_191 : decode cX10_village 191 = .ok (.iconst 0, 1) := by decide +kernel
theorem dX10_village_192 : decode cX10_village 192 = .ok (.invokevirtual 200, 3) := by decide +kernel
theorem dX10_village_195 : decode cX10_village 195 = .ok (.aload_n 0, 1) := by decide +kernel
theorem dX10_village_196 : decode cX10_village 196 = .ok (.aload_n 0, 1) := by decide +kernel
theorem dX10_village_197 : decode cX10_village 197 = .ok (.getfield 7, 3) := by decide +kernel
theorem dX10_village_200 : decode cX10_village 200 = .ok (.iconst 0, 1) := by decide +kernel
theorem dX10_village_201 : decode cX10_village 201 = .ok (.iaload, 1) := by decide +kernel
theorem dX10_village_202 : decode cX10_village 202 = .ok (.invokevirtual 204, 3) := by decide +kernel
theorem dX10_village_205 : decode cX10_village 205 = .ok (.ireturn, 1) := by decide +kernel
theorem dX10_copies_0 : decode cX10_copies 0 = .ok (.iconst 0, 1) := by decide +kernel
theorem dX10_copies_1 : decode cX10_copies 1 = .ok (.istore_n 3, 1) := by decide +kernel
theorem dX10_copies_2 : decode cX10_copies 2 = .ok (.iload_n 3, 1) := by decide +kernel
theorem dX10_copies_3 : decode cX10_copies 3 = .ok (.bipush 100, 2) := by decide +kernel
theorem dX10_copies_5 : decode cX10_copies 5 = .ok (.if_icmp .ge 25, 3) := by decide +kernel
theorem dX10_copies_8 : decode cX10_copies 8 = .ok (.aload_n 0, 1) := by decide +kernel
theorem dX10_copies_9 : decode cX10_copies 9 = .ok (.getfield 7, 3) := by decide +kernel
theorem dX10_copies_12 : decode cX10_copies 12 = .ok (.iload_n 2, 1) := by decide +kernel
theorem dX10_copies_13 : decode cX10_copies 13 = .ok (.iload_n 3, 1) := by decide +kernel
theorem dX10_copies_14 : decode cX10_copies 14 = .ok (.iadd, 1) := by decide +kernel
theorem dX10_copies_15 : decode cX10_copies 15 = .ok (.aload_n 0, 1) := by decide +kernel
theorem dX10_copies_16 : decode cX10_copies 16 = .ok (.getfield 7, 3) := by decide +kernel
theorem dX10_copies_19 : decode cX10_copies 19 = .ok (.iload_n 1, 1) := by decide +kernel
theorem dX10_copies_20 : decode cX10_copies 20 = .ok (.iload_n 3, 1) := by decide +kernel
theorem dX10_copies_21 : decode cX10_copies 21 = .ok (.iadd, 1) := by decide +kernel
theorem dX10_copies_22 : decode cX10_copies 22 = .ok (.iaload, 1) := by decide +kernel
theorem dX10_copies_23 : decode cX10_copies 23 = .ok (.iastore, 1) := by decide +kernel
theorem dX10_copies_24 : decode cX10_copies 24 = .ok (.iinc 3 1, 3) := by decide +kernel
theorem dX10_copies_27 : decode cX10_copies 27 = .ok (.goto (-25), 3) := by decide +kernel
theorem dX10_copies_30 : decode cX10_copies 30 = .ok (.return_, 1) := by decide +kernel
theorem dX10_fault_0 : decode cX10_fault 0 = .ok (.iload_n 1, 1) := by decide +kernel
theorem dX10_fault_1 : decode cX10_fault 1 = .ok (.ifCond .ne 10, 3) := by decide +kernel
theorem dX10_fault_4 : decode cX10_fault 4 = .ok (.aload_n 0, 1) := by decide +kernel
theorem dX10_fault_5 : decode cX10_fault 5 = .ok (.getfield 34, 3) := by decide +kernel
theorem dX10_fault_8 : decode cX10_fault 8 = .ok (.goto 16, 3) := by decide +kernel
theorem dX10_fault_11 : decode cX10_fault 11 = .ok (.iload_n 1, 1) := by decide +kernel
theorem dX10_fault_12 : decode cX10_fault 12 = .ok (.iconst 1, 1) := by decide +kernel
theorem dX10_fault_13 : decode cX10_fault 13 = .ok (.if_icmp .ne 10, 3) := by decide +kernel
theorem dX10_fault_16 : decode cX10_fault 16 = .ok (.aload_n 0, 1) := by decide +kernel
theorem dX10_fault_17 : decode cX10_fault 17 = .ok (.getfield 38, 3) := by decide +kernel
theorem dX10_fault_20 : decode cX10_fault 20 = .ok (.goto 4, 3) := by decide +kernel
theorem dX10_fault_23 : decode cX10_fault 23 = .ok (.iconst (-1), 1) := by decide +kernel
theorem dX10_fault_24 : decode cX10_fault 24 = .ok (.ireturn, 1) := by decide +kernel
theorem dX10_isStrip_0 : decode cX10_isStrip 0 = .ok (.iload_n 1, 1) := by decide +kernel
theorem dX10_isStrip_1 : decode cX10_isStrip 1 = .ok (.ifCond .lt 17, 3) := by decide +kernel
theorem dX10_isStrip_4 : decode cX10_isStrip 4 = .ok (.iload_n 1, 1) := by decide +kernel
theorem dX10_isStrip_5 : decode cX10_isStrip 5 = .ok (.aload_n 0, 1) := by decide +kernel
theorem dX10_isStrip_6 : decode cX10_isStrip 6 = .ok (.getfield 7, 3) := by decide +kernel
theorem dX10_isStrip_9 : decode cX10_isStrip 9 = .ok (.iconst 0, 1) := by decide +kernel
theorem dX10_isStrip_10 : decode cX10_isStrip 10 = .ok (.iaload, 1) := by decide +kernel
theorem dX10_isStrip_11 : decode cX10_isStrip 11 = .ok (.if_icmp .ge 7, 3) := by decide +kernel
theorem dX10_isStrip_14 : decode cX10_isStrip 14 = .ok (.iconst 1, 1) := by decide +kernel
theorem dX10_isStrip_15 : decode cX10_isStrip 15 = .ok (.goto 4, 3) := by decide +kernel
theorem dX10_isStrip_18 : decode cX10_isStrip 18 = .ok (.iconst 0, 1) := by decide +kernel
theorem dX10_isStrip_19 : decode cX10_isStrip 19 = .ok (.ireturn, 1) := by decide +kernel
theorem dX10_isHarm_0 : decode cX10_isHarm 0 = .ok (.iload_n 1, 1) := by decide +kernel
theorem dX10_isHarm_1 : decode cX10_isHarm 1 = .ok (.ifCond .lt 17, 3) := by decide +kernel
theorem dX10_isHarm_4 : decode cX10_isHarm 4 = .ok (.iload_n 1, 1) := by decide +kernel
theorem dX10_isHarm_5 : decode cX10_isHarm 5 = .ok (.aload_n 0, 1) := by decide +kernel
theorem dX10_isHarm_6 : decode cX10_isHarm 6 = .ok (.getfield 7, 3) := by decide +kernel
theorem dX10_isHarm_9 : decode cX10_isHarm 9 = .ok (.iconst 1, 1) := by decide +kernel
theorem dX10_isHarm_10 : decode cX10_isHarm 10 = .ok (.iaload, 1) := by decide +kernel
theorem dX10_isHarm_11 : decode cX10_isHarm 11 = .ok (.if_icmp .ge 7, 3) := by decide +kernel
theorem dX10_isHarm_14 : decode cX10_isHarm 14 = .ok (.iconst 1, 1) := by decide +kernel
theorem dX10_isHarm_15 : decode cX10_isHarm 15 = .ok (.goto 4, 3) := by decide +kernel
theorem dX10_isHarm_18 : decode cX10_isHarm 18 = .ok (.iconst 0, 1) := by decide +kernel
theorem dX10_isHarm_19 : decode cX10_isHarm 19 = .ok (.ireturn, 1) := by decide +kernel
theorem dX10_isFamily_0 : decode cX10_isFamily 0 = .ok (.iload_n 1, 1) := by decide +kernel
theorem dX10_isFamily_1 : decode cX10_isFamily 1 = .ok (.ifCond .lt 17, 3) := by decide +kernel
theorem dX10_isFamily_4 : decode cX10_isFamily 4 = .ok (.iload_n 1, 1) := by decide +kernel
theorem dX10_isFamily_5 : decode cX10_isFamily 5 = .ok (.aload_n 0, 1) := by decide +kernel
theorem dX10_isFamily_6 : decode cX10_isFamily 6 = .ok (.getfield 7, 3) := by decide +kernel
theorem dX10_isFamily_9 : decode cX10_isFamily 9 = .ok (.iconst 2, 1) := by decide +kernel
theorem dX10_isFamily_10 : decode cX10_isFamily 10 = .ok (.iaload, 1) := by decide +kernel
theorem dX10_isFamily_11 : decode cX10_isFamily 11 = .ok (.if_icmp .ge 7, 3) := by decide +kernel
theorem dX10_isFamily_14 : decode cX10_isFamily 14 = .ok (.iconst 1, 1) := by decide +kernel
theorem dX10_isFamily_15 : decode cX10_isFamily 15 = .ok (.goto 4, 3) := by decide +kernel
theorem dX10_isFamily_18 : decode cX10_isFamily 18 = .ok (.iconst 0, 1) := by decide +kernel
theorem dX10_isFamily_19 : decode cX10_isFamily 19 = .ok (.ireturn, 1) := by decide +kernel
theorem dX10_areStrips_0 : decode cX10_areStrips 0 = .ok (.iload_n 1, 1) := by decide +kernel
theorem dX10_areStrips_1 : decode cX10_areStrips 1 = .ok (.ifCond .lt 19, 3) := by decide +kernel
theorem dX10_areStrips_4 : decode cX10_areStrips 4 = .ok (.iload_n 1, 1) := by decide +kernel
theorem dX10_areStrips_5 : decode cX10_areStrips 5 = .ok (.iconst 1, 1) := by decide +kernel
theorem dX10_areStrips_6 : decode cX10_areStrips 6 = .ok (.aload_n 0, 1) := by decide +kernel
theorem dX10_areStrips_7 : decode cX10_areStrips 7 = .ok (.getfield 7, 3) := by decide +kernel
theorem dX10_areStrips_10 : decode cX10_areStrips 10 = .ok (.iconst 0, 1) := by decide +kernel
theorem dX10_areStrips_11 : decode cX10_areStrips 11 = .ok (.iaload, 1) := by decide +kernel
theorem dX10_areStrips_12 : decode cX10_areStrips 12 = .ok (.ishl, 1) := by decide +kernel
theorem dX10_areStrips_13 : decode cX10_areStrips 13 = .ok (.if_icmp .ge 7, 3) := by decide +kernel
theorem dX10_areStrips_16 : decode cX10_areStrips 16 = .ok (.iconst 1, 1) := by decide +kernel
theorem dX10_areStrips_17 : decode cX10_areStrips 17 = .ok (.goto 4, 3) := by decide +kernel
theorem dX10_areStrips_20 : decode cX10_areStrips 20 = .ok (.iconst 0, 1) := by decide +kernel
theorem dX10_areStrips_21 : decode cX10_areStrips 21 = .ok (.ireturn, 1) := by decide +kernel
theorem dX10_isLot_0 : decode cX10_isLot 0 = .ok (.lload_n 1, 1) := by decide +kernel
theorem dX10_isLot_1 : decode cX10_isLot 1 = .ok (.lconst 0, 1) := by decide +kernel
theorem dX10_isLot_2 : decode cX10_isLot 2 = .ok (.lcmp, 1) := by decide +kernel
theorem dX10_isLot_3 : decode cX10_isLot 3 = .ok (.ifCond .lt 20, 3) := by decide +kernel
theorem dX10_isLot_6 : decode cX10_isLot 6 = .ok (.lload_n 1, 1) := by decide +kernel
theorem dX10_isLot_7 : decode cX10_isLot 7 = .ok (.lconst 1, 1) := by decide +kernel
theorem dX10_isLot_8 : decode cX10_isLot 8 = .ok (.aload_n 0, 1) := by decide +kernel
theorem dX10_isLot_9 : decode cX10_isLot 9 = .ok (.getfield 7, 3) := by decide +kernel
theorem dX10_isLot_12 : decode cX10_isLot 12 = .ok (.iconst 1, 1) := by decide +kernel
theorem dX10_isLot_13 : decode cX10_isLot 13 = .ok (.iaload, 1) := by decide +kernel
theorem dX10_isLot_14 : decode cX10_isLot 14 = .ok (.lshl, 1) := by decide +kernel
theorem dX10_isLot_15 : decode cX10_isLot 15 = .ok (.lcmp, 1) := by decide +kernel
theorem dX10_isLot_16 : decode cX10_isLot 16 = .ok (.ifCond .ge 7, 3) := by decide +kernel
theorem dX10_isLot_19 : decode cX10_isLot 19 = .ok (.iconst 1, 1) := by decide +kernel
theorem dX10_isLot_20 : decode cX10_isLot 20 = .ok (.goto 4, 3) := by decide +kernel
theorem dX10_isLot_23 : decode cX10_isLot 23 = .ok (.iconst 0, 1) := by decide +kernel
theorem dX10_isLot_24 : decode cX10_isLot 24 = .ok (.ireturn, 1) := by decide +kernel
theorem dX10_lots_0 : decode cX10_lots 0 = .ok (.iconst 1, 1) := by decide +kernel
theorem dX10_lots_1 : decode cX10_lots 1 = .ok (.aload_n 0, 1) := by decide +kernel
theorem dX10_lots_2 : decode cX10_lots 2 = .ok (.getfield 7, 3) := by decide +kernel
theorem dX10_lots_5 : decode cX10_lots 5 = .ok (.iconst 1, 1) := by decide +kernel
theorem dX10_lots_6 : decode cX10_lots 6 = .ok (.iaload, 1) := by decide +kernel
theorem dX10_lots_7 : decode cX10_lots 7 = .ok (.ishl, 1) := by decide +kernel
theorem dX10_lots_8 : decode cX10_lots 8 = .ok (.ireturn, 1) := by decide +kernel
theorem dX10_ofStrip_0 : decode cX10_ofStrip 0 = .ok (.aload_n 0, 1) := by decide +kernel
theorem dX10_ofStrip_1 : decode cX10_ofStrip 1 = .ok (.getfield 7, 3) := by decide +kernel
theorem dX10_ofStrip_4 : decode cX10_ofStrip 4 = .ok (.bipush 8, 2) := by decide +kernel
theorem dX10_ofStrip_6 : decode cX10_ofStrip 6 = .ok (.iconst 5, 1) := by decide +kernel
theorem dX10_ofStrip_7 : decode cX10_ofStrip 7 = .ok (.iload_n 1, 1) := by decide +kernel
theorem dX10_ofStrip_8 : decode cX10_ofStrip 8 = .ok (.imul, 1) := by decide +kernel
theorem dX10_ofStrip_9 : decode cX10_ofStrip 9 = .ok (.iadd, 1) := by decide +kernel
theorem dX10_ofStrip_10 : decode cX10_ofStrip 10 = .ok (.iload_n 2, 1) := by decide +kernel
theorem dX10_ofStrip_11 : decode cX10_ofStrip 11 = .ok (.iadd, 1) := by decide +kernel
theorem dX10_ofStrip_12 : decode cX10_ofStrip 12 = .ok (.iaload, 1) := by decide +kernel
theorem dX10_ofStrip_13 : decode cX10_ofStrip 13 = .ok (.ireturn, 1) := by decide +kernel
theorem dX10_ofHarm_0 : decode cX10_ofHarm 0 = .ok (.aload_n 0, 1) := by decide +kernel
theorem dX10_ofHarm_1 : decode cX10_ofHarm 1 = .ok (.getfield 7, 3) := by decide +kernel
theorem dX10_ofHarm_4 : decode cX10_ofHarm 4 = .ok (.bipush 58, 2) := by decide +kernel
theorem dX10_ofHarm_6 : decode cX10_ofHarm 6 = .ok (.iconst 5, 1) := by decide +kernel
theorem dX10_ofHarm_7 : decode cX10_ofHarm 7 = .ok (.iload_n 1, 1) := by decide +kernel
theorem dX10_ofHarm_8 : decode cX10_ofHarm 8 = .ok (.imul, 1) := by decide +kernel
theorem dX10_ofHarm_9 : decode cX10_ofHarm 9 = .ok (.iadd, 1) := by decide +kernel
theorem dX10_ofHarm_10 : decode cX10_ofHarm 10 = .ok (.iload_n 2, 1) := by decide +kernel
theorem dX10_ofHarm_11 : decode cX10_ofHarm 11 = .ok (.iadd, 1) := by decide +kernel
theorem dX10_ofHarm_12 : decode cX10_ofHarm 12 = .ok (.iaload, 1) := by decide +kernel
theorem dX10_ofHarm_13 : decode cX10_ofHarm 13 = .ok (.ireturn, 1) := by decide +kernel
theorem dX10_ofFamily_0 : decode cX10_ofFamily 0 = .ok (.aload_n 0, 1) := by decide +kernel
theorem dX10_ofFamily_1 : decode cX10_ofFamily 1 = .ok (.getfield 7, 3) := by decide +kernel
theorem dX10_ofFamily_4 : decode cX10_ofFamily 4 = .ok (.bipush 88, 2) := by decide +kernel
theorem dX10_ofFamily_6 : decode cX10_ofFamily 6 = .ok (.iconst 3, 1) := by decide +kernel
theorem dX10_ofFamily_7 : decode cX10_ofFamily 7 = .ok (.iload_n 1, 1) := by decide +kernel
theorem dX10_ofFamily_8 : decode cX10_ofFamily 8 = .ok (.imul, 1) := by decide +kernel
theorem dX10_ofFamily_9 : decode cX10_ofFamily 9 = .ok (.iadd, 1) := by decide +kernel
theorem dX10_ofFamily_10 : decode cX10_ofFamily 10 = .ok (.iload_n 2, 1) := by decide +kernel
theorem dX10_ofFamily_11 : decode cX10_ofFamily 11 = .ok (.iadd, 1) := by decide +kernel
theorem dX10_ofFamily_12 : decode cX10_ofFamily 12 = .ok (.iaload, 1) := by decide +kernel
theorem dX10_ofFamily_13 : decode cX10_ofFamily 13 = .ok (.ireturn, 1) := by decide +kernel
theorem dX10_falls_0 : decode cX10_falls 0 = .ok (.aload_n 0, 1) := by decide +kernel
theorem dX10_falls_1 : decode cX10_falls 1 = .ok (.iload_n 1, 1) := by decide +kernel
theorem dX10_falls_2 : decode cX10_falls 2 = .ok (.iconst 0, 1) := by decide +kernel
theorem dX10_falls_3 : decode cX10_falls 3 = .ok (.invokevirtual 207, 3) := by decide +kernel
theorem dX10_falls_6 : decode cX10_falls 6 = .ok (.istore_n 3, 1) := by decide +kernel
theorem dX10_falls_7 : decode cX10_falls 7 = .ok (.iload_n 3, 1) := by decide +kernel
theorem dX10_falls_8 : decode cX10_falls 8 = .ok (.ifCond .ne 39, 3) := by decide +kernel
theorem dX10_falls_11 : decode cX10_falls 11 = .ok (.aload_n 0, 1) := by decide +kernel
theorem dX10_falls_12 : decode cX10_falls 12 = .ok (.iload_n 2, 1) := by decide +kernel
theorem dX10_falls_13 : decode cX10_falls 13 = .ok (.iconst 0, 1) := by decide +kernel
theorem dX10_falls_14 : decode cX10_falls 14 = .ok (.invokevirtual 210, 3) := by decide +kernel
theorem dX10_falls_17 : decode cX10_falls 17 = .ok (.aload_n 0, 1) := by decide +kernel
theorem dX10_falls_18 : decode cX10_falls 18 = .ok (.iload_n 1, 1) := by decide +kernel
theorem dX10_falls_19 : decode cX10_falls 19 = .ok (.iconst 1, 1) := by decide +kernel
theorem dX10_falls_20 : decode cX10_falls 20 = .ok (.invokevirtual 207, 3) := by decide +kernel
theorem dX10_falls_23 : decode cX10_falls 23 = .ok (.if_icmp .lt 22, 3) := by decide +kernel
theorem dX10_falls_26 : decode cX10_falls 26 = .ok (.aload_n 0, 1) := by decide +kernel
theorem dX10_falls_27 : decode cX10_falls 27 = .ok (.iload_n 2, 1) := by decide +kernel
theorem dX10_falls_28 : decode cX10_falls 28 = .ok (.iconst 0, 1) := by decide +kernel
theorem dX10_falls_29 : decode cX10_falls 29 = .ok (.invokevirtual 210, 3) := by decide +kernel
theorem dX10_falls_32 : decode cX10_falls 32 = .ok (.aload_n 0, 1) := by decide +kernel
theorem dX10_falls_33 : decode cX10_falls 33 = .ok (.iload_n 1, 1) := by decide +kernel
theorem dX10_falls_34 : decode cX10_falls 34 = .ok (.iconst 2, 1) := by decide +kernel
theorem dX10_falls_35 : decode cX10_falls 35 = .ok (.invokevirtual 207, 3) := by decide +kernel
theorem dX10_falls_38 : decode cX10_falls 38 = .ok (.if_icmp .gt 7, 3) := by decide +kernel
theorem dX10_falls_41 : decode cX10_falls 41 = .ok (.iconst 1, 1) := by decide +kernel
theorem dX10_falls_42 : decode cX10_falls 42 = .ok (.goto 4, 3) := by decide +kernel
theorem dX10_falls_45 : decode cX10_falls 45 = .ok (.iconst 0, 1) := by decide +kernel
theorem dX10_falls_46 : decode cX10_falls 46 = .ok (.ireturn, 1) := by decide +kernel
theorem dX10_falls_47 : decode cX10_falls 47 = .ok (.iload_n 3, 1) := by decide +kernel
theorem dX10_falls_48 : decode cX10_falls 48 = .ok (.iconst 3, 1) := by decide +kernel
theorem dX10_falls_49 : decode cX10_falls 49 = .ok (.if_icmp .eq 41, 3) := by decide +kernel
theorem dX10_falls_52 : decode cX10_falls 52 = .ok (.iload_n 3, 1) := by decide +kernel
theorem dX10_falls_53 : decode cX10_falls 53 = .ok (.iconst 1, 1) := by decide +kernel
theorem dX10_falls_54 : decode cX10_falls 54 = .ok (.if_icmp .ne 21, 3) := by decide +kernel
theorem dX10_falls_57 : decode cX10_falls 57 = .ok (.aload_n 0, 1) := by decide +kernel
theorem dX10_falls_58 : decode cX10_falls 58 = .ok (.iload_n 2, 1) := by decide +kernel
theorem dX10_falls_59 : decode cX10_falls 59 = .ok (.iconst 1, 1) := by decide +kernel
theorem dX10_falls_60 : decode cX10_falls 60 = .ok (.invokevirtual 210, 3) := by decide +kernel
theorem dX10_falls_63 : decode cX10_falls 63 = .ok (.aload_n 0, 1) := by decide +kernel
theorem dX10_falls_64 : decode cX10_falls 64 = .ok (.iload_n 1, 1) := by decide +kernel
theorem dX10_falls_65 : decode cX10_falls 65 = .ok (.iconst 1, 1) := by decide +kernel
theorem dX10_falls_66 : decode cX10_falls 66 = .ok (.invokevirtual 207, 3) := by decide +kernel
theorem dX10_falls_69 : decode cX10_falls 69 = .ok (.if_icmp .ge 25, 3) := by decide +kernel
theorem dX10_falls_72 : decode cX10_falls 72 = .ok (.goto 18, 3) := by decide +kernel
theorem dX10_falls_75 : decode cX10_falls 75 = .ok (.aload_n 0, 1) := by decide +kernel
theorem dX10_falls_76 : decode cX10_falls 76 = .ok (.iload_n 2, 1) := by decide +kernel
theorem dX10_falls_77 : decode cX10_falls 77 = .ok (.iconst 3, 1) := by decide +kernel
theorem dX10_falls_78 : decode cX10_falls 78 = .ok (.invokevirtual 210, 3) := by decide +kernel
theorem dX10_falls_81 : decode cX10_falls 81 = .ok (.aload_n 0, 1) := by decide +kernel
theorem dX10_falls_82 : decode cX10_falls 82 = .ok (.iload_n 1, 1) := by decide +kernel
theorem dX10_falls_83 : decode cX10_falls 83 = .ok (.iconst 1, 1) := by decide +kernel
theorem dX10_falls_84 : decode cX10_falls 84 = .ok (.invokevirtual 207, 3) := by decide +kernel
theorem dX10_falls_87 : decode cX10_falls 87 = .ok (.if_icmp .ne 7, 3) := by decide +kernel
theorem dX10_falls_90 : decode cX10_falls 90 = .ok (.iconst 1, 1) := by decide +kernel
theorem dX10_falls_91 : decode cX10_falls 91 = .ok (.goto 4, 3) := by decide +kernel
theorem dX10_falls_94 : decode cX10_falls 94 = .ok (.iconst 0, 1) := by decide +kernel
theorem dX10_falls_95 : decode cX10_falls 95 = .ok (.ireturn, 1) := by decide +kernel
theorem dX10_held_0 : decode cX10_held 0 = .ok (.iconst 0, 1) := by decide +kernel
theorem dX10_held_1 : decode cX10_held 1 = .ok (.istore_n 2, 1) := by decide +kernel
theorem dX10_held_2 : decode cX10_held 2 = .ok (.iconst 0, 1) := by decide +kernel
theorem dX10_held_3 : decode cX10_held 3 = .ok (.istore_n 3, 1) := by decide +kernel
theorem dX10_held_4 : decode cX10_held 4 = .ok (.iload_n 3, 1) := by decide +kernel
theorem dX10_held_5 : decode cX10_held 5 = .ok (.aload_n 0, 1) := by decide +kernel
theorem dX10_held_6 : decode cX10_held 6 = .ok (.getfield 7, 3) := by decide +kernel
theorem dX10_held_9 : decode cX10_held 9 = .ok (.iconst 0, 1) := by decide +kernel
theorem dX10_held_10 : decode cX10_held 10 = .ok (.iaload, 1) := by decide +kernel
theorem dX10_held_11 : decode cX10_held 11 = .ok (.if_icmp .ge 29, 3) := by decide +kernel
theorem dX10_held_14 : decode cX10_held 14 = .ok (.iload_n 2, 1) := by decide +kernel
theorem dX10_held_15 : decode cX10_held 15 = .ok (.aload_n 0, 1) := by decide +kernel
theorem dX10_held_16 : decode cX10_held 16 = .ok (.iload_n 3, 1) := by decide +kernel
theorem dX10_held_17 : decode cX10_held 17 = .ok (.iconst 4, 1) := by decide +kernel
theorem dX10_held_18 : decode cX10_held 18 = .ok (.invokevirtual 210, 3) := by decide +kernel
theorem dX10_held_21 : decode cX10_held 21 = .ok (.iload_n 1, 1) := by decide +kernel
theorem dX10_held_22 : decode cX10_held 22 = .ok (.if_icmp .ne 9, 3) := by decide +kernel
theorem dX10_held_25 : decode cX10_held 25 = .ok (.iconst 1, 1) := by decide +kernel
theorem dX10_held_26 : decode cX10_held 26 = .ok (.iload_n 3, 1) := by decide +kernel
theorem dX10_held_27 : decode cX10_held 27 = .ok (.ishl, 1) := by decide +kernel
theorem dX10_held_28 : decode cX10_held 28 = .ok (.goto 4, 3) := by decide +kernel
theorem dX10_held_31 : decode cX10_held 31 = .ok (.iconst 0, 1) := by decide +kernel
theorem dX10_held_32 : decode cX10_held 32 = .ok (.ior, 1) := by decide +kernel
theorem dX10_held_33 : decode cX10_held 33 = .ok (.istore_n 2, 1) := by decide +kernel
theorem dX10_held_34 : decode cX10_held 34 = .ok (.iinc 3 1, 3) := by decide +kernel
theorem dX10_held_37 : decode cX10_held 37 = .ok (.goto (-33), 3) := by decide +kernel
theorem dX10_held_40 : decode cX10_held 40 = .ok (.iload_n 2, 1) := by decide +kernel
theorem dX10_held_41 : decode cX10_held 41 = .ok (.ireturn, 1) := by decide +kernel
theorem dX10_bits_0 : decode cX10_bits 0 = .ok (.iconst 0, 1) := by decide +kernel
theorem dX10_bits_1 : decode cX10_bits 1 = .ok (.istore_n 1, 1) := by decide +kernel
theorem dX10_bits_2 : decode cX10_bits 2 = .ok (.iload_n 0, 1) := by decide +kernel
theorem dX10_bits_3 : decode cX10_bits 3 = .ok (.istore_n 2, 1) := by decide +kernel
theorem dX10_bits_4 : decode cX10_bits 4 = .ok (.iload_n 2, 1) := by decide +kernel
theorem dX10_bits_5 : decode cX10_bits 5 = .ok (.ifCond .eq 15, 3) := by decide +kernel
theorem dX10_bits_8 : decode cX10_bits 8 = .ok (.iinc 1 1, 3) := by decide +kernel
theorem dX10_bits_11 : decode cX10_bits 11 = .ok (.iload_n 2, 1) := by decide +kernel
theorem dX10_bits_12 : decode cX10_bits 12 = .ok (.iload_n 2, 1) := by decide +kernel
theorem dX10_bits_13 : decode cX10_bits 13 = .ok (.iconst 1, 1) := by decide +kernel
theorem dX10_bits_14 : decode cX10_bits 14 = .ok (.isub, 1) := by decide +kernel
theorem dX10_bits_15 : decode cX10_bits 15 = .ok (.iand, 1) := by decide +kernel
theorem dX10_bits_16 : decode cX10_bits 16 = .ok (.istore_n 2, 1) := by decide +kernel
theorem dX10_bits_17 : decode cX10_bits 17 = .ok (.goto (-13), 3) := by decide +kernel
theorem dX10_bits_20 : decode cX10_bits 20 = .ok (.iload_n 1, 1) := by decide +kernel
theorem dX10_bits_21 : decode cX10_bits 21 = .ok (.ireturn, 1) := by decide +kernel
theorem dX10_many_0 : decode cX10_many 0 = .ok (.iload_n 1, 1) := by decide +kernel
theorem dX10_many_1 : decode cX10_many 1 = .ok (.ifCond .lt 8, 3) := by decide +kernel
theorem dX10_many_4 : decode cX10_many 4 = .ok (.iload_n 1, 1) := by decide +kernel
theorem dX10_many_5 : decode cX10_many 5 = .ok (.iconst 2, 1) := by decide +kernel
theorem dX10_many_6 : decode cX10_many 6 = .ok (.if_icmp .le 11, 3) := by decide +kernel
theorem dX10_many_9 : decode cX10_many 9 = .ok (.aload_n 0, 1) := by decide +kernel
theorem dX10_many_10 : decode cX10_many 10 = .ok (.iconst 1, 1) := by decide +kernel
theorem dX10_many_11 : decode cX10_many 11 = .ok (.invokevirtual 194, 3) := by decide +kernel
theorem dX10_many_14 : decode cX10_many 14 = .ok (.goto 13, 3) := by decide +kernel
theorem dX10_many_17 : decode cX10_many 17 = .ok (.aload_n 0, 1) := by decide +kernel
theorem dX10_many_18 : decode cX10_many 18 = .ok (.aload_n 0, 1) := by decide +kernel
theorem dX10_many_19 : decode cX10_many 19 = .ok (.getfield 7, 3) := by decide +kernel
theorem dX10_many_22 : decode cX10_many 22 = .ok (.iload_n 1, 1) := by decide +kernel
theorem dX10_many_23 : decode cX10_many 23 = .ok (.iaload, 1) := by decide +kernel
theorem dX10_many_24 : decode cX10_many 24 = .ok (.invokevirtual 204, 3) := by decide +kernel
theorem dX10_many_27 : decode cX10_many 27 = .ok (.ireturn, 1) := by decide +kernel
theorem dX10_strip_0 : decode cX10_strip 0 = .ok (.aload_n 0, 1) := by decide +kernel
theorem dX10_strip_1 : decode cX10_strip 1 = .ok (.iload_n 1, 1) := by decide +kernel
theorem dX10_strip_2 : decode cX10_strip 2 = .ok (.invokevirtual 213, 3) := by decide +kernel
theorem dX10_strip_5 : decode cX10_strip 5 = .ok (.ifCond .eq 12, 3) := by decide +kernel
theorem dX10_strip_8 : decode cX10_strip 8 = .ok (.iload_n 2, 1) := by decide +kernel
theorem dX10_strip_9 : decode cX10_strip 9 = .ok (.ifCond .lt 8, 3) := by decide +kernel
theorem dX10_strip_12 : decode cX10_strip 12 = .ok (.iload_n 2, 1) := by decide +kernel
theorem dX10_strip_13 : decode cX10_strip 13 = .ok (.iconst 4, 1) := by decide +kernel
theorem dX10_strip_14 : decode cX10_strip 14 = .ok (.if_icmp .le 9, 3) := by decide +kernel
theorem dX10_strip_17 : decode cX10_strip 17 = .ok (.aload_n 0, 1) := by decide +kernel
theorem dX10_strip_18 : decode cX10_strip 18 = .ok (.iconst 1, 1) := by decide +kernel
theorem dX10_strip_19 : decode cX10_strip 19 = .ok (.invokevirtual 194, 3) := by decide +kernel
theorem dX10_strip_22 : decode cX10_strip 22 = .ok (.ireturn, 1) := by decide +kernel
theorem dX10_strip_23 : decode cX10_strip 23 = .ok (.aload_n 0, 1) := by decide +kernel
theorem dX10_strip_24 : decode cX10_strip 24 = .ok (.iload_n 1, 1) := by decide +kernel
theorem dX10_strip_25 : decode cX10_strip 25 = .ok (.iload_n 2, 1) := by decide +kernel
theorem dX10_strip_26 : decode cX10_strip 26 = .ok (.invokevirtual 210, 3) := by decide +kernel
theorem dX10_strip_29 : decode cX10_strip 29 = .ok (.istore_n 3, 1) := by decide +kernel
theorem dX10_strip_30 : decode cX10_strip 30 = .ok (.iload_n 2, 1) := by decide +kernel
theorem dX10_strip_31 : decode cX10_strip 31 = .ok (.iconst 4, 1) := by decide +kernel
theorem dX10_strip_32 : decode cX10_strip 32 = .ok (.if_icmp .ne 17, 3) := by decide +kernel
theorem dX10_strip_35 : decode cX10_strip 35 = .ok (.iload_n 3, 1) := by decide +kernel
theorem dX10_strip_36 : decode cX10_strip 36 = .ok (.iconst (-1), 1) := by decide +kernel
theorem dX10_strip_37 : decode cX10_strip 37 = .ok (.if_icmp .ne 12, 3) := by decide +kernel
theorem dX10_strip_40 : decode cX10_strip 40 = .ok (.aload_n 0, 1) := by decide +kernel
theorem dX10_strip_41 : decode cX10_strip 41 = .ok (.bipush 6, 2) := by decide +kernel
theorem dX10_strip_43 : decode cX10_strip 43 = .ok (.invokevirtual 194, 3) := by decide +kernel
theorem dX10_strip_46 : decode cX10_strip 46 = .ok (.goto 8, 3) := by decide +kernel
theorem dX10_strip_49 : decode cX10_strip 49 = .ok (.aload_n 0, 1) := by decide +kernel
theorem dX10_strip_50 : decode cX10_strip 50 = .ok (.iload_n 3, 1) := by decide +kernel
theorem dX10_strip_51 : decode cX10_strip 51 = .ok (.invokevirtual 204, 3) := by decide +kernel
theorem dX10_strip_54 : decode cX10_strip 54 = .ok (.ireturn, 1) := by decide +kernel
theorem dX10_harm_0 : decode cX10_harm 0 = .ok (.aload_n 0, 1) := by decide +kernel
theorem dX10_harm_1 : decode cX10_harm 1 = .ok (.iload_n 1, 1) := by decide +kernel
theorem dX10_harm_2 : decode cX10_harm 2 = .ok (.invokevirtual 216, 3) := by decide +kernel
theorem dX10_harm_5 : decode cX10_harm 5 = .ok (.ifCond .eq 12, 3) := by decide +kernel
theorem dX10_harm_8 : decode cX10_harm 8 = .ok (.iload_n 2, 1) := by decide +kernel
theorem dX10_harm_9 : decode cX10_harm 9 = .ok (.ifCond .lt 8, 3) := by decide +kernel
theorem dX10_harm_12 : decode cX10_harm 12 = .ok (.iload_n 2, 1) := by decide +kernel
theorem dX10_harm_13 : decode cX10_harm 13 = .ok (.iconst 3, 1) := by decide +kernel
theorem dX10_harm_14 : decode cX10_harm 14 = .ok (.if_icmp .le 9, 3) := by decide +kernel
theorem dX10_harm_17 : decode cX10_harm 17 = .ok (.aload_n 0, 1) := by decide +kernel
theorem dX10_harm_18 : decode cX10_harm 18 = .ok (.iconst 1, 1) := by decide +kernel
theorem dX10_harm_19 : decode cX10_harm 19 = .ok (.invokevirtual 194, 3) := by decide +kernel
theorem dX10_harm_22 : decode cX10_harm 22 = .ok (.ireturn, 1) := by decide +kernel
theorem dX10_harm_23 : decode cX10_harm 23 = .ok (.iload_n 2, 1) := by decide +kernel
theorem dX10_harm_24 : decode cX10_harm 24 = .ok (.iconst 3, 1) := by decide +kernel
theorem dX10_harm_25 : decode cX10_harm 25 = .ok (.if_icmp .ge 24, 3) := by decide +kernel
theorem dX10_harm_28 : decode cX10_harm 28 = .ok (.aload_n 0, 1) := by decide +kernel
theorem dX10_harm_29 : decode cX10_harm 29 = .ok (.aload_n 0, 1) := by decide +kernel
theorem dX10_harm_30 : decode cX10_harm 30 = .ok (.iload_n 1, 1) := by decide +kernel
theorem dX10_harm_31 : decode cX10_harm 31 = .ok (.iload_n 2, 1) := by decide +kernel
theorem dX10_harm_32 : decode cX10_harm 32 = .ok (.ifCond .ne 7, 3) := by decide +kernel
theorem dX10_harm_35 : decode cX10_harm 35 = .ok (.iconst 0, 1) := by decide +kernel
theorem dX10_harm_36 : decode cX10_harm 36 = .ok (.goto 6, 3) := by decide +kernel
theorem dX10_harm_39 : decode cX10_harm 39 = .ok (.iload_n 2, 1) := by decide +kernel
theorem dX10_harm_40 : decode cX10_harm 40 = .ok (.iconst 2, 1) := by decide +kernel
theorem dX10_harm_41 : decode cX10_harm 41 = .ok (.iadd, 1) := by decide +kernel
theorem dX10_harm_42 : decode cX10_harm 42 = .ok (.invokevirtual 207, 3) := by decide +kernel
theorem dX10_harm_45 : decode cX10_harm 45 = .ok (.invokevirtual 204, 3) := by decide +kernel
theorem dX10_harm_48 : decode cX10_harm 48 = .ok (.ireturn, 1) := by decide +kernel
theorem dX10_harm_49 : decode cX10_harm 49 = .ok (.iconst 0, 1) := by decide +kernel
theorem dX10_harm_50 : decode cX10_harm 50 = .ok (.istore_n 3, 1) := by decide +kernel
theorem dX10_harm_51 : decode cX10_harm 51 = .ok (.iconst 0, 1) := by decide +kernel
theorem dX10_harm_52 : decode cX10_harm 52 = .ok (.istore 4, 2) := by decide +kernel
theorem dX10_harm_54 : decode cX10_harm 54 = .ok (.iload 4, 2) := by decide +kernel
theorem dX10_harm_56 : decode cX10_harm 56 = .ok (.aload_n 0, 1) := by decide +kernel
theorem dX10_harm_57 : decode cX10_harm 57 = .ok (.getfield 7, 3) := by decide +kernel
theorem dX10_harm_60 : decode cX10_harm 60 = .ok (.iconst 0, 1) := by decide +kernel
theorem dX10_harm_61 : decode cX10_harm 61 = .ok (.iaload, 1) := by decide +kernel
theorem dX10_harm_62 : decode cX10_harm 62 = .ok (.if_icmp .ge 30, 3) := by decide +kernel
theorem dX10_harm_65 : decode cX10_harm 65 = .ok (.iload_n 3, 1) := by decide +kernel
theorem dX10_harm_66 : decode cX10_harm 66 = .ok (.aload_n 0, 1) := by decide +kernel
theorem dX10_harm_67 : decode cX10_harm 67 = .ok (.iload_n 1, 1) := by decide +kernel
theorem dX10_harm_68 : decode cX10_harm 68 = .ok (.iload 4, 2) := by decide +kernel
theorem dX10_harm_70 : decode cX10_harm 70 = .ok (.invokevirtual 219, 3) := by decide +kernel
theorem dX10_harm_73 : decode cX10_harm 73 = .ok (.ifCond .eq 10, 3) := by decide +kernel
theorem dX10_harm_76 : decode cX10_harm 76 = .ok (.iconst 1, 1) := by decide +kernel
theorem dX10_harm_77 : decode cX10_harm 77 = .ok (.iload 4, 2) := by decide +kernel
theorem dX10_harm_79 : decode cX10_harm 79 = .ok (.ishl, 1) := by decide +kernel
theorem dX10_harm_80 : decode cX10_harm 80 = .ok (.goto 4, 3) := by decide +kernel
theorem dX10_harm_83 : decode cX10_harm 83 = .ok (.iconst 0, 1) := by decide +kernel
theorem dX10_harm_84 : decode cX10_harm 84 = .ok (.ior, 1) := by decide +kernel
theorem dX10_harm_85 : decode cX10_harm 85 = .ok (.istore_n 3, 1) := by decide +kernel
theorem dX10_harm_86 : decode cX10_harm 86 = .ok (.iinc 4 1, 3) := by decide +kernel
theorem dX10_harm_89 : decode cX10_harm 89 = .ok (.goto (-35), 3) := by decide +kernel
theorem dX10_harm_92 : decode cX10_harm 92 = .ok (.aload_n 0, 1) := by decide +kernel
theorem dX10_harm_93 : decode cX10_harm 93 = .ok (.iload_n 3, 1) := by decide +kernel
theorem dX10_harm_94 : decode cX10_harm 94 = .ok (.invokevirtual 204, 3) := by decide +kernel
theorem dX10_harm_97 : decode cX10_harm 97 = .ok (.ireturn, 1) := by decide +kernel
theorem dX10_family_0 : decode cX10_family 0 = .ok (.aload_n 0, 1) := by decide +kernel
theorem dX10_family_1 : decode cX10_family 1 = .ok (.iload_n 1, 1) := by decide +kernel
theorem dX10_family_2 : decode cX10_family 2 = .ok (.invokevirtual 223, 3) := by decide +kernel
theorem dX10_family_5 : decode cX10_family 5 = .ok (.ifCond .eq 12, 3) := by decide +kernel
theorem dX10_family_8 : decode cX10_family 8 = .ok (.iload_n 2, 1) := by decide +kernel
theorem dX10_family_9 : decode cX10_family 9 = .ok (.ifCond .lt 8, 3) := by decide +kernel
theorem dX10_family_12 : decode cX10_family 12 = .ok (.iload_n 2, 1) := by decide +kernel
theorem dX10_family_13 : decode cX10_family 13 = .ok (.iconst 3, 1) := by decide +kernel
theorem dX10_family_14 : decode cX10_family 14 = .ok (.if_icmp .le 9, 3) := by decide +kernel
theorem dX10_family_17 : decode cX10_family 17 = .ok (.aload_n 0, 1) := by decide +kernel
theorem dX10_family_18 : decode cX10_family 18 = .ok (.iconst 1, 1) := by decide +kernel
theorem dX10_family_19 : decode cX10_family 19 = .ok (.invokevirtual 194, 3) := by decide +kernel
theorem dX10_family_22 : decode cX10_family 22 = .ok (.ireturn, 1) := by decide +kernel
theorem dX10_family_23 : decode cX10_family 23 = .ok (.aload_n 0, 1) := by decide +kernel
theorem dX10_family_24 : decode cX10_family 24 = .ok (.iload_n 2, 1) := by decide +kernel
theorem dX10_family_25 : decode cX10_family 25 = .ok (.iconst 3, 1) := by decide +kernel
theorem dX10_family_26 : decode cX10_family 26 = .ok (.if_icmp .ge 12, 3) := by decide +kernel
theorem dX10_family_29 : decode cX10_family 29 = .ok (.aload_n 0, 1) := by decide +kernel
theorem dX10_family_30 : decode cX10_family 30 = .ok (.iload_n 1, 1) := by decide +kernel
theorem dX10_family_31 : decode cX10_family 31 = .ok (.iload_n 2, 1) := by decide +kernel
theorem dX10_family_32 : decode cX10_family 32 = .ok (.invokevirtual 226, 3) := by decide +kernel
theorem dX10_family_35 : decode cX10_family 35 = .ok (.goto 8, 3) := by decide +kernel
theorem dX10_family_38 : decode cX10_family 38 = .ok (.aload_n 0, 1) := by decide +kernel
theorem dX10_family_39 : decode cX10_family 39 = .ok (.iload_n 1, 1) := by decide +kernel
theorem dX10_family_40 : decode cX10_family 40 = .ok (.invokevirtual 229, 3) := by decide +kernel
theorem dX10_family_43 : decode cX10_family 43 = .ok (.invokevirtual 204, 3) := by decide +kernel
theorem dX10_family_46 : decode cX10_family 46 = .ok (.ireturn, 1) := by decide +kernel
theorem dX10_hold_0 : decode cX10_hold 0 = .ok (.aload_n 0, 1) := by decide +kernel
theorem dX10_hold_1 : decode cX10_hold 1 = .ok (.iload_n 1, 1) := by decide +kernel
theorem dX10_hold_2 : decode cX10_hold 2 = .ok (.invokevirtual 213, 3) := by decide +kernel
theorem dX10_hold_5 : decode cX10_hold 5 = .ok (.ifCond .eq 16, 3) := by decide +kernel
theorem dX10_hold_8 : decode cX10_hold 8 = .ok (.iload_n 2, 1) := by decide +kernel
theorem dX10_hold_9 : decode cX10_hold 9 = .ok (.iconst (-1), 1) := by decide +kernel
theorem dX10_hold_10 : decode cX10_hold 10 = .ok (.if_icmp .eq 17, 3) := by decide +kernel
theorem dX10_hold_13 : decode cX10_hold 13 = .ok (.aload_n 0, 1) := by decide +kernel
theorem dX10_hold_14 : decode cX10_hold 14 = .ok (.iload_n 2, 1) := by decide +kernel
theorem dX10_hold_15 : decode cX10_hold 15 = .ok (.invokevirtual 223, 3) := by decide +kernel
theorem dX10_hold_18 : decode cX10_hold 18 = .ok (.ifCond .ne 9, 3) := by decide +kernel
theorem dX10_hold_21 : decode cX10_hold 21 = .ok (.aload_n 0, 1) := by decide +kernel
theorem dX10_hold_22 : decode cX10_hold 22 = .ok (.iconst 1, 1) := by decide +kernel
theorem dX10_hold_23 : decode cX10_hold 23 = .ok (.invokevirtual 88, 3) := by decide +kernel
theorem dX10_hold_26 : decode cX10_hold 26 = .ok (.ireturn, 1) := by decide +kernel
theorem dX10_hold_27 : decode cX10_hold 27 = .ok (.aload_n 0, 1) := by decide +kernel
theorem dX10_hold_28 : decode cX10_hold 28 = .ok (.iload_n 1, 1) := by decide +kernel
theorem dX10_hold_29 : decode cX10_hold 29 = .ok (.iconst 4, 1) := by decide +kernel
theorem dX10_hold_30 : decode cX10_hold 30 = .ok (.invokevirtual 210, 3) := by decide +kernel
theorem dX10_hold_33 : decode cX10_hold 33 = .ok (.iload_n 2, 1) := by decide +kernel
theorem dX10_hold_34 : decode cX10_hold 34 = .ok (.if_icmp .ne 10, 3) := by decide +kernel
theorem dX10_hold_37 : decode cX10_hold 37 = .ok (.aload_n 0, 1) := by decide +kernel
theorem dX10_hold_38 : decode cX10_hold 38 = .ok (.bipush 7, 2) := by decide +kernel
theorem dX10_hold_40 : decode cX10_hold 40 = .ok (.invokevirtual 88, 3) := by decide +kernel
theorem dX10_hold_43 : decode cX10_hold 43 = .ok (.ireturn, 1) := by decide +kernel
theorem dX10_hold_44 : decode cX10_hold 44 = .ok (.aload_n 0, 1) := by decide +kernel
theorem dX10_hold_45 : decode cX10_hold 45 = .ok (.getfield 7, 3) := by decide +kernel
theorem dX10_hold_48 : decode cX10_hold 48 = .ok (.bipush 8, 2) := by decide +kernel
theorem dX10_hold_50 : decode cX10_hold 50 = .ok (.iconst 5, 1) := by decide +kernel
theorem dX10_hold_51 : decode cX10_hold 51 = .ok (.iload_n 1, 1) := by decide +kernel
theorem dX10_hold_52 : decode cX10_hold 52 = .ok (.imul, 1) := by decide +kernel
theorem dX10_hold_53 : decode cX10_hold 53 = .ok (.iadd, 1) := by decide +kernel
theorem dX10_hold_54 : decode cX10_hold 54 = .ok (.iconst 4, 1) := by decide +kernel
theorem dX10_hold_55 : decode cX10_hold 55 = .ok (.iadd, 1) := by decide +kernel
theorem dX10_hold_56 : decode cX10_hold 56 = .ok (.iload_n 2, 1) := by decide +kernel
theorem dX10_hold_57 : decode cX10_hold 57 = .ok (.iastore, 1) := by decide +kernel
theorem dX10_hold_58 : decode cX10_hold 58 = .ok (.aload_n 0, 1) := by decide +kernel
theorem dX10_hold_59 : decode cX10_hold 59 = .ok (.iconst 0, 1) := by decide +kernel
theorem dX10_hold_60 : decode cX10_hold 60 = .ok (.invokevirtual 88, 3) := by decide +kernel
theorem dX10_hold_63 : decode cX10_hold 63 = .ok (.ireturn, 1) := by decide +kernel
theorem dX10_let_0 : decode cX10_let 0 = .ok (.iload_n 1, 1) := by decide +kernel
theorem dX10_let_1 : decode cX10_let 1 = .ok (.ifCond .lt 27, 3) := by decide +kernel
theorem dX10_let_4 : decode cX10_let 4 = .ok (.iload_n 1, 1) := by decide +kernel
theorem dX10_let_5 : decode cX10_let 5 = .ok (.iconst 1, 1) := by decide +kernel
theorem dX10_let_6 : decode cX10_let 6 = .ok (.if_icmp .gt 22, 3) := by decide +kernel
theorem dX10_let_9 : decode cX10_let 9 = .ok (.iload_n 2, 1) := by decide +kernel
theorem dX10_let_10 : decode cX10_let 10 = .ok (.iload_n 1, 1) := by decide +kernel
theorem dX10_let_11 : decode cX10_let 11 = .ok (.ifCond .ne 7, 3) := by decide +kernel
theorem dX10_let_14 : decode cX10_let 14 = .ok (.iconst 1, 1) := by decide +kernel
theorem dX10_let_15 : decode cX10_let 15 = .ok (.goto 4, 3) := by decide +kernel
theorem dX10_let_18 : decode cX10_let 18 = .ok (.iconst 0, 1) := by decide +kernel
theorem dX10_let_19 : decode cX10_let 19 = .ok (.if_icmp .lt 9, 3) := by decide +kernel
theorem dX10_let_22 : decode cX10_let 22 = .ok (.iload_n 2, 1) := by decide +kernel
theorem dX10_let_23 : decode cX10_let 23 = .ok (.bipush 99, 2) := by decide +kernel
theorem dX10_let_25 : decode cX10_let 25 = .ok (.if_icmp .le 9, 3) := by decide +kernel
theorem dX10_let_28 : decode cX10_let 28 = .ok (.aload_n 0, 1) := by decide +kernel
theorem dX10_let_29 : decode cX10_let 29 = .ok (.iconst 1, 1) := by decide +kernel
theorem dX10_let_30 : decode cX10_let 30 = .ok (.invokevirtual 88, 3) := by decide +kernel
theorem dX10_let_33 : decode cX10_let 33 = .ok (.ireturn, 1) := by decide +kernel
theorem dX10_let_34 : decode cX10_let 34 = .ok (.aload_n 0, 1) := by decide +kernel
theorem dX10_let_35 : decode cX10_let 35 = .ok (.getfield 7, 3) := by decide +kernel
theorem dX10_let_38 : decode cX10_let 38 = .ok (.iload_n 1, 1) := by decide +kernel
theorem dX10_let_39 : decode cX10_let 39 = .ok (.ifCond .ne 7, 3) := by decide +kernel
theorem dX10_let_42 : decode cX10_let 42 = .ok (.iconst 3, 1) := by decide +kernel
theorem dX10_let_43 : decode cX10_let 43 = .ok (.goto 4, 3) := by decide +kernel
theorem dX10_let_46 : decode cX10_let 46 = .ok (.iconst 4, 1) := by decide +kernel
theorem dX10_let_47 : decode cX10_let 47 = .ok (.iload_n 2, 1) := by decide +kernel
theorem dX10_let_48 : decode cX10_let 48 = .ok (.iastore, 1) := by decide +kernel
theorem dX10_let_49 : decode cX10_let 49 = .ok (.aload_n 0, 1) := by decide +kernel
theorem dX10_let_50 : decode cX10_let 50 = .ok (.iconst 0, 1) := by decide +kernel
theorem dX10_let_51 : decode cX10_let 51 = .ok (.invokevirtual 88, 3) := by decide +kernel
theorem dX10_let_54 : decode cX10_let 54 = .ok (.ireturn, 1) := by decide +kernel
theorem dX10_likely_0 : decode cX10_likely 0 = .ok (.aload_n 0, 1) := by decide +kernel
theorem dX10_likely_1 : decode cX10_likely 1 = .ok (.iload_n 1, 1) := by decide +kernel
theorem dX10_likely_2 : decode cX10_likely 2 = .ok (.invokevirtual 216, 3) := by decide +kernel
theorem dX10_likely_5 : decode cX10_likely 5 = .ok (.ifCond .eq 13, 3) := by decide +kernel
theorem dX10_likely_8 : decode cX10_likely 8 = .ok (.iload_n 2, 1) := by decide +kernel
theorem dX10_likely_9 : decode cX10_likely 9 = .ok (.ifCond .lt 9, 3) := by decide +kernel
theorem dX10_likely_12 : decode cX10_likely 12 = .ok (.iload_n 2, 1) := by decide +kernel
theorem dX10_likely_13 : decode cX10_likely 13 = .ok (.bipush 16, 2) := by decide +kernel
theorem dX10_likely_15 : decode cX10_likely 15 = .ok (.if_icmp .le 9, 3) := by decide +kernel
theorem dX10_likely_18 : decode cX10_likely 18 = .ok (.aload_n 0, 1) := by decide +kernel
theorem dX10_likely_19 : decode cX10_likely 19 = .ok (.iconst 1, 1) := by decide +kernel
theorem dX10_likely_20 : decode cX10_likely 20 = .ok (.invokevirtual 88, 3) := by decide +kernel
theorem dX10_likely_23 : decode cX10_likely 23 = .ok (.ireturn, 1) := by decide +kernel
theorem dX10_likely_24 : decode cX10_likely 24 = .ok (.aload_n 0, 1) := by decide +kernel
theorem dX10_likely_25 : decode cX10_likely 25 = .ok (.getfield 7, 3) := by decide +kernel
theorem dX10_likely_28 : decode cX10_likely 28 = .ok (.bipush 58, 2) := by decide +kernel
theorem dX10_likely_30 : decode cX10_likely 30 = .ok (.iconst 5, 1) := by decide +kernel
theorem dX10_likely_31 : decode cX10_likely 31 = .ok (.iload_n 1, 1) := by decide +kernel
theorem dX10_likely_32 : decode cX10_likely 32 = .ok (.imul, 1) := by decide +kernel
theorem dX10_likely_33 : decode cX10_likely 33 = .ok (.iadd, 1) := by decide +kernel
theorem dX10_likely_34 : decode cX10_likely 34 = .ok (.iconst 4, 1) := by decide +kernel
theorem dX10_likely_35 : decode cX10_likely 35 = .ok (.iadd, 1) := by decide +kernel
theorem dX10_likely_36 : decode cX10_likely 36 = .ok (.iload_n 2, 1) := by decide +kernel
theorem dX10_likely_37 : decode cX10_likely 37 = .ok (.iastore, 1) := by decide +kernel
theorem dX10_likely_38 : decode cX10_likely 38 = .ok (.aload_n 0, 1) := by decide +kernel
theorem dX10_likely_39 : decode cX10_likely 39 = .ok (.iconst 0, 1) := by decide +kernel
theorem dX10_likely_40 : decode cX10_likely 40 = .ok (.invokevirtual 88, 3) := by decide +kernel
theorem dX10_likely_43 : decode cX10_likely 43 = .ok (.ireturn, 1) := by decide +kernel
theorem dX10_weightOf_0 : decode cX10_weightOf 0 = .ok (.lconst 1, 1) := by decide +kernel
theorem dX10_weightOf_1 : decode cX10_weightOf 1 = .ok (.lstore_n 2, 1) := by decide +kernel
theorem dX10_weightOf_2 : decode cX10_weightOf 2 = .ok (.iconst 0, 1) := by decide +kernel
theorem dX10_weightOf_3 : decode cX10_weightOf 3 = .ok (.istore 4, 2) := by decide +kernel
theorem dX10_weightOf_5 : decode cX10_weightOf 5 = .ok (.iload 4, 2) := by decide +kernel
theorem dX10_weightOf_7 : decode cX10_weightOf 7 = .ok (.aload_n 0, 1) := by decide +kernel
theorem dX10_weightOf_8 : decode cX10_weightOf 8 = .ok (.getfield 7, 3) := by decide +kernel
theorem dX10_weightOf_11 : decode cX10_weightOf 11 = .ok (.iconst 1, 1) := by decide +kernel
theorem dX10_weightOf_12 : decode cX10_weightOf 12 = .ok (.iaload, 1) := by decide +kernel
theorem dX10_weightOf_13 : decode cX10_weightOf 13 = .ok (.if_icmp .ge 44, 3) := by decide +kernel
theorem dX10_weightOf_16 : decode cX10_weightOf 16 = .ok (.lload_n 2, 1) := by decide +kernel
theorem dX10_weightOf_17 : decode cX10_weightOf 17 = .ok (.iload_n 1, 1) := by decide +kernel
theorem dX10_weightOf_18 : decode cX10_weightOf 18 = .ok (.iload 4, 2) := by decide +kernel
theorem dX10_weightOf_20 : decode cX10_weightOf 20 = .ok (.ishr, 1) := by decide +kernel
theorem dX10_weightOf_21 : decode cX10_weightOf 21 = .ok (.iconst 1, 1) := by decide +kernel
theorem dX10_weightOf_22 : decode cX10_weightOf 22 = .ok (.iand, 1) := by decide +kernel
theorem dX10_weightOf_23 : decode cX10_weightOf 23 = .ok (.iconst 1, 1) := by decide +kernel
theorem dX10_weightOf_24 : decode cX10_weightOf 24 = .ok (.if_icmp .ne 14, 3) := by decide +kernel
theorem dX10_weightOf_27 : decode cX10_weightOf 27 = .ok (.aload_n 0, 1) := by decide +kernel
theorem dX10_weightOf_28 : decode cX10_weightOf 28 = .ok (.iload 4, 2) := by decide +kernel
theorem dX10_weightOf_30 : decode cX10_weightOf 30 = .ok (.iconst 4, 1) := by decide +kernel
theorem dX10_weightOf_31 : decode cX10_weightOf 31 = .ok (.invokevirtual 207, 3) := by decide +kernel
theorem dX10_weightOf_34 : decode cX10_weightOf 34 = .ok (.i2l, 1) := by decide +kernel
theorem dX10_weightOf_35 : decode cX10_weightOf 35 = .ok (.goto 14, 3) := by decide +kernel
theorem dX10_weightOf_38 : decode cX10_weightOf 38 = .ok (.bipush 16, 2) := by decide +kernel
theorem dX10_weightOf_40 : decode cX10_weightOf 40 = .ok (.aload_n 0, 1) := by decide +kernel
theorem dX10_weightOf_41 : decode cX10_weightOf 41 = .ok (.iload 4, 2) := by decide +kernel
theorem dX10_weightOf_43 : decode cX10_weightOf 43 = .ok (.iconst 4, 1) := by decide +kernel
theorem dX10_weightOf_44 : decode cX10_weightOf 44 = .ok (.invokevirtual 207, 3) := by decide +kernel
theorem dX10_weightOf_47 : decode cX10_weightOf 47 = .ok (.isub, 1) := by decide +kernel
theorem dX10_weightOf_48 : decode cX10_weightOf 48 = .ok (.i2l, 1) := by decide +kernel
theorem dX10_weightOf_49 : decode cX10_weightOf 49 = .ok (.lmul, 1) := by decide +kernel
theorem dX10_weightOf_50 : decode cX10_weightOf 50 = .ok (.lstore_n 2, 1) := by decide +kernel
theorem dX10_weightOf_51 : decode cX10_weightOf 51 = .ok (.iinc 4 1, 3) := by decide +kernel
theorem dX10_weightOf_54 : decode cX10_weightOf 54 = .ok (.goto (-49), 3) := by decide +kernel
theorem dX10_weightOf_57 : decode cX10_weightOf 57 = .ok (.lload_n 2, 1) := by decide +kernel
theorem dX10_weightOf_58 : decode cX10_weightOf 58 = .ok (.lreturn, 1) := by decide +kernel
theorem dX10_allLots_0 : decode cX10_allLots 0 = .ok (.lconst 1, 1) := by decide +kernel
theorem dX10_allLots_1 : decode cX10_allLots 1 = .ok (.lstore_n 1, 1) := by decide +kernel
theorem dX10_allLots_2 : decode cX10_allLots 2 = .ok (.iconst 0, 1) := by decide +kernel
theorem dX10_allLots_3 : decode cX10_allLots 3 = .ok (.istore_n 3, 1) := by decide +kernel
theorem dX10_allLots_4 : decode cX10_allLots 4 = .ok (.iload_n 3, 1) := by decide +kernel
theorem dX10_allLots_5 : decode cX10_allLots 5 = .ok (.aload_n 0, 1) := by decide +kernel
theorem dX10_allLots_6 : decode cX10_allLots 6 = .ok (.getfield 7, 3) := by decide +kernel
theorem dX10_allLots_9 : decode cX10_allLots 9 = .ok (.iconst 1, 1) := by decide +kernel
theorem dX10_allLots_10 : decode cX10_allLots 10 = .ok (.iaload, 1) := by decide +kernel
theorem dX10_allLots_11 : decode cX10_allLots 11 = .ok (.if_icmp .ge 15, 3) := by decide +kernel
theorem dX10_allLots_14 : decode cX10_allLots 14 = .ok (.lload_n 1, 1) := by decide +kernel
theorem dX10_allLots_15 : decode cX10_allLots 15 = .ok (.ldc2_w 232, 3) := by decide +kernel
theorem dX10_allLots_18 : decode cX10_allLots 18 = .ok (.lmul, 1) := by decide +kernel
theorem dX10_allLots_19 : decode cX10_allLots 19 = .ok (.lstore_n 1, 1) := by decide +kernel
theorem dX10_allLots_20 : decode cX10_allLots 20 = .ok (.iinc 3 1, 3) := by decide +kernel
theorem dX10_allLots_23 : decode cX10_allLots 23 = .ok (.goto (-19), 3) := by decide +kernel
theorem dX10_allLots_26 : decode cX10_allLots 26 = .ok (.lload_n 1, 1) := by decide +kernel
theorem dX10_allLots_27 : decode cX10_allLots 27 = .ok (.lreturn, 1) := by decide +kernel
theorem dX10_leftOf_0 : decode cX10_leftOf 0 = .ok (.iconst 0, 1) := by decide +kernel
theorem dX10_leftOf_1 : decode cX10_leftOf 1 = .ok (.istore_n 3, 1) := by decide +kernel
theorem dX10_leftOf_2 : decode cX10_leftOf 2 = .ok (.iconst 0, 1) := by decide +kernel
theorem dX10_leftOf_3 : decode cX10_leftOf 3 = .ok (.istore 4, 2) := by decide +kernel
theorem dX10_leftOf_5 : decode cX10_leftOf 5 = .ok (.iload 4, 2) := by decide +kernel
theorem dX10_leftOf_7 : decode cX10_leftOf 7 = .ok (.aload_n 0, 1) := by decide +kernel
theorem dX10_leftOf_8 : decode cX10_leftOf 8 = .ok (.getfield 7, 3) := by decide +kernel
theorem dX10_leftOf_11 : decode cX10_leftOf 11 = .ok (.iconst 1, 1) := by decide +kernel
theorem dX10_leftOf_12 : decode cX10_leftOf 12 = .ok (.iaload, 1) := by decide +kernel
theorem dX10_leftOf_13 : decode cX10_leftOf 13 = .ok (.if_icmp .ge 43, 3) := by decide +kernel
theorem dX10_leftOf_16 : decode cX10_leftOf 16 = .ok (.iload_n 3, 1) := by decide +kernel
theorem dX10_leftOf_17 : decode cX10_leftOf 17 = .ok (.iload_n 2, 1) := by decide +kernel
theorem dX10_leftOf_18 : decode cX10_leftOf 18 = .ok (.iload 4, 2) := by decide +kernel
theorem dX10_leftOf_20 : decode cX10_leftOf 20 = .ok (.ishr, 1) := by decide +kernel
theorem dX10_leftOf_21 : decode cX10_leftOf 21 = .ok (.iconst 1, 1) := by decide +kernel
theorem dX10_leftOf_22 : decode cX10_leftOf 22 = .ok (.iand, 1) := by decide +kernel
theorem dX10_leftOf_23 : decode cX10_leftOf 23 = .ok (.iconst 1, 1) := by decide +kernel
theorem dX10_leftOf_24 : decode cX10_leftOf 24 = .ok (.if_icmp .ne 23, 3) := by decide +kernel
theorem dX10_leftOf_27 : decode cX10_leftOf 27 = .ok (.aload_n 0, 1) := by decide +kernel
theorem dX10_leftOf_28 : decode cX10_leftOf 28 = .ok (.iload 4, 2) := by decide +kernel
theorem dX10_leftOf_30 : decode cX10_leftOf 30 = .ok (.iload_n 1, 1) := by decide +kernel
theorem dX10_leftOf_31 : decode cX10_leftOf 31 = .ok (.invokevirtual 219, 3) := by decide +kernel
theorem dX10_leftOf_34 : decode cX10_leftOf 34 = .ok (.ifCond .eq 13, 3) := by decide +kernel
theorem dX10_leftOf_37 : decode cX10_leftOf 37 = .ok (.aload_n 0, 1) := by decide +kernel
theorem dX10_leftOf_38 : decode cX10_leftOf 38 = .ok (.iload 4, 2) := by decide +kernel
theorem dX10_leftOf_40 : decode cX10_leftOf 40 = .ok (.iconst 3, 1) := by decide +kernel
theorem dX10_leftOf_41 : decode cX10_leftOf 41 = .ok (.invokevirtual 207, 3) := by decide +kernel
theorem dX10_leftOf_44 : decode cX10_leftOf 44 = .ok (.goto 4, 3) := by decide +kernel
theorem dX10_leftOf_47 : decode cX10_leftOf 47 = .ok (.iconst 0, 1) := by decide +kernel
theorem dX10_leftOf_48 : decode cX10_leftOf 48 = .ok (.iadd, 1) := by decide +kernel
theorem dX10_leftOf_49 : decode cX10_leftOf 49 = .ok (.istore_n 3, 1) := by decide +kernel
theorem dX10_leftOf_50 : decode cX10_leftOf 50 = .ok (.iinc 4 1, 3) := by decide +kernel
theorem dX10_leftOf_53 : decode cX10_leftOf 53 = .ok (.goto (-48), 3) := by decide +kernel
theorem dX10_leftOf_56 : decode cX10_leftOf 56 = .ok (.aload_n 0, 1) := by decide +kernel
theorem dX10_leftOf_57 : decode cX10_leftOf 57 = .ok (.iload_n 1, 1) := by decide +kernel
theorem dX10_leftOf_58 : decode cX10_leftOf 58 = .ok (.iconst 2, 1) := by decide +kernel
theorem dX10_leftOf_59 : decode cX10_leftOf 59 = .ok (.invokevirtual 210, 3) := by decide +kernel
theorem dX10_leftOf_62 : decode cX10_leftOf 62 = .ok (.aload_n 0, 1) := by decide +kernel
theorem dX10_leftOf_63 : decode cX10_leftOf 63 = .ok (.getfield 234, 3) := by decide +kernel
theorem dX10_leftOf_66 : decode cX10_leftOf 66 = .ok (.ishr, 1) := by decide +kernel
theorem dX10_leftOf_67 : decode cX10_leftOf 67 = .ok (.bipush 8, 2) := by decide +kernel
theorem dX10_leftOf_69 : decode cX10_leftOf 69 = .ok (.bipush 8, 2) := by decide +kernel
theorem dX10_leftOf_71 : decode cX10_leftOf 71 = .ok (.iload_n 3, 1) := by decide +kernel
theorem dX10_leftOf_72 : decode cX10_leftOf 72 = .ok (.invokestatic 137, 3) := by decide +kernel
theorem dX10_leftOf_75 : decode cX10_leftOf 75 = .ok (.isub, 1) := by decide +kernel
theorem dX10_leftOf_76 : decode cX10_leftOf 76 = .ok (.imul, 1) := by decide +kernel
theorem dX10_leftOf_77 : decode cX10_leftOf 77 = .ok (.bipush 8, 2) := by decide +kernel
theorem dX10_leftOf_79 : decode cX10_leftOf 79 = .ok (.idiv, 1) := by decide +kernel
theorem dX10_leftOf_80 : decode cX10_leftOf 80 = .ok (.ireturn, 1) := by decide +kernel
theorem dX10_apart_0 : decode cX10_apart 0 = .ok (.iload_n 0, 1) := by decide +kernel
theorem dX10_apart_1 : decode cX10_apart 1 = .ok (.iload_n 2, 1) := by decide +kernel
theorem dX10_apart_2 : decode cX10_apart 2 = .ok (.isub, 1) := by decide +kernel
theorem dX10_apart_3 : decode cX10_apart 3 = .ok (.invokestatic 237, 3) := by decide +kernel
theorem dX10_apart_6 : decode cX10_apart 6 = .ok (.iload_n 1, 1) := by decide +kernel
theorem dX10_apart_7 : decode cX10_apart 7 = .ok (.iload_n 3, 1) := by decide +kernel
theorem dX10_apart_8 : decode cX10_apart 8 = .ok (.isub, 1) := by decide +kernel
theorem dX10_apart_9 : decode cX10_apart 9 = .ok (.invokestatic 237, 3) := by decide +kernel
theorem dX10_apart_12 : decode cX10_apart 12 = .ok (.iadd, 1) := by decide +kernel
theorem dX10_apart_13 : decode cX10_apart 13 = .ok (.ireturn, 1) := by decide +kernel
theorem dX10_roundOf_0 : decode cX10_roundOf 0 = .ok (.iload_n 2, 1) := by decide +kernel
theorem dX10_roundOf_1 : decode cX10_roundOf 1 = .ok (.ifCond .ne 5, 3) := by decide +kernel
theorem dX10_roundOf_4 : decode cX10_roundOf 4 = .ok (.iconst 0, 1) := by decide +kernel
theorem dX10_roundOf_5 : decode cX10_roundOf 5 = .ok (.ireturn, 1) := by decide +kernel
theorem dX10_roundOf_6 : decode cX10_roundOf 6 = .ok (.aload_n 0, 1) := by decide +kernel
theorem dX10_roundOf_7 : decode cX10_roundOf 7 = .ok (.getfield 7, 3) := by decide +kernel
theorem dX10_roundOf_10 : decode cX10_roundOf 10 = .ok (.iconst 0, 1) := by decide +kernel
theorem dX10_roundOf_11 : decode cX10_roundOf 11 = .ok (.iaload, 1) := by decide +kernel
theorem dX10_roundOf_12 : decode cX10_roundOf 12 = .ok (.istore_n 3, 1) := by decide +kernel
theorem dX10_roundOf_13 : decode cX10_roundOf 13 = .ok (.ldc 240, 2) := by decide +kernel
theorem dX10_roundOf_15 : decode cX10_roundOf 15 = .ok (.istore 4, 2) := by decide +kernel
theorem dX10_roundOf_17 : decode cX10_roundOf 17 = .ok (.iload_n 2, 1) := by decide +kernel
theorem dX10_roundOf_18 : decode cX10_roundOf 18 = .ok (.iload_n 2, 1) := by decide +kernel
theorem dX10_roundOf_19 : decode cX10_roundOf 19 = .ok (.ineg, 1) := by decide +kernel
theorem dX10_roundOf_20 : decode cX10_roundOf 20 = .ok (.iand, 1) := by decide +kernel
theorem dX10_roundOf_21 : decode cX10_roundOf 21 = .ok (.istore 5, 2) := by decide +kernel
theorem dX10_roundOf_23 : decode cX10_roundOf 23 = .ok (.iload 5, 2) := by decide +kernel
theorem dX10_roundOf_25 : decode cX10_roundOf 25 = .ok (.ifCond .eq 207, 3) := by decide +kernel
theorem dX10_roundOf_28 : decode cX10_roundOf 28 = .ok (.iconst 0, 1) := by decide +kernel
theorem dX10_roundOf_29 : decode cX10_roundOf 29 = .ok (.istore 6, 2) := by decide +kernel
theorem dX10_roundOf_31 : decode cX10_roundOf 31 = .ok (.iload 6, 2) := by decide +kernel
theorem dX10_roundOf_33 : decode cX10_roundOf 33 = .ok (.iload_n 3, 1) := by decide +kernel
theorem dX10_roundOf_34 : decode cX10_roundOf 34 = .ok (.if_icmp .ge 187, 3) := by decide +kernel
theorem dX10_roundOf_37 : decode cX10_roundOf 37 = .ok (.iload 5, 2) := by decide +kernel
theorem dX10_roundOf_39 : decode cX10_roundOf 39 = .ok (.iload 6, 2) := by decide +kernel
theorem dX10_roundOf_41 : decode cX10_roundOf 41 = .ok (.ishr, 1) := by decide +kernel
theorem dX10_roundOf_42 : decode cX10_roundOf 42 = .ok (.iconst 1, 1) := by decide +kernel
theorem dX10_roundOf_43 : decode cX10_roundOf 43 = .ok (.iand, 1) := by decide +kernel
theorem dX10_roundOf_44 : decode cX10_roundOf 44 = .ok (.ifCond .ne 6, 3) := by decide +kernel
theorem dX10_roundOf_47 : decode cX10_roundOf 47 = .ok (.goto 168, 3) := by decide +kernel
theorem dX10_roundOf_50 : decode cX10_roundOf 50 = .ok (.aload_n 0, 1) := by decide +kernel
theorem dX10_roundOf_51 : decode cX10_roundOf 51 = .ok (.iload 6, 2) := by decide +kernel
theorem dX10_roundOf_53 : decode cX10_roundOf 53 = .ok (.iconst 0, 1) := by decide +kernel
theorem dX10_roundOf_54 : decode cX10_roundOf 54 = .ok (.invokevirtual 210, 3) := by decide +kernel
theorem dX10_roundOf_57 : decode cX10_roundOf 57 = .ok (.istore 7, 2) := by decide +kernel
theorem dX10_roundOf_59 : decode cX10_roundOf 59 = .ok (.aload_n 0, 1) := by decide +kernel
theorem dX10_roundOf_60 : decode cX10_roundOf 60 = .ok (.iload 6, 2) := by decide +kernel
theorem dX10_roundOf_62 : decode cX10_roundOf 62 = .ok (.iconst 1, 1) := by decide +kernel
theorem dX10_roundOf_63 : decode cX10_roundOf 63 = .ok (.invokevirtual 210, 3) := by decide +kernel
theorem dX10_roundOf_66 : decode cX10_roundOf 66 = .ok (.istore 8, 2) := by decide +kernel
theorem dX10_roundOf_68 : decode cX10_roundOf 68 = .ok (.iload 7, 2) := by decide +kernel
theorem dX10_roundOf_70 : decode cX10_roundOf 70 = .ok (.iload 8, 2) := by decide +kernel
theorem dX10_roundOf_72 : decode cX10_roundOf 72 = .ok (.aload_n 0, 1) := by decide +kernel
theorem dX10_roundOf_73 : decode cX10_roundOf 73 = .ok (.iload_n 1, 1) := by decide +kernel
theorem dX10_roundOf_74 : decode cX10_roundOf 74 = .ok (.iconst 0, 1) := by decide +kernel
theorem dX10_roundOf_75 : decode cX10_roundOf 75 = .ok (.invokevirtual 226, 3) := by decide +kernel
theorem dX10_roundOf_78 : decode cX10_roundOf 78 = .ok (.aload_n 0, 1) := by decide +kernel
theorem dX10_roundOf_79 : decode cX10_roundOf 79 = .ok (.iload_n 1, 1) := by decide +kernel
theorem dX10_roundOf_80 : decode cX10_roundOf 80 = .ok (.iconst 1, 1) := by decide +kernel
theorem dX10_roundOf_81 : decode cX10_roundOf 81 = .ok (.invokevirtual 226, 3) := by decide +kernel
theorem dX10_roundOf_84 : decode cX10_roundOf 84 = .ok (.invokestatic 241, 3) := by decide +kernel
theorem dX10_roundOf_87 : decode cX10_roundOf 87 = .ok (.istore 9, 2) := by decide +kernel
theorem dX10_roundOf_89 : decode cX10_roundOf 89 = .ok (.iload 5, 2) := by decide +kernel
theorem dX10_roundOf_91 : decode cX10_roundOf 91 = .ok (.iconst 1, 1) := by decide +kernel
theorem dX10_roundOf_92 : decode cX10_roundOf 92 = .ok (.iload 6, 2) := by decide +kernel
theorem dX10_roundOf_94 : decode cX10_roundOf 94 = .ok (.ishl, 1) := by decide +kernel
theorem dX10_roundOf_95 : decode cX10_roundOf 95 = .ok (.iconst (-1), 1) := by decide +kernel
theorem dX10_roundOf_96 : decode cX10_roundOf 96 = .ok (.ixor, 1) := by decide +kernel
theorem dX10_roundOf_97 : decode cX10_roundOf 97 = .ok (.iand, 1) := by decide +kernel
theorem dX10_roundOf_98 : decode cX10_roundOf 98 = .ok (.istore 10, 2) := by decide +kernel
theorem dX10_roundOf_100 : decode cX10_roundOf 100 = .ok (.iload 10, 2) := by decide +kernel
theorem dX10_roundOf_102 : decode cX10_roundOf 102 = .ok (.ifCond .ne 8, 3) := by decide +kernel
theorem dX10_roundOf_105 : decode cX10_roundOf 105 = .ok (.iload 9, 2) := by decide +kernel
theorem dX10_roundOf_107 : decode cX10_roundOf 107 = .ok (.goto 5, 3) := by decide +kernel
theorem dX10_roundOf_110 : decode cX10_roundOf 110 = .ok (.ldc 240, 2) := by decide +kernel
theorem dX10_roundOf_112 : decode cX10_roundOf 112 = .ok (.istore 11, 2) := by decide +kernel
theorem dX10_roundOf_114 : decode cX10_roundOf 114 = .ok (.iconst 0, 1) := by decide +kernel
theorem dX10_roundOf_115 : decode cX10_roundOf 115 = .ok (.istore 12, 2) := by decide +kernel
theorem dX10_roundOf_117 : decode cX10_roundOf 117 = .ok (.iload 12, 2) := by decide +kernel
theorem dX10_roundOf_119 : decode cX10_roundOf 119 = .ok (.iload_n 3, 1) := by decide +kernel
theorem dX10_roundOf_120 : decode cX10_roundOf 120 = .ok (.if_icmp .ge 62, 3) := by decide +kernel
theorem dX10_roundOf_123 : decode cX10_roundOf 123 = .ok (.iload 10, 2) := by decide +kernel
theorem dX10_roundOf_125 : decode cX10_roundOf 125 = .ok (.iload 12, 2) := by decide +kernel
theorem dX10_roundOf_127 : decode cX10_roundOf 127 = .ok (.ishr, 1) := by decide +kernel
theorem dX10_roundOf_128 : decode cX10_roundOf 128 = .ok (.iconst 1, 1) := by decide +kernel
theorem dX10_roundOf_129 : decode cX10_roundOf 129 = .ok (.iand, 1) := by decide +kernel
theorem dX10_roundOf_130 : decode cX10_roundOf 130 = .ok (.iconst 1, 1) := by decide +kernel
theorem dX10_roundOf_131 : decode cX10_roundOf 131 = .ok (.if_icmp .ne 45, 3) := by decide +kernel
theorem dX10_roundOf_134 : decode cX10_roundOf 134 = .ok (.iload 11, 2) := by decide +kernel
theorem dX10_roundOf_136 : decode cX10_roundOf 136 = .ok (.aload_n 0, 1) := by decide +kernel
theorem dX10_roundOf_137 : decode cX10_roundOf 137 = .ok (.getfield 47, 3) := by decide +kernel
theorem dX10_roundOf_140 : decode cX10_roundOf 140 = .ok (.bipush 10, 2) := by decide +kernel
theorem dX10_roundOf_142 : decode cX10_roundOf 142 = .ok (.iload 10, 2) := by decide +kernel
theorem dX10_roundOf_144 : decode cX10_roundOf 144 = .ok (.imul, 1) := by decide +kernel
theorem dX10_roundOf_145 : decode cX10_roundOf 145 = .ok (.iload 12, 2) := by decide +kernel
theorem dX10_roundOf_147 : decode cX10_roundOf 147 = .ok (.iadd, 1) := by decide +kernel
theorem dX10_roundOf_148 : decode cX10_roundOf 148 = .ok (.iaload, 1) := by decide +kernel
theorem dX10_roundOf_149 : decode cX10_roundOf 149 = .ok (.iload 7, 2) := by decide +kernel
theorem dX10_roundOf_151 : decode cX10_roundOf 151 = .ok (.iload 8, 2) := by decide +kernel
theorem dX10_roundOf_153 : decode cX10_roundOf 153 = .ok (.aload_n 0, 1) := by decide +kernel
theorem dX10_roundOf_154 : decode cX10_roundOf 154 = .ok (.iload 12, 2) := by decide +kernel
theorem dX10_roundOf_156 : decode cX10_roundOf 156 = .ok (.iconst 0, 1) := by decide +kernel
theorem dX10_roundOf_157 : decode cX10_roundOf 157 = .ok (.invokevirtual 210, 3) := by decide +kernel
theorem dX10_roundOf_160 : decode cX10_roundOf 160 = .ok (.aload_n 0, 1) := by decide +kernel
theorem dX10_roundOf_161 : decode cX10_roundOf 161 = .ok (.iload 12, 2) := by decide +kernel
theorem dX10_roundOf_163 : decode cX10_roundOf 163 = .ok (.iconst 1, 1) := by decide +kernel
theorem dX10_roundOf_164 : decode cX10_roundOf 164 = .ok (.invokevirtual 210, 3) := by decide +kernel
theorem dX10_roundOf_167 : decode cX10_roundOf 167 = .ok (.invokestatic 241, 3) := by decide +kernel
theorem dX10_roundOf_170 : decode cX10_roundOf 170 = .ok (.iadd, 1) := by decide +kernel
theorem dX10_roundOf_171 : decode cX10_roundOf 171 = .ok (.invokestatic 137, 3) := by decide +kernel
theorem dX10_roundOf_174 : decode cX10_roundOf 174 = .ok (.istore 11, 2) := by decide +kernel
theorem dX10_roundOf_176 : decode cX10_roundOf 176 = .ok (.iinc 12 1, 3) := by decide +kernel
theorem dX10_roundOf_179 : decode cX10_roundOf 179 = .ok (.goto (-62), 3) := by decide +kernel
theorem dX10_roundOf_182 : decode cX10_roundOf 182 = .ok (.aload_n 0, 1) := by decide +kernel
theorem dX10_roundOf_183 : decode cX10_roundOf 183 = .ok (.getfield 47, 3) := by decide +kernel
theorem dX10_roundOf_186 : decode cX10_roundOf 186 = .ok (.bipush 10, 2) := by decide +kernel
theorem dX10_roundOf_188 : decode cX10_roundOf 188 = .ok (.iload 5, 2) := by decide +kernel
theorem dX10_roundOf_190 : decode cX10_roundOf 190 = .ok (.imul, 1) := by decide +kernel
theorem dX10_roundOf_191 : decode cX10_roundOf 191 = .ok (.iload 6, 2) := by decide +kernel
theorem dX10_roundOf_193 : decode cX10_roundOf 193 = .ok (.iadd, 1) := by decide +kernel
theorem dX10_roundOf_194 : decode cX10_roundOf 194 = .ok (.iload 11, 2) := by decide +kernel
theorem dX10_roundOf_196 : decode cX10_roundOf 196 = .ok (.iastore, 1) := by decide +kernel
theorem dX10_roundOf_197 : decode cX10_roundOf 197 = .ok (.iload 5, 2) := by decide +kernel
theorem dX10_roundOf_199 : decode cX10_roundOf 199 = .ok (.iload_n 2, 1) := by decide +kernel
theorem dX10_roundOf_200 : decode cX10_roundOf 200 = .ok (.if_icmp .ne 15, 3) := by decide +kernel
theorem dX10_roundOf_203 : decode cX10_roundOf 203 = .ok (.iload 4, 2) := by decide +kernel
theorem dX10_roundOf_205 : decode cX10_roundOf 205 = .ok (.iload 11, 2) := by decide +kernel
theorem dX10_roundOf_207 : decode cX10_roundOf 207 = .ok (.iload 9, 2) := by decide +kernel
theorem dX10_roundOf_209 : decode cX10_roundOf 209 = .ok (.iadd, 1) := by decide +kernel
theorem dX10_roundOf_210 : decode cX10_roundOf 210 = .ok (.invokestatic 137, 3) := by decide +kernel
theorem dX10_roundOf_213 : decode cX10_roundOf 213 = .ok (.istore 4, 2) := by decide +kernel
theorem dX10_roundOf_215 : decode cX10_roundOf 215 = .ok (.iinc 6 1, 3) := by decide +kernel
theorem dX10_roundOf_218 : decode cX10_roundOf 218 = .ok (.goto (-187), 3) := by decide +kernel
theorem dX10_roundOf_221 : decode cX10_roundOf 221 = .ok (.iload 5, 2) := by decide +kernel
theorem dX10_roundOf_223 : decode cX10_roundOf 223 = .ok (.iload_n 2, 1) := by decide +kernel
theorem dX10_roundOf_224 : decode cX10_roundOf 224 = .ok (.isub, 1) := by decide +kernel
theorem dX10_roundOf_225 : decode cX10_roundOf 225 = .ok (.iload_n 2, 1) := by decide +kernel
theorem dX10_roundOf_226 : decode cX10_roundOf 226 = .ok (.iand, 1) := by decide +kernel
theorem dX10_roundOf_227 : decode cX10_roundOf 227 = .ok (.istore 5, 2) := by decide +kernel
theorem dX10_roundOf_229 : decode cX10_roundOf 229 = .ok (.goto (-206), 3) := by decide +kernel
theorem dX10_roundOf_232 : decode cX10_roundOf 232 = .ok (.iload 4, 2) := by decide +kernel
theorem dX10_roundOf_234 : decode cX10_roundOf 234 = .ok (.ireturn, 1) := by decide +kernel
theorem dX10_netOf_0 : decode cX10_netOf 0 = .ok (.aload_n 0, 1) := by decide +kernel
theorem dX10_netOf_1 : decode cX10_netOf 1 = .ok (.getfield 245, 3) := by decide +kernel
theorem dX10_netOf_4 : decode cX10_netOf 4 = .ok (.ineg, 1) := by decide +kernel
theorem dX10_netOf_5 : decode cX10_netOf 5 = .ok (.istore_n 3, 1) := by decide +kernel
theorem dX10_netOf_6 : decode cX10_netOf 6 = .ok (.iconst 0, 1) := by decide +kernel
theorem dX10_netOf_7 : decode cX10_netOf 7 = .ok (.istore 4, 2) := by decide +kernel
theorem dX10_netOf_9 : decode cX10_netOf 9 = .ok (.iload 4, 2) := by decide +kernel
theorem dX10_netOf_11 : decode cX10_netOf 11 = .ok (.aload_n 0, 1) := by decide +kernel
theorem dX10_netOf_12 : decode cX10_netOf 12 = .ok (.getfield 7, 3) := by decide +kernel
theorem dX10_netOf_15 : decode cX10_netOf 15 = .ok (.iconst 0, 1) := by decide +kernel
theorem dX10_netOf_16 : decode cX10_netOf 16 = .ok (.iaload, 1) := by decide +kernel
theorem dX10_netOf_17 : decode cX10_netOf 17 = .ok (.if_icmp .ge 33, 3) := by decide +kernel
theorem dX10_netOf_20 : decode cX10_netOf 20 = .ok (.iload_n 3, 1) := by decide +kernel
theorem dX10_netOf_21 : decode cX10_netOf 21 = .ok (.iload_n 1, 1) := by decide +kernel
theorem dX10_netOf_22 : decode cX10_netOf 22 = .ok (.iload 4, 2) := by decide +kernel
theorem dX10_netOf_24 : decode cX10_netOf 24 = .ok (.ishr, 1) := by decide +kernel
theorem dX10_netOf_25 : decode cX10_netOf 25 = .ok (.iconst 1, 1) := by decide +kernel
theorem dX10_netOf_26 : decode cX10_netOf 26 = .ok (.iand, 1) := by decide +kernel
theorem dX10_netOf_27 : decode cX10_netOf 27 = .ok (.iconst 1, 1) := by decide +kernel
theorem dX10_netOf_28 : decode cX10_netOf 28 = .ok (.if_icmp .ne 13, 3) := by decide +kernel
theorem dX10_netOf_31 : decode cX10_netOf 31 = .ok (.aload_n 0, 1) := by decide +kernel
theorem dX10_netOf_32 : decode cX10_netOf 32 = .ok (.iload 4, 2) := by decide +kernel
theorem dX10_netOf_34 : decode cX10_netOf 34 = .ok (.iload_n 2, 1) := by decide +kernel
theorem dX10_netOf_35 : decode cX10_netOf 35 = .ok (.invokevirtual 248, 3) := by decide +kernel
theorem dX10_netOf_38 : decode cX10_netOf 38 = .ok (.goto 4, 3) := by decide +kernel
theorem dX10_netOf_41 : decode cX10_netOf 41 = .ok (.iconst 0, 1) := by decide +kernel
theorem dX10_netOf_42 : decode cX10_netOf 42 = .ok (.iadd, 1) := by decide +kernel
theorem dX10_netOf_43 : decode cX10_netOf 43 = .ok (.istore_n 3, 1) := by decide +kernel
theorem dX10_netOf_44 : decode cX10_netOf 44 = .ok (.iinc 4 1, 3) := by decide +kernel
theorem dX10_netOf_47 : decode cX10_netOf 47 = .ok (.goto (-38), 3) := by decide +kernel
theorem dX10_netOf_50 : decode cX10_netOf 50 = .ok (.iconst 0, 1) := by decide +kernel
theorem dX10_netOf_51 : decode cX10_netOf 51 = .ok (.iload_n 3, 1) := by decide +kernel
theorem dX10_netOf_52 : decode cX10_netOf 52 = .ok (.invokestatic 251, 3) := by decide +kernel
theorem dX10_netOf_55 : decode cX10_netOf 55 = .ok (.ireturn, 1) := by decide +kernel
theorem dX10_goesRound_0 : decode cX10_goesRound 0 = .ok (.aload_n 0, 1) := by decide +kernel
theorem dX10_goesRound_1 : decode cX10_goesRound 1 = .ok (.aload_n 0, 1) := by decide +kernel
theorem dX10_goesRound_2 : decode cX10_goesRound 2 = .ok (.iload_n 1, 1) := by decide +kernel
theorem dX10_goesRound_3 : decode cX10_goesRound 3 = .ok (.iload_n 2, 1) := by decide +kernel
theorem dX10_goesRound_4 : decode cX10_goesRound 4 = .ok (.invokevirtual 254, 3) := by decide +kernel
theorem dX10_goesRound_7 : decode cX10_goesRound 7 = .ok (.aload_n 0, 1) := by decide +kernel
theorem dX10_goesRound_8 : decode cX10_goesRound 8 = .ok (.getfield 7, 3) := by decide +kernel
theorem dX10_goesRound_11 : decode cX10_goesRound 11 = .ok (.iconst 3, 1) := by decide +kernel
theorem dX10_goesRound_12 : decode cX10_goesRound 12 = .ok (.iaload, 1) := by decide +kernel
theorem dX10_goesRound_13 : decode cX10_goesRound 13 = .ok (.idiv, 1) := by decide +kernel
theorem dX10_goesRound_14 : decode cX10_goesRound 14 = .ok (.putfield 245, 3) := by decide +kernel
theorem dX10_goesRound_17 : decode cX10_goesRound 17 = .ok (.return_, 1) := by decide +kernel
theorem dX10_shortOf_0 : decode cX10_shortOf 0 = .ok (.iconst 0, 1) := by decide +kernel
theorem dX10_shortOf_1 : decode cX10_shortOf 1 = .ok (.aload_n 0, 1) := by decide +kernel
theorem dX10_shortOf_2 : decode cX10_shortOf 2 = .ok (.iload_n 1, 1) := by decide +kernel
theorem dX10_shortOf_3 : decode cX10_shortOf 3 = .ok (.iconst 2, 1) := by decide +kernel
theorem dX10_shortOf_4 : decode cX10_shortOf 4 = .ok (.invokevirtual 226, 3) := by decide +kernel
theorem dX10_shortOf_7 : decode cX10_shortOf 7 = .ok (.iload_n 2, 1) := by decide +kernel
theorem dX10_shortOf_8 : decode cX10_shortOf 8 = .ok (.isub, 1) := by decide +kernel
theorem dX10_shortOf_9 : decode cX10_shortOf 9 = .ok (.invokestatic 251, 3) := by decide +kernel
theorem dX10_shortOf_12 : decode cX10_shortOf 12 = .ok (.ireturn, 1) := by decide +kernel
theorem dX10_worthOf_0 : decode cX10_worthOf 0 = .ok (.aload_n 0, 1) := by decide +kernel
theorem dX10_worthOf_1 : decode cX10_worthOf 1 = .ok (.iload_n 1, 1) := by decide +kernel
theorem dX10_worthOf_2 : decode cX10_worthOf 2 = .ok (.iload_n 2, 1) := by decide +kernel
theorem dX10_worthOf_3 : decode cX10_worthOf 3 = .ok (.invokevirtual 257, 3) := by decide +kernel
theorem dX10_worthOf_6 : decode cX10_worthOf 6 = .ok (.lconst 0, 1) := by decide +kernel
theorem dX10_worthOf_7 : decode cX10_worthOf 7 = .ok (.lstore_n 3, 1) := by decide +kernel
theorem dX10_worthOf_8 : decode cX10_worthOf 8 = .ok (.iconst 0, 1) := by decide +kernel
theorem dX10_worthOf_9 : decode cX10_worthOf 9 = .ok (.istore 5, 2) := by decide +kernel
theorem dX10_worthOf_11 : decode cX10_worthOf 11 = .ok (.iload 5, 2) := by decide +kernel
theorem dX10_worthOf_13 : decode cX10_worthOf 13 = .ok (.aload_n 0, 1) := by decide +kernel
theorem dX10_worthOf_14 : decode cX10_worthOf 14 = .ok (.invokevirtual 260, 3) := by decide +kernel
theorem dX10_worthOf_17 : decode cX10_worthOf 17 = .ok (.if_icmp .ge 60, 3) := by decide +kernel
theorem dX10_worthOf_20 : decode cX10_worthOf 20 = .ok (.aload_n 0, 1) := by decide +kernel
theorem dX10_worthOf_21 : decode cX10_worthOf 21 = .ok (.iload 5, 2) := by decide +kernel
theorem dX10_worthOf_23 : decode cX10_worthOf 23 = .ok (.invokevirtual 263, 3) := by decide +kernel
theorem dX10_worthOf_26 : decode cX10_worthOf 26 = .ok (.lstore 6, 2) := by decide +kernel
theorem dX10_worthOf_28 : decode cX10_worthOf 28 = .ok (.lload 6, 2) := by decide +kernel
theorem dX10_worthOf_30 : decode cX10_worthOf 30 = .ok (.lconst 0, 1) := by decide +kernel
theorem dX10_worthOf_31 : decode cX10_worthOf 31 = .ok (.lcmp, 1) := by decide +kernel
theorem dX10_worthOf_32 : decode cX10_worthOf 32 = .ok (.ifCond .ne 6, 3) := by decide +kernel
theorem dX10_worthOf_35 : decode cX10_worthOf 35 = .ok (.goto 36, 3) := by decide +kernel
theorem dX10_worthOf_38 : decode cX10_worthOf 38 = .ok (.aload_n 0, 1) := by decide +kernel
theorem dX10_worthOf_39 : decode cX10_worthOf 39 = .ok (.iload_n 2, 1) := by decide +kernel
theorem dX10_worthOf_40 : decode cX10_worthOf 40 = .ok (.iload 5, 2) := by decide +kernel
theorem dX10_worthOf_42 : decode cX10_worthOf 42 = .ok (.invokevirtual 267, 3) := by decide +kernel
theorem dX10_worthOf_45 : decode cX10_worthOf 45 = .ok (.istore 8, 2) := by decide +kernel
theorem dX10_worthOf_47 : decode cX10_worthOf 47 = .ok (.lload_n 3, 1) := by decide +kernel
theorem dX10_worthOf_48 : decode cX10_worthOf 48 = .ok (.lload 6, 2) := by decide +kernel
theorem dX10_worthOf_50 : decode cX10_worthOf 50 = .ok (.iload 8, 2) := by decide +kernel
theorem dX10_worthOf_52 : decode cX10_worthOf 52 = .ok (.aload_n 0, 1) := by decide +kernel
theorem dX10_worthOf_53 : decode cX10_worthOf 53 = .ok (.getfield 7, 3) := by decide +kernel
theorem dX10_worthOf_56 : decode cX10_worthOf 56 = .ok (.iconst 4, 1) := by decide +kernel
theorem dX10_worthOf_57 : decode cX10_worthOf 57 = .ok (.iaload, 1) := by decide +kernel
theorem dX10_worthOf_58 : decode cX10_worthOf 58 = .ok (.aload_n 0, 1) := by decide +kernel
theorem dX10_worthOf_59 : decode cX10_worthOf 59 = .ok (.iload_n 1, 1) := by decide +kernel
theorem dX10_worthOf_60 : decode cX10_worthOf 60 = .ok (.iload 8, 2) := by decide +kernel
theorem dX10_worthOf_62 : decode cX10_worthOf 62 = .ok (.invokevirtual 270, 3) := by decide +kernel
theorem dX10_worthOf_65 : decode cX10_worthOf 65 = .ok (.imul, 1) := by decide +kernel
theorem dX10_worthOf_66 : decode cX10_worthOf 66 = .ok (.isub, 1) := by decide +kernel
theorem dX10_worthOf_67 : decode cX10_worthOf 67 = .ok (.i2l, 1) := by decide +kernel
theorem dX10_worthOf_68 : decode cX10_worthOf 68 = .ok (.lmul, 1) := by decide +kernel
theorem dX10_worthOf_69 : decode cX10_worthOf 69 = .ok (.ladd, 1) := by decide +kernel
theorem dX10_worthOf_70 : decode cX10_worthOf 70 = .ok (.lstore_n 3, 1) := by decide +kernel
theorem dX10_worthOf_71 : decode cX10_worthOf 71 = .ok (.iinc 5 1, 3) := by decide +kernel
theorem dX10_worthOf_74 : decode cX10_worthOf 74 = .ok (.goto (-63), 3) := by decide +kernel
theorem dX10_worthOf_77 : decode cX10_worthOf 77 = .ok (.lload_n 3, 1) := by decide +kernel
theorem dX10_worthOf_78 : decode cX10_worthOf 78 = .ok (.lreturn, 1) := by decide +kernel
theorem dX10_weight_0 : decode cX10_weight 0 = .ok (.aload_n 0, 1) := by decide +kernel
theorem dX10_weight_1 : decode cX10_weight 1 = .ok (.iload_n 1, 1) := by decide +kernel
theorem dX10_weight_2 : decode cX10_weight 2 = .ok (.i2l, 1) := by decide +kernel
theorem dX10_weight_3 : decode cX10_weight 3 = .ok (.invokevirtual 273, 3) := by decide +kernel
theorem dX10_weight_6 : decode cX10_weight 6 = .ok (.ifCond .eq 15, 3) := by decide +kernel
theorem dX10_weight_9 : decode cX10_weight 9 = .ok (.aload_n 0, 1) := by decide +kernel
theorem dX10_weight_10 : decode cX10_weight 10 = .ok (.aload_n 0, 1) := by decide +kernel
theorem dX10_weight_11 : decode cX10_weight 11 = .ok (.iload_n 1, 1) := by decide +kernel
theorem dX10_weight_12 : decode cX10_weight 12 = .ok (.invokevirtual 263, 3) := by decide +kernel
theorem dX10_weight_15 : decode cX10_weight 15 = .ok (.invokevirtual 277, 3) := by decide +kernel
theorem dX10_weight_18 : decode cX10_weight 18 = .ok (.goto 9, 3) := by decide +kernel
theorem dX10_weight_21 : decode cX10_weight 21 = .ok (.aload_n 0, 1) := by decide +kernel
theorem dX10_weight_22 : decode cX10_weight 22 = .ok (.iconst 1, 1) := by decide +kernel
theorem dX10_weight_23 : decode cX10_weight 23 = .ok (.invokevirtual 194, 3) := by decide +kernel
theorem dX10_weight_26 : decode cX10_weight 26 = .ok (.i2l, 1) := by decide +kernel
theorem dX10_weight_27 : decode cX10_weight 27 = .ok (.lreturn, 1) := by decide +kernel
theorem dX10_left_0 : decode cX10_left 0 = .ok (.aload_n 0, 1) := by decide +kernel
theorem dX10_left_1 : decode cX10_left 1 = .ok (.iload_n 1, 1) := by decide +kernel
theorem dX10_left_2 : decode cX10_left 2 = .ok (.invokevirtual 213, 3) := by decide +kernel
theorem dX10_left_5 : decode cX10_left 5 = .ok (.ifCond .eq 25, 3) := by decide +kernel
theorem dX10_left_8 : decode cX10_left 8 = .ok (.aload_n 0, 1) := by decide +kernel
theorem dX10_left_9 : decode cX10_left 9 = .ok (.iload_n 2, 1) := by decide +kernel
theorem dX10_left_10 : decode cX10_left 10 = .ok (.i2l, 1) := by decide +kernel
theorem dX10_left_11 : decode cX10_left 11 = .ok (.invokevirtual 273, 3) := by decide +kernel
theorem dX10_left_14 : decode cX10_left 14 = .ok (.ifCond .eq 16, 3) := by decide +kernel
theorem dX10_left_17 : decode cX10_left 17 = .ok (.aload_n 0, 1) := by decide +kernel
theorem dX10_left_18 : decode cX10_left 18 = .ok (.aload_n 0, 1) := by decide +kernel
theorem dX10_left_19 : decode cX10_left 19 = .ok (.iload_n 1, 1) := by decide +kernel
theorem dX10_left_20 : decode cX10_left 20 = .ok (.iload_n 2, 1) := by decide +kernel
theorem dX10_left_21 : decode cX10_left 21 = .ok (.invokevirtual 248, 3) := by decide +kernel
theorem dX10_left_24 : decode cX10_left 24 = .ok (.invokevirtual 204, 3) := by decide +kernel
theorem dX10_left_27 : decode cX10_left 27 = .ok (.goto 8, 3) := by decide +kernel
theorem dX10_left_30 : decode cX10_left 30 = .ok (.aload_n 0, 1) := by decide +kernel
theorem dX10_left_31 : decode cX10_left 31 = .ok (.iconst 1, 1) := by decide +kernel
theorem dX10_left_32 : decode cX10_left 32 = .ok (.invokevirtual 194, 3) := by decide +kernel
theorem dX10_left_35 : decode cX10_left 35 = .ok (.ireturn, 1) := by decide +kernel
theorem dX10_round_0 : decode cX10_round 0 = .ok (.aload_n 0, 1) := by decide +kernel
theorem dX10_round_1 : decode cX10_round 1 = .ok (.iload_n 1, 1) := by decide +kernel
theorem dX10_round_2 : decode cX10_round 2 = .ok (.invokevirtual 223, 3) := by decide +kernel
theorem dX10_round_5 : decode cX10_round 5 = .ok (.ifCond .eq 24, 3) := by decide +kernel
theorem dX10_round_8 : decode cX10_round 8 = .ok (.aload_n 0, 1) := by decide +kernel
theorem dX10_round_9 : decode cX10_round 9 = .ok (.iload_n 2, 1) := by decide +kernel
theorem dX10_round_10 : decode cX10_round 10 = .ok (.invokevirtual 281, 3) := by decide +kernel
theorem dX10_round_13 : decode cX10_round 13 = .ok (.ifCond .eq 16, 3) := by decide +kernel
theorem dX10_round_16 : decode cX10_round 16 = .ok (.aload_n 0, 1) := by decide +kernel
theorem dX10_round_17 : decode cX10_round 17 = .ok (.aload_n 0, 1) := by decide +kernel
theorem dX10_round_18 : decode cX10_round 18 = .ok (.iload_n 1, 1) := by decide +kernel
theorem dX10_round_19 : decode cX10_round 19 = .ok (.iload_n 2, 1) := by decide +kernel
theorem dX10_round_20 : decode cX10_round 20 = .ok (.invokevirtual 254, 3) := by decide +kernel
theorem dX10_round_23 : decode cX10_round 23 = .ok (.invokevirtual 204, 3) := by decide +kernel
theorem dX10_round_26 : decode cX10_round 26 = .ok (.goto 8, 3) := by decide +kernel
theorem dX10_round_29 : decode cX10_round 29 = .ok (.aload_n 0, 1) := by decide +kernel
theorem dX10_round_30 : decode cX10_round 30 = .ok (.iconst 1, 1) := by decide +kernel
theorem dX10_round_31 : decode cX10_round 31 = .ok (.invokevirtual 194, 3) := by decide +kernel
theorem dX10_round_34 : decode cX10_round 34 = .ok (.ireturn, 1) := by decide +kernel
theorem dX10_net_0 : decode cX10_net 0 = .ok (.aload_n 0, 1) := by decide +kernel
theorem dX10_net_1 : decode cX10_net 1 = .ok (.iload_n 1, 1) := by decide +kernel
theorem dX10_net_2 : decode cX10_net 2 = .ok (.invokevirtual 223, 3) := by decide +kernel
theorem dX10_net_5 : decode cX10_net 5 = .ok (.ifCond .eq 20, 3) := by decide +kernel
theorem dX10_net_8 : decode cX10_net 8 = .ok (.aload_n 0, 1) := by decide +kernel
theorem dX10_net_9 : decode cX10_net 9 = .ok (.iload_n 2, 1) := by decide +kernel
theorem dX10_net_10 : decode cX10_net 10 = .ok (.invokevirtual 281, 3) := by decide +kernel
theorem dX10_net_13 : decode cX10_net 13 = .ok (.ifCond .eq 12, 3) := by decide +kernel
theorem dX10_net_16 : decode cX10_net 16 = .ok (.aload_n 0, 1) := by decide +kernel
theorem dX10_net_17 : decode cX10_net 17 = .ok (.iload_n 3, 1) := by decide +kernel
theorem dX10_net_18 : decode cX10_net 18 = .ok (.i2l, 1) := by decide +kernel
theorem dX10_net_19 : decode cX10_net 19 = .ok (.invokevirtual 273, 3) := by decide +kernel
theorem dX10_net_22 : decode cX10_net 22 = .ok (.ifCond .ne 9, 3) := by decide +kernel
theorem dX10_net_25 : decode cX10_net 25 = .ok (.aload_n 0, 1) := by decide +kernel
theorem dX10_net_26 : decode cX10_net 26 = .ok (.iconst 1, 1) := by decide +kernel
theorem dX10_net_27 : decode cX10_net 27 = .ok (.invokevirtual 194, 3) := by decide +kernel
theorem dX10_net_30 : decode cX10_net 30 = .ok (.ireturn, 1) := by decide +kernel
theorem dX10_net_31 : decode cX10_net 31 = .ok (.aload_n 0, 1) := by decide +kernel
theorem dX10_net_32 : decode cX10_net 32 = .ok (.iload_n 1, 1) := by decide +kernel
theorem dX10_net_33 : decode cX10_net 33 = .ok (.iload_n 2, 1) := by decide +kernel
theorem dX10_net_34 : decode cX10_net 34 = .ok (.invokevirtual 257, 3) := by decide +kernel
theorem dX10_net_37 : decode cX10_net 37 = .ok (.aload_n 0, 1) := by decide +kernel
theorem dX10_net_38 : decode cX10_net 38 = .ok (.aload_n 0, 1) := by decide +kernel
theorem dX10_net_39 : decode cX10_net 39 = .ok (.iload_n 2, 1) := by decide +kernel
theorem dX10_net_40 : decode cX10_net 40 = .ok (.iload_n 3, 1) := by decide +kernel
theorem dX10_net_41 : decode cX10_net 41 = .ok (.invokevirtual 267, 3) := by decide +kernel
theorem dX10_net_44 : decode cX10_net 44 = .ok (.invokevirtual 204, 3) := by decide +kernel
theorem dX10_net_47 : decode cX10_net 47 = .ok (.ireturn, 1) := by decide +kernel
theorem dX10_atMost_0 : decode cX10_atMost 0 = .ok (.aload_n 0, 1) := by decide +kernel
theorem dX10_atMost_1 : decode cX10_atMost 1 = .ok (.iload_n 1, 1) := by decide +kernel
theorem dX10_atMost_2 : decode cX10_atMost 2 = .ok (.iload_n 2, 1) := by decide +kernel
theorem dX10_atMost_3 : decode cX10_atMost 3 = .ok (.invokevirtual 257, 3) := by decide +kernel
theorem dX10_atMost_6 : decode cX10_atMost 6 = .ok (.lconst 0, 1) := by decide +kernel
theorem dX10_atMost_7 : decode cX10_atMost 7 = .ok (.lstore 4, 2) := by decide +kernel
theorem dX10_atMost_9 : decode cX10_atMost 9 = .ok (.iconst 0, 1) := by decide +kernel
theorem dX10_atMost_10 : decode cX10_atMost 10 = .ok (.istore 6, 2) := by decide +kernel
theorem dX10_atMost_12 : decode cX10_atMost 12 = .ok (.iload 6, 2) := by decide +kernel
theorem dX10_atMost_14 : decode cX10_atMost 14 = .ok (.aload_n 0, 1) := by decide +kernel
theorem dX10_atMost_15 : decode cX10_atMost 15 = .ok (.invokevirtual 260, 3) := by decide +kernel
theorem dX10_atMost_18 : decode cX10_atMost 18 = .ok (.if_icmp .ge 35, 3) := by decide +kernel
theorem dX10_atMost_21 : decode cX10_atMost 21 = .ok (.lload 4, 2) := by decide +kernel
theorem dX10_atMost_23 : decode cX10_atMost 23 = .ok (.aload_n 0, 1) := by decide +kernel
theorem dX10_atMost_24 : decode cX10_atMost 24 = .ok (.iload_n 2, 1) := by decide +kernel
theorem dX10_atMost_25 : decode cX10_atMost 25 = .ok (.iload 6, 2) := by decide +kernel
theorem dX10_atMost_27 : decode cX10_atMost 27 = .ok (.invokevirtual 267, 3) := by decide +kernel
theorem dX10_atMost_30 : decode cX10_atMost 30 = .ok (.iload_n 3, 1) := by decide +kernel
theorem dX10_atMost_31 : decode cX10_atMost 31 = .ok (.if_icmp .gt 12, 3) := by decide +kernel
theorem dX10_atMost_34 : decode cX10_atMost 34 = .ok (.aload_n 0, 1) := by decide +kernel
theorem dX10_atMost_35 : decode cX10_atMost 35 = .ok (.iload 6, 2) := by decide +kernel
theorem dX10_atMost_37 : decode cX10_atMost 37 = .ok (.invokevirtual 263, 3) := by decide +kernel
theorem dX10_atMost_40 : decode cX10_atMost 40 = .ok (.goto 4, 3) := by decide +kernel
theorem dX10_atMost_43 : decode cX10_atMost 43 = .ok (.lconst 0, 1) := by decide +kernel
theorem dX10_atMost_44 : decode cX10_atMost 44 = .ok (.ladd, 1) := by decide +kernel
theorem dX10_atMost_45 : decode cX10_atMost 45 = .ok (.lstore 4, 2) := by decide +kernel
theorem dX10_atMost_47 : decode cX10_atMost 47 = .ok (.iinc 6 1, 3) := by decide +kernel
theorem dX10_atMost_50 : decode cX10_atMost 50 = .ok (.goto (-38), 3) := by decide +kernel
theorem dX10_atMost_53 : decode cX10_atMost 53 = .ok (.lload 4, 2) := by decide +kernel
theorem dX10_atMost_55 : decode cX10_atMost 55 = .ok (.lreturn, 1) := by decide +kernel
theorem dX10_odds_0 : decode cX10_odds 0 = .ok (.aload_n 0, 1) := by decide +kernel
theorem dX10_odds_1 : decode cX10_odds 1 = .ok (.iload_n 1, 1) := by decide +kernel
theorem dX10_odds_2 : decode cX10_odds 2 = .ok (.invokevirtual 223, 3) := by decide +kernel
theorem dX10_odds_5 : decode cX10_odds 5 = .ok (.ifCond .eq 22, 3) := by decide +kernel
theorem dX10_odds_8 : decode cX10_odds 8 = .ok (.aload_n 0, 1) := by decide +kernel
theorem dX10_odds_9 : decode cX10_odds 9 = .ok (.iload_n 2, 1) := by decide +kernel
theorem dX10_odds_10 : decode cX10_odds 10 = .ok (.invokevirtual 281, 3) := by decide +kernel
theorem dX10_odds_13 : decode cX10_odds 13 = .ok (.ifCond .eq 14, 3) := by decide +kernel
theorem dX10_odds_16 : decode cX10_odds 16 = .ok (.iload_n 3, 1) := by decide +kernel
theorem dX10_odds_17 : decode cX10_odds 17 = .ok (.ifCond .lt 10, 3) := by decide +kernel
theorem dX10_odds_20 : decode cX10_odds 20 = .ok (.iload_n 3, 1) := by decide +kernel
theorem dX10_odds_21 : decode cX10_odds 21 = .ok (.sipush 9999, 3) := by decide +kernel
theorem dX10_odds_24 : decode cX10_odds 24 = .ok (.if_icmp .le 9, 3) := by decide +kernel
theorem dX10_odds_27 : decode cX10_odds 27 = .ok (.aload_n 0, 1) := by decide +kernel
theorem dX10_odds_28 : decode cX10_odds 28 = .ok (.iconst 1, 1) := by decide +kernel
theorem dX10_odds_29 : decode cX10_odds 29 = .ok (.invokevirtual 88, 3) := by decide +kernel
theorem dX10_odds_32 : decode cX10_odds 32 = .ok (.ireturn, 1) := by decide +kernel
theorem dX10_odds_33 : decode cX10_odds 33 = .ok (.aload_n 0, 1) := by decide +kernel
theorem dX10_odds_34 : decode cX10_odds 34 = .ok (.aload_n 0, 1) := by decide +kernel
theorem dX10_odds_35 : decode cX10_odds 35 = .ok (.iload_n 1, 1) := by decide +kernel
theorem dX10_odds_36 : decode cX10_odds 36 = .ok (.iload_n 2, 1) := by decide +kernel
theorem dX10_odds_37 : decode cX10_odds 37 = .ok (.iload_n 3, 1) := by decide +kernel
theorem dX10_odds_38 : decode cX10_odds 38 = .ok (.invokevirtual 284, 3) := by decide +kernel
theorem dX10_odds_41 : decode cX10_odds 41 = .ok (.aload_n 0, 1) := by decide +kernel
theorem dX10_odds_42 : decode cX10_odds 42 = .ok (.invokevirtual 288, 3) := by decide +kernel
theorem dX10_odds_45 : decode cX10_odds 45 = .ok (.invokevirtual 291, 3) := by decide +kernel
theorem dX10_odds_48 : decode cX10_odds 48 = .ok (.ireturn, 1) := by decide +kernel
theorem dX10_hungry_0 : decode cX10_hungry 0 = .ok (.aload_n 0, 1) := by decide +kernel
theorem dX10_hungry_1 : decode cX10_hungry 1 = .ok (.iload_n 1, 1) := by decide +kernel
theorem dX10_hungry_2 : decode cX10_hungry 2 = .ok (.invokevirtual 223, 3) := by decide +kernel
theorem dX10_hungry_5 : decode cX10_hungry 5 = .ok (.ifCond .eq 11, 3) := by decide +kernel
theorem dX10_hungry_8 : decode cX10_hungry 8 = .ok (.aload_n 0, 1) := by decide +kernel
theorem dX10_hungry_9 : decode cX10_hungry 9 = .ok (.iload_n 2, 1) := by decide +kernel
theorem dX10_hungry_10 : decode cX10_hungry 10 = .ok (.invokevirtual 281, 3) := by decide +kernel
theorem dX10_hungry_13 : decode cX10_hungry 13 = .ok (.ifCond .ne 9, 3) := by decide +kernel
theorem dX10_hungry_16 : decode cX10_hungry 16 = .ok (.aload_n 0, 1) := by decide +kernel
theorem dX10_hungry_17 : decode cX10_hungry 17 = .ok (.iconst 1, 1) := by decide +kernel
theorem dX10_hungry_18 : decode cX10_hungry 18 = .ok (.invokevirtual 88, 3) := by decide +kernel
theorem dX10_hungry_21 : decode cX10_hungry 21 = .ok (.ireturn, 1) := by decide +kernel
theorem dX10_hungry_22 : decode cX10_hungry 22 = .ok (.aload_n 0, 1) := by decide +kernel
theorem dX10_hungry_23 : decode cX10_hungry 23 = .ok (.aload_n 0, 1) := by decide +kernel
theorem dX10_hungry_24 : decode cX10_hungry 24 = .ok (.iload_n 1, 1) := by decide +kernel
theorem dX10_hungry_25 : decode cX10_hungry 25 = .ok (.iload_n 2, 1) := by decide +kernel
theorem dX10_hungry_26 : decode cX10_hungry 26 = .ok (.aload_n 0, 1) := by decide +kernel
theorem dX10_hungry_27 : decode cX10_hungry 27 = .ok (.iload_n 1, 1) := by decide +kernel
theorem dX10_hungry_28 : decode cX10_hungry 28 = .ok (.iconst 2, 1) := by decide +kernel
theorem dX10_hungry_29 : decode cX10_hungry 29 = .ok (.invokevirtual 226, 3) := by decide +kernel
theorem dX10_hungry_32 : decode cX10_hungry 32 = .ok (.iconst 1, 1) := by decide +kernel
theorem dX10_hungry_33 : decode cX10_hungry 33 = .ok (.isub, 1) := by decide +kernel
theorem dX10_hungry_34 : decode cX10_hungry 34 = .ok (.invokevirtual 284, 3) := by decide +kernel
theorem dX10_hungry_37 : decode cX10_hungry 37 = .ok (.aload_n 0, 1) := by decide +kernel
theorem dX10_hungry_38 : decode cX10_hungry 38 = .ok (.invokevirtual 288, 3) := by decide +kernel
theorem dX10_hungry_41 : decode cX10_hungry 41 = .ok (.invokevirtual 291, 3) := by decide +kernel
theorem dX10_hungry_44 : decode cX10_hungry 44 = .ok (.ireturn, 1) := by decide +kernel
theorem dX10_worth_0 : decode cX10_worth 0 = .ok (.aload_n 0, 1) := by decide +kernel
theorem dX10_worth_1 : decode cX10_worth 1 = .ok (.iload_n 1, 1) := by decide +kernel
theorem dX10_worth_2 : decode cX10_worth 2 = .ok (.invokevirtual 223, 3) := by decide +kernel
theorem dX10_worth_5 : decode cX10_worth 5 = .ok (.ifCond .eq 11, 3) := by decide +kernel
theorem dX10_worth_8 : decode cX10_worth 8 = .ok (.aload_n 0, 1) := by decide +kernel
theorem dX10_worth_9 : decode cX10_worth 9 = .ok (.iload_n 2, 1) := by decide +kernel
theorem dX10_worth_10 : decode cX10_worth 10 = .ok (.invokevirtual 281, 3) := by decide +kernel
theorem dX10_worth_13 : decode cX10_worth 13 = .ok (.ifCond .ne 9, 3) := by decide +kernel
theorem dX10_worth_16 : decode cX10_worth 16 = .ok (.aload_n 0, 1) := by decide +kernel
theorem dX10_worth_17 : decode cX10_worth 17 = .ok (.iconst 1, 1) := by decide +kernel
theorem dX10_worth_18 : decode cX10_worth 18 = .ok (.invokevirtual 88, 3) := by decide +kernel
theorem dX10_worth_21 : decode cX10_worth 21 = .ok (.ireturn, 1) := by decide +kernel
theorem dX10_worth_22 : decode cX10_worth 22 = .ok (.aload_n 0, 1) := by decide +kernel
theorem dX10_worth_23 : decode cX10_worth 23 = .ok (.aload_n 0, 1) := by decide +kernel
theorem dX10_worth_24 : decode cX10_worth 24 = .ok (.iload_n 1, 1) := by decide +kernel
theorem dX10_worth_25 : decode cX10_worth 25 = .ok (.iload_n 2, 1) := by decide +kernel
theorem dX10_worth_26 : decode cX10_worth 26 = .ok (.invokevirtual 295, 3) := by decide +kernel
theorem dX10_worth_29 : decode cX10_worth 29 = .ok (.aload_n 0, 1) := by decide +kernel
theorem dX10_worth_30 : decode cX10_worth 30 = .ok (.invokevirtual 288, 3) := by decide +kernel
theorem dX10_worth_33 : decode cX10_worth 33 = .ok (.invokevirtual 291, 3) := by decide +kernel
theorem dX10_worth_36 : decode cX10_worth 36 = .ok (.ireturn, 1) := by decide +kernel
theorem dX10_mayHave_0 : decode cX10_mayHave 0 = .ok (.iconst 0, 1) := by decide +kernel
theorem dX10_mayHave_1 : decode cX10_mayHave 1 = .ok (.istore_n 2, 1) := by decide +kernel
theorem dX10_mayHave_2 : decode cX10_mayHave 2 = .ok (.iconst 0, 1) := by decide +kernel
theorem dX10_mayHave_3 : decode cX10_mayHave 3 = .ok (.istore_n 3, 1) := by decide +kernel
theorem dX10_mayHave_4 : decode cX10_mayHave 4 = .ok (.iload_n 3, 1) := by decide +kernel
theorem dX10_mayHave_5 : decode cX10_mayHave 5 = .ok (.aload_n 0, 1) := by decide +kernel
theorem dX10_mayHave_6 : decode cX10_mayHave 6 = .ok (.getfield 7, 3) := by decide +kernel
theorem dX10_mayHave_9 : decode cX10_mayHave 9 = .ok (.iconst 0, 1) := by decide +kernel
theorem dX10_mayHave_10 : decode cX10_mayHave 10 = .ok (.iaload, 1) := by decide +kernel
theorem dX10_mayHave_11 : decode cX10_mayHave 11 = .ok (.if_icmp .ge 39, 3) := by decide +kernel
theorem dX10_mayHave_14 : decode cX10_mayHave 14 = .ok (.iload_n 2, 1) := by decide +kernel
theorem dX10_mayHave_15 : decode cX10_mayHave 15 = .ok (.aload_n 0, 1) := by decide +kernel
theorem dX10_mayHave_16 : decode cX10_mayHave 16 = .ok (.iload_n 3, 1) := by decide +kernel
theorem dX10_mayHave_17 : decode cX10_mayHave 17 = .ok (.iconst 4, 1) := by decide +kernel
theorem dX10_mayHave_18 : decode cX10_mayHave 18 = .ok (.invokevirtual 210, 3) := by decide +kernel
theorem dX10_mayHave_21 : decode cX10_mayHave 21 = .ok (.iconst (-1), 1) := by decide +kernel
theorem dX10_mayHave_22 : decode cX10_mayHave 22 = .ok (.if_icmp .eq 13, 3) := by decide +kernel
theorem dX10_mayHave_25 : decode cX10_mayHave 25 = .ok (.aload_n 0, 1) := by decide +kernel
theorem dX10_mayHave_26 : decode cX10_mayHave 26 = .ok (.iload_n 3, 1) := by decide +kernel
theorem dX10_mayHave_27 : decode cX10_mayHave 27 = .ok (.iconst 4, 1) := by decide +kernel
theorem dX10_mayHave_28 : decode cX10_mayHave 28 = .ok (.invokevirtual 210, 3) := by decide +kernel
theorem dX10_mayHave_31 : decode cX10_mayHave 31 = .ok (.iload_n 1, 1) := by decide +kernel
theorem dX10_mayHave_32 : decode cX10_mayHave 32 = .ok (.if_icmp .ne 9, 3) := by decide +kernel
theorem dX10_mayHave_35 : decode cX10_mayHave 35 = .ok (.iconst 1, 1) := by decide +kernel
theorem dX10_mayHave_36 : decode cX10_mayHave 36 = .ok (.iload_n 3, 1) := by decide +kernel
theorem dX10_mayHave_37 : decode cX10_mayHave 37 = .ok (.ishl, 1) := by decide +kernel
theorem dX10_mayHave_38 : decode cX10_mayHave 38 = .ok (.goto 4, 3) := by decide +kernel
theorem dX10_mayHave_41 : decode cX10_mayHave 41 = .ok (.iconst 0, 1) := by decide +kernel
theorem dX10_mayHave_42 : decode cX10_mayHave 42 = .ok (.ior, 1) := by decide +kernel
theorem dX10_mayHave_43 : decode cX10_mayHave 43 = .ok (.istore_n 2, 1) := by decide +kernel
theorem dX10_mayHave_44 : decode cX10_mayHave 44 = .ok (.iinc 3 1, 3) := by decide +kernel
theorem dX10_mayHave_47 : decode cX10_mayHave 47 = .ok (.goto (-43), 3) := by decide +kernel
theorem dX10_mayHave_50 : decode cX10_mayHave 50 = .ok (.iload_n 2, 1) := by decide +kernel
theorem dX10_mayHave_51 : decode cX10_mayHave 51 = .ok (.ireturn, 1) := by decide +kernel
theorem dX10_bestOf_0 : decode cX10_bestOf 0 = .ok (.aload_n 0, 1) := by decide +kernel
theorem dX10_bestOf_1 : decode cX10_bestOf 1 = .ok (.iload_n 1, 1) := by decide +kernel
theorem dX10_bestOf_2 : decode cX10_bestOf 2 = .ok (.invokevirtual 299, 3) := by decide +kernel
theorem dX10_bestOf_5 : decode cX10_bestOf 5 = .ok (.istore_n 3, 1) := by decide +kernel
theorem dX10_bestOf_6 : decode cX10_bestOf 6 = .ok (.iconst (-1), 1) := by decide +kernel
theorem dX10_bestOf_7 : decode cX10_bestOf 7 = .ok (.istore 4, 2) := by decide +kernel
theorem dX10_bestOf_9 : decode cX10_bestOf 9 = .ok (.iconst 1, 1) := by decide +kernel
theorem dX10_bestOf_10 : decode cX10_bestOf 10 = .ok (.istore 5, 2) := by decide +kernel
theorem dX10_bestOf_12 : decode cX10_bestOf 12 = .ok (.iload 5, 2) := by decide +kernel
theorem dX10_bestOf_14 : decode cX10_bestOf 14 = .ok (.iconst 1, 1) := by decide +kernel
theorem dX10_bestOf_15 : decode cX10_bestOf 15 = .ok (.aload_n 0, 1) := by decide +kernel
theorem dX10_bestOf_16 : decode cX10_bestOf 16 = .ok (.getfield 7, 3) := by decide +kernel
theorem dX10_bestOf_19 : decode cX10_bestOf 19 = .ok (.iconst 0, 1) := by decide +kernel
theorem dX10_bestOf_20 : decode cX10_bestOf 20 = .ok (.iaload, 1) := by decide +kernel
theorem dX10_bestOf_21 : decode cX10_bestOf 21 = .ok (.ishl, 1) := by decide +kernel
theorem dX10_bestOf_22 : decode cX10_bestOf 22 = .ok (.if_icmp .ge 68, 3) := by decide +kernel
theorem dX10_bestOf_25 : decode cX10_bestOf 25 = .ok (.iload 5, 2) := by decide +kernel
theorem dX10_bestOf_27 : decode cX10_bestOf 27 = .ok (.iload_n 3, 1) := by decide +kernel
theorem dX10_bestOf_28 : decode cX10_bestOf 28 = .ok (.iconst (-1), 1) := by decide +kernel
theorem dX10_bestOf_29 : decode cX10_bestOf 29 = .ok (.ixor, 1) := by decide +kernel
theorem dX10_bestOf_30 : decode cX10_bestOf 30 = .ok (.iand, 1) := by decide +kernel
theorem dX10_bestOf_31 : decode cX10_bestOf 31 = .ok (.ifCond .ne 53, 3) := by decide +kernel
theorem dX10_bestOf_34 : decode cX10_bestOf 34 = .ok (.iload 5, 2) := by decide +kernel
theorem dX10_bestOf_36 : decode cX10_bestOf 36 = .ok (.invokestatic 302, 3) := by decide +kernel
theorem dX10_bestOf_39 : decode cX10_bestOf 39 = .ok (.iload_n 2, 1) := by decide +kernel
theorem dX10_bestOf_40 : decode cX10_bestOf 40 = .ok (.if_icmp .eq 6, 3) := by decide +kernel
theorem dX10_bestOf_43 : decode cX10_bestOf 43 = .ok (.goto 41, 3) := by decide +kernel
theorem dX10_bestOf_46 : decode cX10_bestOf 46 = .ok (.aload_n 0, 1) := by decide +kernel
theorem dX10_bestOf_47 : decode cX10_bestOf 47 = .ok (.iload_n 1, 1) := by decide +kernel
theorem dX10_bestOf_48 : decode cX10_bestOf 48 = .ok (.iload 5, 2) := by decide +kernel
theorem dX10_bestOf_50 : decode cX10_bestOf 50 = .ok (.invokevirtual 295, 3) := by decide +kernel
theorem dX10_bestOf_53 : decode cX10_bestOf 53 = .ok (.lstore 6, 2) := by decide +kernel
theorem dX10_bestOf_55 : decode cX10_bestOf 55 = .ok (.iload 4, 2) := by decide +kernel
theorem dX10_bestOf_57 : decode cX10_bestOf 57 = .ok (.iconst (-1), 1) := by decide +kernel
theorem dX10_bestOf_58 : decode cX10_bestOf 58 = .ok (.if_icmp .eq 16, 3) := by decide +kernel
theorem dX10_bestOf_61 : decode cX10_bestOf 61 = .ok (.lload 6, 2) := by decide +kernel
theorem dX10_bestOf_63 : decode cX10_bestOf 63 = .ok (.aload_n 0, 1) := by decide +kernel
theorem dX10_bestOf_64 : decode cX10_bestOf 64 = .ok (.getfield 305, 3) := by decide +kernel
theorem dX10_bestOf_67 : decode cX10_bestOf 67 = .ok (.lcmp, 1) := by decide +kernel
theorem dX10_bestOf_68 : decode cX10_bestOf 68 = .ok (.ifCond .gt 6, 3) := by decide +kernel
theorem dX10_bestOf_71 : decode cX10_bestOf 71 = .ok (.goto 13, 3) := by decide +kernel
theorem dX10_bestOf_74 : decode cX10_bestOf 74 = .ok (.iload 5, 2) := by decide +kernel
theorem dX10_bestOf_76 : decode cX10_bestOf 76 = .ok (.istore 4, 2) := by decide +kernel
theorem dX10_bestOf_78 : decode cX10_bestOf 78 = .ok (.aload_n 0, 1) := by decide +kernel
theorem dX10_bestOf_79 : decode cX10_bestOf 79 = .ok (.lload 6, 2) := by decide +kernel
theorem dX10_bestOf_81 : decode cX10_bestOf 81 = .ok (.putfield 305, 3) := by decide +kernel
theorem dX10_bestOf_84 : decode cX10_bestOf 84 = .ok (.iinc 5 1, 3) := by decide +kernel
theorem dX10_bestOf_87 : decode cX10_bestOf 87 = .ok (.goto (-75), 3) := by decide +kernel
theorem dX10_bestOf_90 : decode cX10_bestOf 90 = .ok (.iload 4, 2) := by decide +kernel
theorem dX10_bestOf_92 : decode cX10_bestOf 92 = .ok (.ireturn, 1) := by decide +kernel
theorem dX10_best_0 : decode cX10_best 0 = .ok (.aload_n 0, 1) := by decide +kernel
theorem dX10_best_1 : decode cX10_best 1 = .ok (.iload_n 1, 1) := by decide +kernel
theorem dX10_best_2 : decode cX10_best 2 = .ok (.invokevirtual 223, 3) := by decide +kernel
theorem dX10_best_5 : decode cX10_best 5 = .ok (.ifCond .eq 14, 3) := by decide +kernel
theorem dX10_best_8 : decode cX10_best 8 = .ok (.iload_n 2, 1) := by decide +kernel
theorem dX10_best_9 : decode cX10_best 9 = .ok (.iconst 1, 1) := by decide +kernel
theorem dX10_best_10 : decode cX10_best 10 = .ok (.if_icmp .lt 9, 3) := by decide +kernel
theorem dX10_best_13 : decode cX10_best 13 = .ok (.iload_n 2, 1) := by decide +kernel
theorem dX10_best_14 : decode cX10_best 14 = .ok (.bipush 6, 2) := by decide +kernel
theorem dX10_best_16 : decode cX10_best 16 = .ok (.if_icmp .le 9, 3) := by decide +kernel
theorem dX10_best_19 : decode cX10_best 19 = .ok (.aload_n 0, 1) := by decide +kernel
theorem dX10_best_20 : decode cX10_best 20 = .ok (.iconst 1, 1) := by decide +kernel
theorem dX10_best_21 : decode cX10_best 21 = .ok (.invokevirtual 194, 3) := by decide +kernel
theorem dX10_best_24 : decode cX10_best 24 = .ok (.ireturn, 1) := by decide +kernel
theorem dX10_best_25 : decode cX10_best 25 = .ok (.aload_n 0, 1) := by decide +kernel
theorem dX10_best_26 : decode cX10_best 26 = .ok (.iload_n 1, 1) := by decide +kernel
theorem dX10_best_27 : decode cX10_best 27 = .ok (.iload_n 2, 1) := by decide +kernel
theorem dX10_best_28 : decode cX10_best 28 = .ok (.invokevirtual 308, 3) := by decide +kernel
theorem dX10_best_31 : decode cX10_best 31 = .ok (.istore_n 3, 1) := by decide +kernel
theorem dX10_best_32 : decode cX10_best 32 = .ok (.iload_n 3, 1) := by decide +kernel
theorem dX10_best_33 : decode cX10_best 33 = .ok (.iconst (-1), 1) := by decide +kernel
theorem dX10_best_34 : decode cX10_best 34 = .ok (.if_icmp .ne 10, 3) := by decide +kernel
theorem dX10_best_37 : decode cX10_best 37 = .ok (.aload_n 0, 1) := by decide +kernel
theorem dX10_best_38 : decode cX10_best 38 = .ok (.bipush 6, 2) := by decide +kernel
theorem dX10_best_40 : decode cX10_best 40 = .ok (.invokevirtual 194, 3) := by decide +kernel
theorem dX10_best_43 : decode cX10_best 43 = .ok (.ireturn, 1) := by decide +kernel
theorem dX10_best_44 : decode cX10_best 44 = .ok (.aload_n 0, 1) := by decide +kernel
theorem dX10_best_45 : decode cX10_best 45 = .ok (.aload_n 0, 1) := by decide +kernel
theorem dX10_best_46 : decode cX10_best 46 = .ok (.getfield 305, 3) := by decide +kernel
theorem dX10_best_49 : decode cX10_best 49 = .ok (.aload_n 0, 1) := by decide +kernel
theorem dX10_best_50 : decode cX10_best 50 = .ok (.invokevirtual 288, 3) := by decide +kernel
theorem dX10_best_53 : decode cX10_best 53 = .ok (.invokevirtual 291, 3) := by decide +kernel
theorem dX10_best_56 : decode cX10_best 56 = .ok (.pop, 1) := by decide +kernel
theorem dX10_best_57 : decode cX10_best 57 = .ok (.aload_n 0, 1) := by decide +kernel
theorem dX10_best_58 : decode cX10_best 58 = .ok (.iload_n 3, 1) := by decide +kernel
theorem dX10_best_59 : decode cX10_best 59 = .ok (.invokevirtual 204, 3) := by decide +kernel
theorem dX10_best_62 : decode cX10_best 62 = .ok (.ireturn, 1) := by decide +kernel
theorem dX10_climb_0 : decode cX10_climb 0 = .ok (.aload_n 0, 1) := by decide +kernel
theorem dX10_climb_1 : decode cX10_climb 1 = .ok (.iload_n 1, 1) := by decide +kernel
theorem dX10_climb_2 : decode cX10_climb 2 = .ok (.invokevirtual 223, 3) := by decide +kernel
theorem dX10_climb_5 : decode cX10_climb 5 = .ok (.ifCond .ne 9, 3) := by decide +kernel
theorem dX10_climb_8 : decode cX10_climb 8 = .ok (.aload_n 0, 1) := by decide +kernel
theorem dX10_climb_9 : decode cX10_climb 9 = .ok (.iconst 1, 1) := by decide +kernel
theorem dX10_climb_10 : decode cX10_climb 10 = .ok (.invokevirtual 194, 3) := by decide +kernel
theorem dX10_climb_13 : decode cX10_climb 13 = .ok (.ireturn, 1) := by decide +kernel
theorem dX10_climb_14 : decode cX10_climb 14 = .ok (.aload_n 0, 1) := by decide +kernel
theorem dX10_climb_15 : decode cX10_climb 15 = .ok (.iload_n 1, 1) := by decide +kernel
theorem dX10_climb_16 : decode cX10_climb 16 = .ok (.invokevirtual 299, 3) := by decide +kernel
theorem dX10_climb_19 : decode cX10_climb 19 = .ok (.istore_n 2, 1) := by decide +kernel
theorem dX10_climb_20 : decode cX10_climb 20 = .ok (.aload_n 0, 1) := by decide +kernel
theorem dX10_climb_21 : decode cX10_climb 21 = .ok (.iload_n 1, 1) := by decide +kernel
theorem dX10_climb_22 : decode cX10_climb 22 = .ok (.invokevirtual 229, 3) := by decide +kernel
theorem dX10_climb_25 : decode cX10_climb 25 = .ok (.istore_n 3, 1) := by decide +kernel
theorem dX10_climb_26 : decode cX10_climb 26 = .ok (.aload_n 0, 1) := by decide +kernel
theorem dX10_climb_27 : decode cX10_climb 27 = .ok (.iload_n 1, 1) := by decide +kernel
theorem dX10_climb_28 : decode cX10_climb 28 = .ok (.iload_n 3, 1) := by decide +kernel
theorem dX10_climb_29 : decode cX10_climb 29 = .ok (.invokevirtual 295, 3) := by decide +kernel
theorem dX10_climb_32 : decode cX10_climb 32 = .ok (.lstore 4, 2) := by decide +kernel
theorem dX10_climb_34 : decode cX10_climb 34 = .ok (.iconst 0, 1) := by decide +kernel
theorem dX10_climb_35 : decode cX10_climb 35 = .ok (.istore 6, 2) := by decide +kernel
theorem dX10_climb_37 : decode cX10_climb 37 = .ok (.iconst 1, 1) := by decide +kernel
theorem dX10_climb_38 : decode cX10_climb 38 = .ok (.istore 7, 2) := by decide +kernel
theorem dX10_climb_40 : decode cX10_climb 40 = .ok (.iload 7, 2) := by decide +kernel
theorem dX10_climb_42 : decode cX10_climb 42 = .ok (.ifCond .eq 137, 3) := by decide +kernel
theorem dX10_climb_45 : decode cX10_climb 45 = .ok (.iconst (-1), 1) := by decide +kernel
theorem dX10_climb_46 : decode cX10_climb 46 = .ok (.istore 8, 2) := by decide +kernel
theorem dX10_climb_48 : decode cX10_climb 48 = .ok (.iconst 0, 1) := by decide +kernel
theorem dX10_climb_49 : decode cX10_climb 49 = .ok (.istore 9, 2) := by decide +kernel
theorem dX10_climb_51 : decode cX10_climb 51 = .ok (.iload 9, 2) := by decide +kernel
theorem dX10_climb_53 : decode cX10_climb 53 = .ok (.iconst 1, 1) := by decide +kernel
theorem dX10_climb_54 : decode cX10_climb 54 = .ok (.aload_n 0, 1) := by decide +kernel
theorem dX10_climb_55 : decode cX10_climb 55 = .ok (.getfield 7, 3) := by decide +kernel
theorem dX10_climb_58 : decode cX10_climb 58 = .ok (.iconst 0, 1) := by decide +kernel
theorem dX10_climb_59 : decode cX10_climb 59 = .ok (.iaload, 1) := by decide +kernel
theorem dX10_climb_60 : decode cX10_climb 60 = .ok (.ishl, 1) := by decide +kernel
theorem dX10_climb_61 : decode cX10_climb 61 = .ok (.if_icmp .ge 75, 3) := by decide +kernel
theorem dX10_climb_64 : decode cX10_climb 64 = .ok (.iload 9, 2) := by decide +kernel
theorem dX10_climb_66 : decode cX10_climb 66 = .ok (.iload_n 2, 1) := by decide +kernel
theorem dX10_climb_67 : decode cX10_climb 67 = .ok (.iconst (-1), 1) := by decide +kernel
theorem dX10_climb_68 : decode cX10_climb 68 = .ok (.ixor, 1) := by decide +kernel
theorem dX10_climb_69 : decode cX10_climb 69 = .ok (.iand, 1) := by decide +kernel
theorem dX10_climb_70 : decode cX10_climb 70 = .ok (.ifCond .ne 60, 3) := by decide +kernel
theorem dX10_climb_73 : decode cX10_climb 73 = .ok (.iload 9, 2) := by decide +kernel
theorem dX10_climb_75 : decode cX10_climb 75 = .ok (.iload_n 3, 1) := by decide +kernel
theorem dX10_climb_76 : decode cX10_climb 76 = .ok (.iconst (-1), 1) := by decide +kernel
theorem dX10_climb_77 : decode cX10_climb 77 = .ok (.ixor, 1) := by decide +kernel
theorem dX10_climb_78 : decode cX10_climb 78 = .ok (.iand, 1) := by decide +kernel
theorem dX10_climb_79 : decode cX10_climb 79 = .ok (.invokestatic 302, 3) := by decide +kernel
theorem dX10_climb_82 : decode cX10_climb 82 = .ok (.iconst 1, 1) := by decide +kernel
theorem dX10_climb_83 : decode cX10_climb 83 = .ok (.if_icmp .ne 47, 3) := by decide +kernel
theorem dX10_climb_86 : decode cX10_climb 86 = .ok (.iload_n 3, 1) := by decide +kernel
theorem dX10_climb_87 : decode cX10_climb 87 = .ok (.iload 9, 2) := by decide +kernel
theorem dX10_climb_89 : decode cX10_climb 89 = .ok (.iconst (-1), 1) := by decide +kernel
theorem dX10_climb_90 : decode cX10_climb 90 = .ok (.ixor, 1) := by decide +kernel
theorem dX10_climb_91 : decode cX10_climb 91 = .ok (.iand, 1) := by decide +kernel
theorem dX10_climb_92 : decode cX10_climb 92 = .ok (.invokestatic 302, 3) := by decide +kernel
theorem dX10_climb_95 : decode cX10_climb 95 = .ok (.iconst 1, 1) := by decide +kernel
theorem dX10_climb_96 : decode cX10_climb 96 = .ok (.if_icmp .eq 6, 3) := by decide +kernel
theorem dX10_climb_99 : decode cX10_climb 99 = .ok (.goto 31, 3) := by decide +kernel
theorem dX10_climb_102 : decode cX10_climb 102 = .ok (.aload_n 0, 1) := by decide +kernel
theorem dX10_climb_103 : decode cX10_climb 103 = .ok (.iload_n 1, 1) := by decide +kernel
theorem dX10_climb_104 : decode cX10_climb 104 = .ok (.iload 9, 2) := by decide +kernel
theorem dX10_climb_106 : decode cX10_climb 106 = .ok (.invokevirtual 295, 3) := by decide +kernel
theorem dX10_climb_109 : decode cX10_climb 109 = .ok (.lstore 10, 2) := by decide +kernel
theorem dX10_climb_111 : decode cX10_climb 111 = .ok (.lload 10, 2) := by decide +kernel
theorem dX10_climb_113 : decode cX10_climb 113 = .ok (.lload 4, 2) := by decide +kernel
theorem dX10_climb_115 : decode cX10_climb 115 = .ok (.lcmp, 1) := by decide +kernel
theorem dX10_climb_116 : decode cX10_climb 116 = .ok (.ifCond .gt 6, 3) := by decide +kernel
theorem dX10_climb_119 : decode cX10_climb 119 = .ok (.goto 11, 3) := by decide +kernel
theorem dX10_climb_122 : decode cX10_climb 122 = .ok (.lload 10, 2) := by decide +kernel
theorem dX10_climb_124 : decode cX10_climb 124 = .ok (.lstore 4, 2) := by decide +kernel
theorem dX10_climb_126 : decode cX10_climb 126 = .ok (.iload 9, 2) := by decide +kernel
theorem dX10_climb_128 : decode cX10_climb 128 = .ok (.istore 8, 2) := by decide +kernel
theorem dX10_climb_130 : decode cX10_climb 130 = .ok (.iinc 9 1, 3) := by decide +kernel
theorem dX10_climb_133 : decode cX10_climb 133 = .ok (.goto (-82), 3) := by decide +kernel
theorem dX10_climb_136 : decode cX10_climb 136 = .ok (.iload 8, 2) := by decide +kernel
theorem dX10_climb_138 : decode cX10_climb 138 = .ok (.iconst (-1), 1) := by decide +kernel
theorem dX10_climb_139 : decode cX10_climb 139 = .ok (.if_icmp .eq 7, 3) := by decide +kernel
theorem dX10_climb_142 : decode cX10_climb 142 = .ok (.iconst 1, 1) := by decide +kernel
theorem dX10_climb_143 : decode cX10_climb 143 = .ok (.goto 4, 3) := by decide +kernel
theorem dX10_climb_146 : decode cX10_climb 146 = .ok (.iconst 0, 1) := by decide +kernel
theorem dX10_climb_147 : decode cX10_climb 147 = .ok (.istore 7, 2) := by decide +kernel
theorem dX10_climb_149 : decode cX10_climb 149 = .ok (.iload 7, 2) := by decide +kernel
theorem dX10_climb_151 : decode cX10_climb 151 = .ok (.ifCond .eq 8, 3) := by decide +kernel
theorem dX10_climb_154 : decode cX10_climb 154 = .ok (.iload 8, 2) := by decide +kernel
theorem dX10_climb_156 : decode cX10_climb 156 = .ok (.goto 4, 3) := by decide +kernel
theorem dX10_climb_159 : decode cX10_climb 159 = .ok (.iload_n 3, 1) := by decide +kernel
theorem dX10_climb_160 : decode cX10_climb 160 = .ok (.istore_n 3, 1) := by decide +kernel
theorem dX10_climb_161 : decode cX10_climb 161 = .ok (.iload 6, 2) := by decide +kernel
theorem dX10_climb_163 : decode cX10_climb 163 = .ok (.iload 7, 2) := by decide +kernel
theorem dX10_climb_165 : decode cX10_climb 165 = .ok (.ifCond .eq 7, 3) := by decide +kernel
theorem dX10_climb_168 : decode cX10_climb 168 = .ok (.iconst 1, 1) := by decide +kernel
theorem dX10_climb_169 : decode cX10_climb 169 = .ok (.goto 4, 3) := by decide +kernel
theorem dX10_climb_172 : decode cX10_climb 172 = .ok (.iconst 0, 1) := by decide +kernel
theorem dX10_climb_173 : decode cX10_climb 173 = .ok (.iadd, 1) := by decide +kernel
theorem dX10_climb_174 : decode cX10_climb 174 = .ok (.istore 6, 2) := by decide +kernel
theorem dX10_climb_176 : decode cX10_climb 176 = .ok (.goto (-136), 3) := by decide +kernel
theorem dX10_climb_179 : decode cX10_climb 179 = .ok (.aload_n 0, 1) := by decide +kernel
theorem dX10_climb_180 : decode cX10_climb 180 = .ok (.iload 6, 2) := by decide +kernel
theorem dX10_climb_182 : decode cX10_climb 182 = .ok (.putfield 50, 3) := by decide +kernel
theorem dX10_climb_185 : decode cX10_climb 185 = .ok (.aload_n 0, 1) := by decide +kernel
theorem dX10_climb_186 : decode cX10_climb 186 = .ok (.lload 4, 2) := by decide +kernel
theorem dX10_climb_188 : decode cX10_climb 188 = .ok (.aload_n 0, 1) := by decide +kernel
theorem dX10_climb_189 : decode cX10_climb 189 = .ok (.invokevirtual 288, 3) := by decide +kernel
theorem dX10_climb_192 : decode cX10_climb 192 = .ok (.invokevirtual 291, 3) := by decide +kernel
theorem dX10_climb_195 : decode cX10_climb 195 = .ok (.pop, 1) := by decide +kernel
theorem dX10_climb_196 : decode cX10_climb 196 = .ok (.aload_n 0, 1) := by decide +kernel
theorem dX10_climb_197 : decode cX10_climb 197 = .ok (.iload_n 3, 1) := by decide +kernel
theorem dX10_climb_198 : decode cX10_climb 198 = .ok (.invokevirtual 204, 3) := by decide +kernel
theorem dX10_climb_201 : decode cX10_climb 201 = .ok (.ireturn, 1) := by decide +kernel
theorem dX10_climbed_0 : decode cX10_climbed 0 = .ok (.aload_n 0, 1) := by decide +kernel
theorem dX10_climbed_1 : decode cX10_climbed 1 = .ok (.getfield 50, 3) := by decide +kernel
theorem dX10_climbed_4 : decode cX10_climbed 4 = .ok (.iconst (-1), 1) := by decide +kernel
theorem dX10_climbed_5 : decode cX10_climbed 5 = .ok (.if_icmp .ne 12, 3) := by decide +kernel
theorem dX10_climbed_8 : decode cX10_climbed 8 = .ok (.aload_n 0, 1) := by decide +kernel
theorem dX10_climbed_9 : decode cX10_climbed 9 = .ok (.bipush 6, 2) := by decide +kernel
theorem dX10_climbed_11 : decode cX10_climbed 11 = .ok (.invokevirtual 194, 3) := by decide +kernel
theorem dX10_climbed_14 : decode cX10_climbed 14 = .ok (.goto 11, 3) := by decide +kernel
theorem dX10_climbed_17 : decode cX10_climbed 17 = .ok (.aload_n 0, 1) := by decide +kernel
theorem dX10_climbed_18 : decode cX10_climbed 18 = .ok (.aload_n 0, 1) := by decide +kernel
theorem dX10_climbed_19 : decode cX10_climbed 19 = .ok (.getfield 50, 3) := by decide +kernel
theorem dX10_climbed_22 : decode cX10_climbed 22 = .ok (.invokevirtual 204, 3) := by decide +kernel
theorem dX10_climbed_25 : decode cX10_climbed 25 = .ok (.ireturn, 1) := by decide +kernel
theorem dX10_edge_0 : decode cX10_edge 0 = .ok (.aload_n 0, 1) := by decide +kernel
theorem dX10_edge_1 : decode cX10_edge 1 = .ok (.iload_n 1, 1) := by decide +kernel
theorem dX10_edge_2 : decode cX10_edge 2 = .ok (.invokevirtual 223, 3) := by decide +kernel
theorem dX10_edge_5 : decode cX10_edge 5 = .ok (.ifCond .eq 14, 3) := by decide +kernel
theorem dX10_edge_8 : decode cX10_edge 8 = .ok (.iload_n 2, 1) := by decide +kernel
theorem dX10_edge_9 : decode cX10_edge 9 = .ok (.iconst 1, 1) := by decide +kernel
theorem dX10_edge_10 : decode cX10_edge 10 = .ok (.if_icmp .lt 9, 3) := by decide +kernel
theorem dX10_edge_13 : decode cX10_edge 13 = .ok (.iload_n 2, 1) := by decide +kernel
theorem dX10_edge_14 : decode cX10_edge 14 = .ok (.bipush 6, 2) := by decide +kernel
theorem dX10_edge_16 : decode cX10_edge 16 = .ok (.if_icmp .le 9, 3) := by decide +kernel
theorem dX10_edge_19 : decode cX10_edge 19 = .ok (.aload_n 0, 1) := by decide +kernel
theorem dX10_edge_20 : decode cX10_edge 20 = .ok (.iconst 1, 1) := by decide +kernel
theorem dX10_edge_21 : decode cX10_edge 21 = .ok (.invokevirtual 194, 3) := by decide +kernel
theorem dX10_edge_24 : decode cX10_edge 24 = .ok (.ireturn, 1) := by decide +kernel
theorem dX10_edge_25 : decode cX10_edge 25 = .ok (.aload_n 0, 1) := by decide +kernel
theorem dX10_edge_26 : decode cX10_edge 26 = .ok (.getfield 7, 3) := by decide +kernel
theorem dX10_edge_29 : decode cX10_edge 29 = .ok (.iconst 4, 1) := by decide +kernel
theorem dX10_edge_30 : decode cX10_edge 30 = .ok (.iaload, 1) := by decide +kernel
theorem dX10_edge_31 : decode cX10_edge 31 = .ok (.istore_n 3, 1) := by decide +kernel
theorem dX10_edge_32 : decode cX10_edge 32 = .ok (.aload_n 0, 1) := by decide +kernel
theorem dX10_edge_33 : decode cX10_edge 33 = .ok (.getfield 7, 3) := by decide +kernel
theorem dX10_edge_36 : decode cX10_edge 36 = .ok (.iconst 4, 1) := by decide +kernel
theorem dX10_edge_37 : decode cX10_edge 37 = .ok (.iconst 0, 1) := by decide +kernel
theorem dX10_edge_38 : decode cX10_edge 38 = .ok (.iastore, 1) := by decide +kernel
theorem dX10_edge_39 : decode cX10_edge 39 = .ok (.aload_n 0, 1) := by decide +kernel
theorem dX10_edge_40 : decode cX10_edge 40 = .ok (.iload_n 1, 1) := by decide +kernel
theorem dX10_edge_41 : decode cX10_edge 41 = .ok (.iload_n 2, 1) := by decide +kernel
theorem dX10_edge_42 : decode cX10_edge 42 = .ok (.invokevirtual 308, 3) := by decide +kernel
theorem dX10_edge_45 : decode cX10_edge 45 = .ok (.istore 4, 2) := by decide +kernel
theorem dX10_edge_47 : decode cX10_edge 47 = .ok (.iconst (-1), 1) := by decide +kernel
theorem dX10_edge_48 : decode cX10_edge 48 = .ok (.istore 5, 2) := by decide +kernel
theorem dX10_edge_50 : decode cX10_edge 50 = .ok (.iconst 1, 1) := by decide +kernel
theorem dX10_edge_51 : decode cX10_edge 51 = .ok (.istore 6, 2) := by decide +kernel
theorem dX10_edge_53 : decode cX10_edge 53 = .ok (.iload 6, 2) := by decide +kernel
theorem dX10_edge_55 : decode cX10_edge 55 = .ok (.bipush 100, 2) := by decide +kernel
theorem dX10_edge_57 : decode cX10_edge 57 = .ok (.if_icmp .ge 48, 3) := by decide +kernel
theorem dX10_edge_60 : decode cX10_edge 60 = .ok (.iload 4, 2) := by decide +kernel
theorem dX10_edge_62 : decode cX10_edge 62 = .ok (.iconst (-1), 1) := by decide +kernel
theorem dX10_edge_63 : decode cX10_edge 63 = .ok (.if_icmp .eq 42, 3) := by decide +kernel
theorem dX10_edge_66 : decode cX10_edge 66 = .ok (.iload 5, 2) := by decide +kernel
theorem dX10_edge_68 : decode cX10_edge 68 = .ok (.iconst (-1), 1) := by decide +kernel
theorem dX10_edge_69 : decode cX10_edge 69 = .ok (.if_icmp .ne 36, 3) := by decide +kernel
theorem dX10_edge_72 : decode cX10_edge 72 = .ok (.aload_n 0, 1) := by decide +kernel
theorem dX10_edge_73 : decode cX10_edge 73 = .ok (.getfield 7, 3) := by decide +kernel
theorem dX10_edge_76 : decode cX10_edge 76 = .ok (.iconst 4, 1) := by decide +kernel
theorem dX10_edge_77 : decode cX10_edge 77 = .ok (.iload 6, 2) := by decide +kernel
theorem dX10_edge_79 : decode cX10_edge 79 = .ok (.iastore, 1) := by decide +kernel
theorem dX10_edge_80 : decode cX10_edge 80 = .ok (.aload_n 0, 1) := by decide +kernel
theorem dX10_edge_81 : decode cX10_edge 81 = .ok (.iload_n 1, 1) := by decide +kernel
theorem dX10_edge_82 : decode cX10_edge 82 = .ok (.iload_n 2, 1) := by decide +kernel
theorem dX10_edge_83 : decode cX10_edge 83 = .ok (.invokevirtual 308, 3) := by decide +kernel
theorem dX10_edge_86 : decode cX10_edge 86 = .ok (.iload 4, 2) := by decide +kernel
theorem dX10_edge_88 : decode cX10_edge 88 = .ok (.if_icmp .eq 8, 3) := by decide +kernel
theorem dX10_edge_91 : decode cX10_edge 91 = .ok (.iload 6, 2) := by decide +kernel
theorem dX10_edge_93 : decode cX10_edge 93 = .ok (.goto 4, 3) := by decide +kernel
theorem dX10_edge_96 : decode cX10_edge 96 = .ok (.iconst (-1), 1) := by decide +kernel
theorem dX10_edge_97 : decode cX10_edge 97 = .ok (.istore 5, 2) := by decide +kernel
theorem dX10_edge_99 : decode cX10_edge 99 = .ok (.iinc 6 1, 3) := by decide +kernel
theorem dX10_edge_102 : decode cX10_edge 102 = .ok (.goto (-49), 3) := by decide +kernel
theorem dX10_edge_105 : decode cX10_edge 105 = .ok (.aload_n 0, 1) := by decide +kernel
theorem dX10_edge_106 : decode cX10_edge 106 = .ok (.getfield 7, 3) := by decide +kernel
theorem dX10_edge_109 : decode cX10_edge 109 = .ok (.iconst 4, 1) := by decide +kernel
theorem dX10_edge_110 : decode cX10_edge 110 = .ok (.iload_n 3, 1) := by decide +kernel
theorem dX10_edge_111 : decode cX10_edge 111 = .ok (.iastore, 1) := by decide +kernel
theorem dX10_edge_112 : decode cX10_edge 112 = .ok (.iload 5, 2) := by decide +kernel
theorem dX10_edge_114 : decode cX10_edge 114 = .ok (.iconst (-1), 1) := by decide +kernel
theorem dX10_edge_115 : decode cX10_edge 115 = .ok (.if_icmp .ne 12, 3) := by decide +kernel
theorem dX10_edge_118 : decode cX10_edge 118 = .ok (.aload_n 0, 1) := by decide +kernel
theorem dX10_edge_119 : decode cX10_edge 119 = .ok (.bipush 6, 2) := by decide +kernel
theorem dX10_edge_121 : decode cX10_edge 121 = .ok (.invokevirtual 194, 3) := by decide +kernel
theorem dX10_edge_124 : decode cX10_edge 124 = .ok (.goto 9, 3) := by decide +kernel
theorem dX10_edge_127 : decode cX10_edge 127 = .ok (.aload_n 0, 1) := by decide +kernel
theorem dX10_edge_128 : decode cX10_edge 128 = .ok (.iload 5, 2) := by decide +kernel
theorem dX10_edge_130 : decode cX10_edge 130 = .ok (.invokevirtual 204, 3) := by decide +kernel
theorem dX10_edge_133 : decode cX10_edge 133 = .ok (.ireturn, 1) := by decide +kernel
theorem dX10_change_0 : decode cX10_change 0 = .ok (.aload_n 0, 1) := by decide +kernel
theorem dX10_change_1 : decode cX10_change 1 = .ok (.iload_n 1, 1) := by decide +kernel
theorem dX10_change_2 : decode cX10_change 2 = .ok (.invokevirtual 223, 3) := by decide +kernel
theorem dX10_change_5 : decode cX10_change 5 = .ok (.ifCond .eq 34, 3) := by decide +kernel
theorem dX10_change_8 : decode cX10_change 8 = .ok (.iload_n 2, 1) := by decide +kernel
theorem dX10_change_9 : decode cX10_change 9 = .ok (.iconst 1, 1) := by decide +kernel
theorem dX10_change_10 : decode cX10_change 10 = .ok (.if_icmp .lt 29, 3) := by decide +kernel
theorem dX10_change_13 : decode cX10_change 13 = .ok (.iload_n 2, 1) := by decide +kernel
theorem dX10_change_14 : decode cX10_change 14 = .ok (.bipush 6, 2) := by decide +kernel
theorem dX10_change_16 : decode cX10_change 16 = .ok (.if_icmp .gt 23, 3) := by decide +kernel
theorem dX10_change_19 : decode cX10_change 19 = .ok (.aload_n 0, 1) := by decide +kernel
theorem dX10_change_20 : decode cX10_change 20 = .ok (.iload_n 3, 1) := by decide +kernel
theorem dX10_change_21 : decode cX10_change 21 = .ok (.invokevirtual 216, 3) := by decide +kernel
theorem dX10_change_24 : decode cX10_change 24 = .ok (.ifCond .eq 15, 3) := by decide +kernel
theorem dX10_change_27 : decode cX10_change 27 = .ok (.iload 4, 2) := by decide +kernel
theorem dX10_change_29 : decode cX10_change 29 = .ok (.ifCond .lt 10, 3) := by decide +kernel
theorem dX10_change_32 : decode cX10_change 32 = .ok (.iload 4, 2) := by decide +kernel
theorem dX10_change_34 : decode cX10_change 34 = .ok (.bipush 16, 2) := by decide +kernel
theorem dX10_change_36 : decode cX10_change 36 = .ok (.if_icmp .le 9, 3) := by decide +kernel
theorem dX10_change_39 : decode cX10_change 39 = .ok (.aload_n 0, 1) := by decide +kernel
theorem dX10_change_40 : decode cX10_change 40 = .ok (.iconst 1, 1) := by decide +kernel
theorem dX10_change_41 : decode cX10_change 41 = .ok (.invokevirtual 194, 3) := by decide +kernel
theorem dX10_change_44 : decode cX10_change 44 = .ok (.ireturn, 1) := by decide +kernel
theorem dX10_change_45 : decode cX10_change 45 = .ok (.aload_n 0, 1) := by decide +kernel
theorem dX10_change_46 : decode cX10_change 46 = .ok (.iload_n 1, 1) := by decide +kernel
theorem dX10_change_47 : decode cX10_change 47 = .ok (.iload_n 2, 1) := by decide +kernel
theorem dX10_change_48 : decode cX10_change 48 = .ok (.invokevirtual 308, 3) := by decide +kernel
theorem dX10_change_51 : decode cX10_change 51 = .ok (.istore 5, 2) := by decide +kernel
theorem dX10_change_53 : decode cX10_change 53 = .ok (.iload 5, 2) := by decide +kernel
theorem dX10_change_55 : decode cX10_change 55 = .ok (.iconst (-1), 1) := by decide +kernel
theorem dX10_change_56 : decode cX10_change 56 = .ok (.if_icmp .ne 10, 3) := by decide +kernel
theorem dX10_change_59 : decode cX10_change 59 = .ok (.aload_n 0, 1) := by decide +kernel
theorem dX10_change_60 : decode cX10_change 60 = .ok (.bipush 6, 2) := by decide +kernel
theorem dX10_change_62 : decode cX10_change 62 = .ok (.invokevirtual 194, 3) := by decide +kernel
theorem dX10_change_65 : decode cX10_change 65 = .ok (.ireturn, 1) := by decide +kernel
theorem dX10_change_66 : decode cX10_change 66 = .ok (.aload_n 0, 1) := by decide +kernel
theorem dX10_change_67 : decode cX10_change 67 = .ok (.iload_n 3, 1) := by decide +kernel
theorem dX10_change_68 : decode cX10_change 68 = .ok (.iconst 4, 1) := by decide +kernel
theorem dX10_change_69 : decode cX10_change 69 = .ok (.invokevirtual 207, 3) := by decide +kernel
theorem dX10_change_72 : decode cX10_change 72 = .ok (.istore 6, 2) := by decide +kernel
theorem dX10_change_74 : decode cX10_change 74 = .ok (.aload_n 0, 1) := by decide +kernel
theorem dX10_change_75 : decode cX10_change 75 = .ok (.getfield 7, 3) := by decide +kernel
theorem dX10_change_78 : decode cX10_change 78 = .ok (.bipush 58, 2) := by decide +kernel
theorem dX10_change_80 : decode cX10_change 80 = .ok (.iconst 5, 1) := by decide +kernel
theorem dX10_change_81 : decode cX10_change 81 = .ok (.iload_n 3, 1) := by decide +kernel
theorem dX10_change_82 : decode cX10_change 82 = .ok (.imul, 1) := by decide +kernel
theorem dX10_change_83 : decode cX10_change 83 = .ok (.iadd, 1) := by decide +kernel
theorem dX10_change_84 : decode cX10_change 84 = .ok (.iconst 4, 1) := by decide +kernel
theorem dX10_change_85 : decode cX10_change 85 = .ok (.iadd, 1) := by decide +kernel
theorem dX10_change_86 : decode cX10_change 86 = .ok (.iload 4, 2) := by decide +kernel
theorem dX10_change_88 : decode cX10_change 88 = .ok (.iastore, 1) := by decide +kernel
theorem dX10_change_89 : decode cX10_change 89 = .ok (.aload_n 0, 1) := by decide +kernel
theorem dX10_change_90 : decode cX10_change 90 = .ok (.iload_n 1, 1) := by decide +kernel
theorem dX10_change_91 : decode cX10_change 91 = .ok (.iload_n 2, 1) := by decide +kernel
theorem dX10_change_92 : decode cX10_change 92 = .ok (.invokevirtual 308, 3) := by decide +kernel
theorem dX10_change_95 : decode cX10_change 95 = .ok (.istore 7, 2) := by decide +kernel
theorem dX10_change_97 : decode cX10_change 97 = .ok (.aload_n 0, 1) := by decide +kernel
theorem dX10_change_98 : decode cX10_change 98 = .ok (.getfield 7, 3) := by decide +kernel
theorem dX10_change_101 : decode cX10_change 101 = .ok (.bipush 58, 2) := by decide +kernel
theorem dX10_change_103 : decode cX10_change 103 = .ok (.iconst 5, 1) := by decide +kernel
theorem dX10_change_104 : decode cX10_change 104 = .ok (.iload_n 3, 1) := by decide +kernel
theorem dX10_change_105 : decode cX10_change 105 = .ok (.imul, 1) := by decide +kernel
theorem dX10_change_106 : decode cX10_change 106 = .ok (.iadd, 1) := by decide +kernel
theorem dX10_change_107 : decode cX10_change 107 = .ok (.iconst 4, 1) := by decide +kernel
theorem dX10_change_108 : decode cX10_change 108 = .ok (.iadd, 1) := by decide +kernel
theorem dX10_change_109 : decode cX10_change 109 = .ok (.iload 6, 2) := by decide +kernel
theorem dX10_change_111 : decode cX10_change 111 = .ok (.iastore, 1) := by decide +kernel
theorem dX10_change_112 : decode cX10_change 112 = .ok (.aload_n 0, 1) := by decide +kernel
theorem dX10_change_113 : decode cX10_change 113 = .ok (.iload 7, 2) := by decide +kernel
theorem dX10_change_115 : decode cX10_change 115 = .ok (.iload 5, 2) := by decide +kernel
theorem dX10_change_117 : decode cX10_change 117 = .ok (.if_icmp .eq 7, 3) := by decide +kernel
theorem dX10_change_120 : decode cX10_change 120 = .ok (.iconst 1, 1) := by decide +kernel
theorem dX10_change_121 : decode cX10_change 121 = .ok (.goto 4, 3) := by decide +kernel
theorem dX10_change_124 : decode cX10_change 124 = .ok (.iconst 0, 1) := by decide +kernel
theorem dX10_change_125 : decode cX10_change 125 = .ok (.invokevirtual 204, 3) := by decide +kernel
theorem dX10_change_128 : decode cX10_change 128 = .ok (.ireturn, 1) := by decide +kernel
theorem dX10_beside_0 : decode cX10_beside 0 = .ok (.aload_n 0, 1) := by decide +kernel
theorem dX10_beside_1 : decode cX10_beside 1 = .ok (.iload_n 1, 1) := by decide +kernel
theorem dX10_beside_2 : decode cX10_beside 2 = .ok (.invokevirtual 223, 3) := by decide +kernel
theorem dX10_beside_5 : decode cX10_beside 5 = .ok (.ifCond .eq 71, 3) := by decide +kernel
theorem dX10_beside_8 : decode cX10_beside 8 = .ok (.iload_n 2, 1) := by decide +kernel
theorem dX10_beside_9 : decode cX10_beside 9 = .ok (.ifCond .lt 67, 3) := by decide +kernel
theorem dX10_beside_12 : decode cX10_beside 12 = .ok (.iload_n 2, 1) := by decide +kernel
theorem dX10_beside_13 : decode cX10_beside 13 = .ok (.sipush 999, 3) := by decide +kernel
theorem dX10_beside_16 : decode cX10_beside 16 = .ok (.if_icmp .gt 60, 3) := by decide +kernel
theorem dX10_beside_19 : decode cX10_beside 19 = .ok (.iload_n 3, 1) := by decide +kernel
theorem dX10_beside_20 : decode cX10_beside 20 = .ok (.iconst (-1), 1) := by decide +kernel
theorem dX10_beside_21 : decode cX10_beside 21 = .ok (.if_icmp .eq 16, 3) := by decide +kernel
theorem dX10_beside_24 : decode cX10_beside 24 = .ok (.aload_n 0, 1) := by decide +kernel
theorem dX10_beside_25 : decode cX10_beside 25 = .ok (.iload_n 3, 1) := by decide +kernel
theorem dX10_beside_26 : decode cX10_beside 26 = .ok (.invokevirtual 223, 3) := by decide +kernel
theorem dX10_beside_29 : decode cX10_beside 29 = .ok (.ifCond .eq 47, 3) := by decide +kernel
theorem dX10_beside_32 : decode cX10_beside 32 = .ok (.iload_n 3, 1) := by decide +kernel
theorem dX10_beside_33 : decode cX10_beside 33 = .ok (.iload_n 1, 1) := by decide +kernel
theorem dX10_beside_34 : decode cX10_beside 34 = .ok (.if_icmp .eq 42, 3) := by decide +kernel
theorem dX10_beside_37 : decode cX10_beside 37 = .ok (.iload 4, 2) := by decide +kernel
theorem dX10_beside_39 : decode cX10_beside 39 = .ok (.iconst (-1), 1) := by decide +kernel
theorem dX10_beside_40 : decode cX10_beside 40 = .ok (.if_icmp .eq 12, 3) := by decide +kernel
theorem dX10_beside_43 : decode cX10_beside 43 = .ok (.aload_n 0, 1) := by decide +kernel
theorem dX10_beside_44 : decode cX10_beside 44 = .ok (.iload 4, 2) := by decide +kernel
theorem dX10_beside_46 : decode cX10_beside 46 = .ok (.invokevirtual 216, 3) := by decide +kernel
theorem dX10_beside_49 : decode cX10_beside 49 = .ok (.ifCond .eq 27, 3) := by decide +kernel
theorem dX10_beside_52 : decode cX10_beside 52 = .ok (.iload 5, 2) := by decide +kernel
theorem dX10_beside_54 : decode cX10_beside 54 = .ok (.ifCond .lt 22, 3) := by decide +kernel
theorem dX10_beside_57 : decode cX10_beside 57 = .ok (.iload 5, 2) := by decide +kernel
theorem dX10_beside_59 : decode cX10_beside 59 = .ok (.bipush 99, 2) := by decide +kernel
theorem dX10_beside_61 : decode cX10_beside 61 = .ok (.if_icmp .gt 15, 3) := by decide +kernel
theorem dX10_beside_64 : decode cX10_beside 64 = .ok (.iload 6, 2) := by decide +kernel
theorem dX10_beside_66 : decode cX10_beside 66 = .ok (.ifCond .lt 10, 3) := by decide +kernel
theorem dX10_beside_69 : decode cX10_beside 69 = .ok (.iload 6, 2) := by decide +kernel
theorem dX10_beside_71 : decode cX10_beside 71 = .ok (.bipush 99, 2) := by decide +kernel
theorem dX10_beside_73 : decode cX10_beside 73 = .ok (.if_icmp .le 9, 3) := by decide +kernel
theorem dX10_beside_76 : decode cX10_beside 76 = .ok (.aload_n 0, 1) := by decide +kernel
theorem dX10_beside_77 : decode cX10_beside 77 = .ok (.iconst 1, 1) := by decide +kernel
theorem dX10_beside_78 : decode cX10_beside 78 = .ok (.invokevirtual 88, 3) := by decide +kernel
theorem dX10_beside_81 : decode cX10_beside 81 = .ok (.ireturn, 1) := by decide +kernel
theorem dX10_beside_82 : decode cX10_beside 82 = .ok (.aload_n 0, 1) := by decide +kernel
theorem dX10_beside_83 : decode cX10_beside 83 = .ok (.iload_n 1, 1) := by decide +kernel
theorem dX10_beside_84 : decode cX10_beside 84 = .ok (.invokevirtual 229, 3) := by decide +kernel
theorem dX10_beside_87 : decode cX10_beside 87 = .ok (.istore 7, 2) := by decide +kernel
theorem dX10_beside_89 : decode cX10_beside 89 = .ok (.aload_n 0, 1) := by decide +kernel
theorem dX10_beside_90 : decode cX10_beside 90 = .ok (.iload_n 1, 1) := by decide +kernel
theorem dX10_beside_91 : decode cX10_beside 91 = .ok (.iload 7, 2) := by decide +kernel
theorem dX10_beside_93 : decode cX10_beside 93 = .ok (.invokevirtual 257, 3) := by decide +kernel
theorem dX10_beside_96 : decode cX10_beside 96 = .ok (.iconst 0, 1) := by decide +kernel
theorem dX10_beside_97 : decode cX10_beside 97 = .ok (.istore 8, 2) := by decide +kernel
theorem dX10_beside_99 : decode cX10_beside 99 = .ok (.iload 8, 2) := by decide +kernel
theorem dX10_beside_101 : decode cX10_beside 101 = .ok (.aload_n 0, 1) := by decide +kernel
theorem dX10_beside_102 : decode cX10_beside 102 = .ok (.invokevirtual 260, 3) := by decide +kernel
theorem dX10_beside_105 : decode cX10_beside 105 = .ok (.if_icmp .ge 77, 3) := by decide +kernel
theorem dX10_beside_108 : decode cX10_beside 108 = .ok (.aload_n 0, 1) := by decide +kernel
theorem dX10_beside_109 : decode cX10_beside 109 = .ok (.getfield 53, 3) := by decide +kernel
theorem dX10_beside_112 : decode cX10_beside 112 = .ok (.iload 8, 2) := by decide +kernel
theorem dX10_beside_114 : decode cX10_beside 114 = .ok (.aload_n 0, 1) := by decide +kernel
theorem dX10_beside_115 : decode cX10_beside 115 = .ok (.iload 7, 2) := by decide +kernel
theorem dX10_beside_117 : decode cX10_beside 117 = .ok (.iload 8, 2) := by decide +kernel
theorem dX10_beside_119 : decode cX10_beside 119 = .ok (.invokevirtual 267, 3) := by decide +kernel
theorem dX10_beside_122 : decode cX10_beside 122 = .ok (.iastore, 1) := by decide +kernel
theorem dX10_beside_123 : decode cX10_beside 123 = .ok (.aload_n 0, 1) := by decide +kernel
theorem dX10_beside_124 : decode cX10_beside 124 = .ok (.getfield 56, 3) := by decide +kernel
theorem dX10_beside_127 : decode cX10_beside 127 = .ok (.iload 8, 2) := by decide +kernel
theorem dX10_beside_129 : decode cX10_beside 129 = .ok (.iconst 0, 1) := by decide +kernel
theorem dX10_beside_130 : decode cX10_beside 130 = .ok (.iastore, 1) := by decide +kernel
theorem dX10_beside_131 : decode cX10_beside 131 = .ok (.iload 4, 2) := by decide +kernel
theorem dX10_beside_133 : decode cX10_beside 133 = .ok (.iconst (-1), 1) := by decide +kernel
theorem dX10_beside_134 : decode cX10_beside 134 = .ok (.if_icmp .eq 42, 3) := by decide +kernel
theorem dX10_beside_137 : decode cX10_beside 137 = .ok (.aload_n 0, 1) := by decide +kernel
theorem dX10_beside_138 : decode cX10_beside 138 = .ok (.getfield 53, 3) := by decide +kernel
theorem dX10_beside_141 : decode cX10_beside 141 = .ok (.iload 8, 2) := by decide +kernel
theorem dX10_beside_143 : decode cX10_beside 143 = .ok (.iconst 0, 1) := by decide +kernel
theorem dX10_beside_144 : decode cX10_beside 144 = .ok (.aload_n 0, 1) := by decide +kernel
theorem dX10_beside_145 : decode cX10_beside 145 = .ok (.getfield 53, 3) := by decide +kernel
theorem dX10_beside_148 : decode cX10_beside 148 = .ok (.iload 8, 2) := by decide +kernel
theorem dX10_beside_150 : decode cX10_beside 150 = .ok (.iaload, 1) := by decide +kernel
theorem dX10_beside_151 : decode cX10_beside 151 = .ok (.iload 5, 2) := by decide +kernel
theorem dX10_beside_153 : decode cX10_beside 153 = .ok (.isub, 1) := by decide +kernel
theorem dX10_beside_154 : decode cX10_beside 154 = .ok (.invokestatic 251, 3) := by decide +kernel
theorem dX10_beside_157 : decode cX10_beside 157 = .ok (.iload 8, 2) := by decide +kernel
theorem dX10_beside_159 : decode cX10_beside 159 = .ok (.iload 4, 2) := by decide +kernel
theorem dX10_beside_161 : decode cX10_beside 161 = .ok (.ishr, 1) := by decide +kernel
theorem dX10_beside_162 : decode cX10_beside 162 = .ok (.iconst 1, 1) := by decide +kernel
theorem dX10_beside_163 : decode cX10_beside 163 = .ok (.iand, 1) := by decide +kernel
theorem dX10_beside_164 : decode cX10_beside 164 = .ok (.iconst 1, 1) := by decide +kernel
theorem dX10_beside_165 : decode cX10_beside 165 = .ok (.if_icmp .ne 8, 3) := by decide +kernel
theorem dX10_beside_168 : decode cX10_beside 168 = .ok (.iload 6, 2) := by decide +kernel
theorem dX10_beside_170 : decode cX10_beside 170 = .ok (.goto 4, 3) := by decide +kernel
theorem dX10_beside_173 : decode cX10_beside 173 = .ok (.iconst 0, 1) := by decide +kernel
theorem dX10_beside_174 : decode cX10_beside 174 = .ok (.iadd, 1) := by decide +kernel
theorem dX10_beside_175 : decode cX10_beside 175 = .ok (.iastore, 1) := by decide +kernel
theorem dX10_beside_176 : decode cX10_beside 176 = .ok (.iinc 8 1, 3) := by decide +kernel
theorem dX10_beside_179 : decode cX10_beside 179 = .ok (.goto (-80), 3) := by decide +kernel
theorem dX10_beside_182 : decode cX10_beside 182 = .ok (.iload_n 3, 1) := by decide +kernel
theorem dX10_beside_183 : decode cX10_beside 183 = .ok (.iconst (-1), 1) := by decide +kernel
theorem dX10_beside_184 : decode cX10_beside 184 = .ok (.if_icmp .eq 61, 3) := by decide +kernel
theorem dX10_beside_187 : decode cX10_beside 187 = .ok (.aload_n 0, 1) := by decide +kernel
theorem dX10_beside_188 : decode cX10_beside 188 = .ok (.iload_n 3, 1) := by decide +kernel
theorem dX10_beside_189 : decode cX10_beside 189 = .ok (.invokevirtual 229, 3) := by decide +kernel
theorem dX10_beside_192 : decode cX10_beside 192 = .ok (.istore 8, 2) := by decide +kernel
theorem dX10_beside_194 : decode cX10_beside 194 = .ok (.aload_n 0, 1) := by decide +kernel
theorem dX10_beside_195 : decode cX10_beside 195 = .ok (.iload_n 3, 1) := by decide +kernel
theorem dX10_beside_196 : decode cX10_beside 196 = .ok (.iload 8, 2) := by decide +kernel
theorem dX10_beside_198 : decode cX10_beside 198 = .ok (.invokevirtual 257, 3) := by decide +kernel
theorem dX10_beside_201 : decode cX10_beside 201 = .ok (.iconst 0, 1) := by decide +kernel
theorem dX10_beside_202 : decode cX10_beside 202 = .ok (.istore 9, 2) := by decide +kernel
theorem dX10_beside_204 : decode cX10_beside 204 = .ok (.iload 9, 2) := by decide +kernel
theorem dX10_beside_206 : decode cX10_beside 206 = .ok (.aload_n 0, 1) := by decide +kernel
theorem dX10_beside_207 : decode cX10_beside 207 = .ok (.invokevirtual 260, 3) := by decide +kernel
theorem dX10_beside_210 : decode cX10_beside 210 = .ok (.if_icmp .ge 35, 3) := by decide +kernel
theorem dX10_beside_213 : decode cX10_beside 213 = .ok (.aload_n 0, 1) := by decide +kernel
theorem dX10_beside_214 : decode cX10_beside 214 = .ok (.getfield 56, 3) := by decide +kernel
theorem dX10_beside_217 : decode cX10_beside 217 = .ok (.iload 9, 2) := by decide +kernel
theorem dX10_beside_219 : decode cX10_beside 219 = .ok (.iconst 0, 1) := by decide +kernel
theorem dX10_beside_220 : decode cX10_beside 220 = .ok (.aload_n 0, 1) := by decide +kernel
theorem dX10_beside_221 : decode cX10_beside 221 = .ok (.iload 8, 2) := by decide +kernel
theorem dX10_beside_223 : decode cX10_beside 223 = .ok (.iload 9, 2) := by decide +kernel
theorem dX10_beside_225 : decode cX10_beside 225 = .ok (.invokevirtual 267, 3) := by decide +kernel
theorem dX10_beside_228 : decode cX10_beside 228 = .ok (.aload_n 0, 1) := by decide +kernel
theorem dX10_beside_229 : decode cX10_beside 229 = .ok (.iload_n 3, 1) := by decide +kernel
theorem dX10_beside_230 : decode cX10_beside 230 = .ok (.iconst 2, 1) := by decide +kernel
theorem dX10_beside_231 : decode cX10_beside 231 = .ok (.invokevirtual 226, 3) := by decide +kernel
theorem dX10_beside_234 : decode cX10_beside 234 = .ok (.isub, 1) := by decide +kernel
theorem dX10_beside_235 : decode cX10_beside 235 = .ok (.invokestatic 251, 3) := by decide +kernel
theorem dX10_beside_238 : decode cX10_beside 238 = .ok (.iastore, 1) := by decide +kernel
theorem dX10_beside_239 : decode cX10_beside 239 = .ok (.iinc 9 1, 3) := by decide +kernel
theorem dX10_beside_242 : decode cX10_beside 242 = .ok (.goto (-38), 3) := by decide +kernel
theorem dX10_beside_245 : decode cX10_beside 245 = .ok (.aload_n 0, 1) := by decide +kernel
theorem dX10_beside_246 : decode cX10_beside 246 = .ok (.iload_n 1, 1) := by decide +kernel
theorem dX10_beside_247 : decode cX10_beside 247 = .ok (.iconst 2, 1) := by decide +kernel
theorem dX10_beside_248 : decode cX10_beside 248 = .ok (.invokevirtual 226, 3) := by decide +kernel
theorem dX10_beside_251 : decode cX10_beside 251 = .ok (.istore 8, 2) := by decide +kernel
theorem dX10_beside_253 : decode cX10_beside 253 = .ok (.lconst 0, 1) := by decide +kernel
theorem dX10_beside_254 : decode cX10_beside 254 = .ok (.lstore 9, 2) := by decide +kernel
theorem dX10_beside_256 : decode cX10_beside 256 = .ok (.iconst 0, 1) := by decide +kernel
theorem dX10_beside_257 : decode cX10_beside 257 = .ok (.istore 11, 2) := by decide +kernel
theorem dX10_beside_259 : decode cX10_beside 259 = .ok (.iload 11, 2) := by decide +kernel
theorem dX10_beside_261 : decode cX10_beside 261 = .ok (.aload_n 0, 1) := by decide +kernel
theorem dX10_beside_262 : decode cX10_beside 262 = .ok (.invokevirtual 260, 3) := by decide +kernel
theorem dX10_beside_265 : decode cX10_beside 265 = .ok (.if_icmp .ge 94, 3) := by decide +kernel
theorem dX10_beside_268 : decode cX10_beside 268 = .ok (.iload_n 2, 1) := by decide +kernel
theorem dX10_beside_269 : decode cX10_beside 269 = .ok (.iconst 0, 1) := by decide +kernel
theorem dX10_beside_270 : decode cX10_beside 270 = .ok (.aload_n 0, 1) := by decide +kernel
theorem dX10_beside_271 : decode cX10_beside 271 = .ok (.getfield 53, 3) := by decide +kernel
theorem dX10_beside_274 : decode cX10_beside 274 = .ok (.iload 11, 2) := by decide +kernel
theorem dX10_beside_276 : decode cX10_beside 276 = .ok (.iaload, 1) := by decide +kernel
theorem dX10_beside_277 : decode cX10_beside 277 = .ok (.iload 8, 2) := by decide +kernel
theorem dX10_beside_279 : decode cX10_beside 279 = .ok (.isub, 1) := by decide +kernel
theorem dX10_beside_280 : decode cX10_beside 280 = .ok (.invokestatic 251, 3) := by decide +kernel
theorem dX10_beside_283 : decode cX10_beside 283 = .ok (.invokestatic 137, 3) := by decide +kernel
theorem dX10_beside_286 : decode cX10_beside 286 = .ok (.istore 12, 2) := by decide +kernel
theorem dX10_beside_288 : decode cX10_beside 288 = .ok (.iconst 0, 1) := by decide +kernel
theorem dX10_beside_289 : decode cX10_beside 289 = .ok (.istore 13, 2) := by decide +kernel
theorem dX10_beside_291 : decode cX10_beside 291 = .ok (.iload 13, 2) := by decide +kernel
theorem dX10_beside_293 : decode cX10_beside 293 = .ok (.aload_n 0, 1) := by decide +kernel
theorem dX10_beside_294 : decode cX10_beside 294 = .ok (.invokevirtual 260, 3) := by decide +kernel
theorem dX10_beside_297 : decode cX10_beside 297 = .ok (.if_icmp .ge 56, 3) := by decide +kernel
theorem dX10_beside_300 : decode cX10_beside 300 = .ok (.lload 9, 2) := by decide +kernel
theorem dX10_beside_302 : decode cX10_beside 302 = .ok (.aload_n 0, 1) := by decide +kernel
theorem dX10_beside_303 : decode cX10_beside 303 = .ok (.getfield 53, 3) := by decide +kernel
theorem dX10_beside_306 : decode cX10_beside 306 = .ok (.iload 13, 2) := by decide +kernel
theorem dX10_beside_308 : decode cX10_beside 308 = .ok (.iaload, 1) := by decide +kernel
theorem dX10_beside_309 : decode cX10_beside 309 = .ok (.iload 12, 2) := by decide +kernel
theorem dX10_beside_311 : decode cX10_beside 311 = .ok (.iconst 2, 1) := by decide +kernel
theorem dX10_beside_312 : decode cX10_beside 312 = .ok (.idiv, 1) := by decide +kernel
theorem dX10_beside_313 : decode cX10_beside 313 = .ok (.iadd, 1) := by decide +kernel
theorem dX10_beside_314 : decode cX10_beside 314 = .ok (.aload_n 0, 1) := by decide +kernel
theorem dX10_beside_315 : decode cX10_beside 315 = .ok (.getfield 56, 3) := by decide +kernel
theorem dX10_beside_318 : decode cX10_beside 318 = .ok (.iload 13, 2) := by decide +kernel
theorem dX10_beside_320 : decode cX10_beside 320 = .ok (.iaload, 1) := by decide +kernel
theorem dX10_beside_321 : decode cX10_beside 321 = .ok (.iadd, 1) := by decide +kernel
theorem dX10_beside_322 : decode cX10_beside 322 = .ok (.iload 8, 2) := by decide +kernel
theorem dX10_beside_324 : decode cX10_beside 324 = .ok (.if_icmp .ge 19, 3) := by decide +kernel
theorem dX10_beside_327 : decode cX10_beside 327 = .ok (.aload_n 0, 1) := by decide +kernel
theorem dX10_beside_328 : decode cX10_beside 328 = .ok (.iload 11, 2) := by decide +kernel
theorem dX10_beside_330 : decode cX10_beside 330 = .ok (.invokevirtual 263, 3) := by decide +kernel
theorem dX10_beside_333 : decode cX10_beside 333 = .ok (.aload_n 0, 1) := by decide +kernel
theorem dX10_beside_334 : decode cX10_beside 334 = .ok (.iload 13, 2) := by decide +kernel
theorem dX10_beside_336 : decode cX10_beside 336 = .ok (.invokevirtual 263, 3) := by decide +kernel
theorem dX10_beside_339 : decode cX10_beside 339 = .ok (.lmul, 1) := by decide +kernel
theorem dX10_beside_340 : decode cX10_beside 340 = .ok (.goto 4, 3) := by decide +kernel
theorem dX10_beside_343 : decode cX10_beside 343 = .ok (.lconst 0, 1) := by decide +kernel
theorem dX10_beside_344 : decode cX10_beside 344 = .ok (.ladd, 1) := by decide +kernel
theorem dX10_beside_345 : decode cX10_beside 345 = .ok (.lstore 9, 2) := by decide +kernel
theorem dX10_beside_347 : decode cX10_beside 347 = .ok (.iinc 13 1, 3) := by decide +kernel
theorem dX10_beside_350 : decode cX10_beside 350 = .ok (.goto (-59), 3) := by decide +kernel
theorem dX10_beside_353 : decode cX10_beside 353 = .ok (.iinc 11 1, 3) := by decide +kernel
theorem dX10_beside_356 : decode cX10_beside 356 = .ok (.goto (-97), 3) := by decide +kernel
theorem dX10_beside_359 : decode cX10_beside 359 = .ok (.aload_n 0, 1) := by decide +kernel
theorem dX10_beside_360 : decode cX10_beside 360 = .ok (.lload 9, 2) := by decide +kernel
theorem dX10_beside_362 : decode cX10_beside 362 = .ok (.aload_n 0, 1) := by decide +kernel
theorem dX10_beside_363 : decode cX10_beside 363 = .ok (.invokevirtual 288, 3) := by decide +kernel
theorem dX10_beside_366 : decode cX10_beside 366 = .ok (.aload_n 0, 1) := by decide +kernel
theorem dX10_beside_367 : decode cX10_beside 367 = .ok (.invokevirtual 288, 3) := by decide +kernel
theorem dX10_beside_370 : decode cX10_beside 370 = .ok (.lmul, 1) := by decide +kernel
theorem dX10_beside_371 : decode cX10_beside 371 = .ok (.invokevirtual 291, 3) := by decide +kernel
theorem dX10_beside_374 : decode cX10_beside 374 = .ok (.ireturn, 1) := by decide +kernel
theorem dX10_grows_0 : decode cX10_grows 0 = .ok (.aload_n 0, 1) := by decide +kernel
theorem dX10_grows_1 : decode cX10_grows 1 = .ok (.iload_n 1, 1) := by decide +kernel
theorem dX10_grows_2 : decode cX10_grows 2 = .ok (.iload_n 2, 1) := by decide +kernel
theorem dX10_grows_3 : decode cX10_grows 3 = .ok (.iconst 1, 1) := by decide +kernel
theorem dX10_grows_4 : decode cX10_grows 4 = .ok (.iload_n 3, 1) := by decide +kernel
theorem dX10_grows_5 : decode cX10_grows 5 = .ok (.ishl, 1) := by decide +kernel
theorem dX10_grows_6 : decode cX10_grows 6 = .ok (.iconst (-1), 1) := by decide +kernel
theorem dX10_grows_7 : decode cX10_grows 7 = .ok (.ixor, 1) := by decide +kernel
theorem dX10_grows_8 : decode cX10_grows 8 = .ok (.iand, 1) := by decide +kernel
theorem dX10_grows_9 : decode cX10_grows 9 = .ok (.iconst 1, 1) := by decide +kernel
theorem dX10_grows_10 : decode cX10_grows 10 = .ok (.iload 4, 2) := by decide +kernel
theorem dX10_grows_12 : decode cX10_grows 12 = .ok (.ishl, 1) := by decide +kernel
theorem dX10_grows_13 : decode cX10_grows 13 = .ok (.ior, 1) := by decide +kernel
theorem dX10_grows_14 : decode cX10_grows 14 = .ok (.invokevirtual 295, 3) := by decide +kernel
theorem dX10_grows_17 : decode cX10_grows 17 = .ok (.aload_n 0, 1) := by decide +kernel
theorem dX10_grows_18 : decode cX10_grows 18 = .ok (.iload_n 1, 1) := by decide +kernel
theorem dX10_grows_19 : decode cX10_grows 19 = .ok (.iload_n 2, 1) := by decide +kernel
theorem dX10_grows_20 : decode cX10_grows 20 = .ok (.invokevirtual 295, 3) := by decide +kernel
theorem dX10_grows_23 : decode cX10_grows 23 = .ok (.lcmp, 1) := by decide +kernel
theorem dX10_grows_24 : decode cX10_grows 24 = .ok (.ifCond .le 7, 3) := by decide +kernel
theorem dX10_grows_27 : decode cX10_grows 27 = .ok (.iconst 1, 1) := by decide +kernel
theorem dX10_grows_28 : decode cX10_grows 28 = .ok (.goto 4, 3) := by decide +kernel
theorem dX10_grows_31 : decode cX10_grows 31 = .ok (.iconst 0, 1) := by decide +kernel
theorem dX10_grows_32 : decode cX10_grows 32 = .ok (.ireturn, 1) := by decide +kernel
theorem dX10_swapsOf_0 : decode cX10_swapsOf 0 = .ok (.aload_n 0, 1) := by decide +kernel
theorem dX10_swapsOf_1 : decode cX10_swapsOf 1 = .ok (.iload_n 1, 1) := by decide +kernel
theorem dX10_swapsOf_2 : decode cX10_swapsOf 2 = .ok (.invokevirtual 229, 3) := by decide +kernel
theorem dX10_swapsOf_5 : decode cX10_swapsOf 5 = .ok (.istore 4, 2) := by decide +kernel
theorem dX10_swapsOf_7 : decode cX10_swapsOf 7 = .ok (.aload_n 0, 1) := by decide +kernel
theorem dX10_swapsOf_8 : decode cX10_swapsOf 8 = .ok (.iload_n 2, 1) := by decide +kernel
theorem dX10_swapsOf_9 : decode cX10_swapsOf 9 = .ok (.invokevirtual 229, 3) := by decide +kernel
theorem dX10_swapsOf_12 : decode cX10_swapsOf 12 = .ok (.istore 5, 2) := by decide +kernel
theorem dX10_swapsOf_14 : decode cX10_swapsOf 14 = .ok (.iconst 0, 1) := by decide +kernel
theorem dX10_swapsOf_15 : decode cX10_swapsOf 15 = .ok (.istore 6, 2) := by decide +kernel
theorem dX10_swapsOf_17 : decode cX10_swapsOf 17 = .ok (.iconst 0, 1) := by decide +kernel
theorem dX10_swapsOf_18 : decode cX10_swapsOf 18 = .ok (.istore 7, 2) := by decide +kernel
theorem dX10_swapsOf_20 : decode cX10_swapsOf 20 = .ok (.iload 7, 2) := by decide +kernel
theorem dX10_swapsOf_22 : decode cX10_swapsOf 22 = .ok (.aload_n 0, 1) := by decide +kernel
theorem dX10_swapsOf_23 : decode cX10_swapsOf 23 = .ok (.getfield 7, 3) := by decide +kernel
theorem dX10_swapsOf_26 : decode cX10_swapsOf 26 = .ok (.iconst 0, 1) := by decide +kernel
theorem dX10_swapsOf_27 : decode cX10_swapsOf 27 = .ok (.iaload, 1) := by decide +kernel
theorem dX10_swapsOf_28 : decode cX10_swapsOf 28 = .ok (.if_icmp .ge 101, 3) := by decide +kernel
theorem dX10_swapsOf_31 : decode cX10_swapsOf 31 = .ok (.iconst 0, 1) := by decide +kernel
theorem dX10_swapsOf_32 : decode cX10_swapsOf 32 = .ok (.istore 8, 2) := by decide +kernel
theorem dX10_swapsOf_34 : decode cX10_swapsOf 34 = .ok (.iload 8, 2) := by decide +kernel
theorem dX10_swapsOf_36 : decode cX10_swapsOf 36 = .ok (.aload_n 0, 1) := by decide +kernel
theorem dX10_swapsOf_37 : decode cX10_swapsOf 37 = .ok (.getfield 7, 3) := by decide +kernel
theorem dX10_swapsOf_40 : decode cX10_swapsOf 40 = .ok (.iconst 0, 1) := by decide +kernel
theorem dX10_swapsOf_41 : decode cX10_swapsOf 41 = .ok (.iaload, 1) := by decide +kernel
theorem dX10_swapsOf_42 : decode cX10_swapsOf 42 = .ok (.if_icmp .ge 81, 3) := by decide +kernel
theorem dX10_swapsOf_45 : decode cX10_swapsOf 45 = .ok (.iload 4, 2) := by decide +kernel
theorem dX10_swapsOf_47 : decode cX10_swapsOf 47 = .ok (.iload 7, 2) := by decide +kernel
theorem dX10_swapsOf_49 : decode cX10_swapsOf 49 = .ok (.ishr, 1) := by decide +kernel
theorem dX10_swapsOf_50 : decode cX10_swapsOf 50 = .ok (.iconst 1, 1) := by decide +kernel
theorem dX10_swapsOf_51 : decode cX10_swapsOf 51 = .ok (.iand, 1) := by decide +kernel
theorem dX10_swapsOf_52 : decode cX10_swapsOf 52 = .ok (.ifCond .eq 65, 3) := by decide +kernel
theorem dX10_swapsOf_55 : decode cX10_swapsOf 55 = .ok (.iload 5, 2) := by decide +kernel
theorem dX10_swapsOf_57 : decode cX10_swapsOf 57 = .ok (.iload 8, 2) := by decide +kernel
theorem dX10_swapsOf_59 : decode cX10_swapsOf 59 = .ok (.ishr, 1) := by decide +kernel
theorem dX10_swapsOf_60 : decode cX10_swapsOf 60 = .ok (.iconst 1, 1) := by decide +kernel
theorem dX10_swapsOf_61 : decode cX10_swapsOf 61 = .ok (.iand, 1) := by decide +kernel
theorem dX10_swapsOf_62 : decode cX10_swapsOf 62 = .ok (.ifCond .eq 55, 3) := by decide +kernel
theorem dX10_swapsOf_65 : decode cX10_swapsOf 65 = .ok (.aload_n 0, 1) := by decide +kernel
theorem dX10_swapsOf_66 : decode cX10_swapsOf 66 = .ok (.iload_n 1, 1) := by decide +kernel
theorem dX10_swapsOf_67 : decode cX10_swapsOf 67 = .ok (.iload 4, 2) := by decide +kernel
theorem dX10_swapsOf_69 : decode cX10_swapsOf 69 = .ok (.iload 7, 2) := by decide +kernel
theorem dX10_swapsOf_71 : decode cX10_swapsOf 71 = .ok (.iload 8, 2) := by decide +kernel
theorem dX10_swapsOf_73 : decode cX10_swapsOf 73 = .ok (.invokevirtual 311, 3) := by decide +kernel
theorem dX10_swapsOf_76 : decode cX10_swapsOf 76 = .ok (.ifCond .eq 41, 3) := by decide +kernel
theorem dX10_swapsOf_79 : decode cX10_swapsOf 79 = .ok (.aload_n 0, 1) := by decide +kernel
theorem dX10_swapsOf_80 : decode cX10_swapsOf 80 = .ok (.iload_n 2, 1) := by decide +kernel
theorem dX10_swapsOf_81 : decode cX10_swapsOf 81 = .ok (.iload 5, 2) := by decide +kernel
theorem dX10_swapsOf_83 : decode cX10_swapsOf 83 = .ok (.iload 8, 2) := by decide +kernel
theorem dX10_swapsOf_85 : decode cX10_swapsOf 85 = .ok (.iload 7, 2) := by decide +kernel
theorem dX10_swapsOf_87 : decode cX10_swapsOf 87 = .ok (.invokevirtual 311, 3) := by decide +kernel
theorem dX10_swapsOf_90 : decode cX10_swapsOf 90 = .ok (.ifCond .ne 6, 3) := by decide +kernel
theorem dX10_swapsOf_93 : decode cX10_swapsOf 93 = .ok (.goto 24, 3) := by decide +kernel
theorem dX10_swapsOf_96 : decode cX10_swapsOf 96 = .ok (.iload 6, 2) := by decide +kernel
theorem dX10_swapsOf_98 : decode cX10_swapsOf 98 = .ok (.iload_n 3, 1) := by decide +kernel
theorem dX10_swapsOf_99 : decode cX10_swapsOf 99 = .ok (.if_icmp .ne 15, 3) := by decide +kernel
theorem dX10_swapsOf_102 : decode cX10_swapsOf 102 = .ok (.aload_n 0, 1) := by decide +kernel
theorem dX10_swapsOf_103 : decode cX10_swapsOf 103 = .ok (.iload 7, 2) := by decide +kernel
theorem dX10_swapsOf_105 : decode cX10_swapsOf 105 = .ok (.putfield 315, 3) := by decide +kernel
theorem dX10_swapsOf_108 : decode cX10_swapsOf 108 = .ok (.aload_n 0, 1) := by decide +kernel
theorem dX10_swapsOf_109 : decode cX10_swapsOf 109 = .ok (.iload 8, 2) := by decide +kernel
theorem dX10_swapsOf_111 : decode cX10_swapsOf 111 = .ok (.putfield 318, 3) := by decide +kernel
theorem dX10_swapsOf_114 : decode cX10_swapsOf 114 = .ok (.iinc 6 1, 3) := by decide +kernel
theorem dX10_swapsOf_117 : decode cX10_swapsOf 117 = .ok (.iinc 8 1, 3) := by decide +kernel
theorem dX10_swapsOf_120 : decode cX10_swapsOf 120 = .ok (.goto (-86), 3) := by decide +kernel
theorem dX10_swapsOf_123 : decode cX10_swapsOf 123 = .ok (.iinc 7 1, 3) := by decide +kernel
theorem dX10_swapsOf_126 : decode cX10_swapsOf 126 = .ok (.goto (-106), 3) := by decide +kernel
theorem dX10_swapsOf_129 : decode cX10_swapsOf 129 = .ok (.iload 6, 2) := by decide +kernel
theorem dX10_swapsOf_131 : decode cX10_swapsOf 131 = .ok (.ireturn, 1) := by decide +kernel
theorem dX10_areTwo_0 : decode cX10_areTwo 0 = .ok (.aload_n 0, 1) := by decide +kernel
theorem dX10_areTwo_1 : decode cX10_areTwo 1 = .ok (.iload_n 1, 1) := by decide +kernel
theorem dX10_areTwo_2 : decode cX10_areTwo 2 = .ok (.invokevirtual 223, 3) := by decide +kernel
theorem dX10_areTwo_5 : decode cX10_areTwo 5 = .ok (.ifCond .eq 20, 3) := by decide +kernel
theorem dX10_areTwo_8 : decode cX10_areTwo 8 = .ok (.aload_n 0, 1) := by decide +kernel
theorem dX10_areTwo_9 : decode cX10_areTwo 9 = .ok (.iload_n 2, 1) := by decide +kernel
theorem dX10_areTwo_10 : decode cX10_areTwo 10 = .ok (.invokevirtual 223, 3) := by decide +kernel
theorem dX10_areTwo_13 : decode cX10_areTwo 13 = .ok (.ifCond .eq 12, 3) := by decide +kernel
theorem dX10_areTwo_16 : decode cX10_areTwo 16 = .ok (.iload_n 1, 1) := by decide +kernel
theorem dX10_areTwo_17 : decode cX10_areTwo 17 = .ok (.iload_n 2, 1) := by decide +kernel
theorem dX10_areTwo_18 : decode cX10_areTwo 18 = .ok (.if_icmp .eq 7, 3) := by decide +kernel
theorem dX10_areTwo_21 : decode cX10_areTwo 21 = .ok (.iconst 1, 1) := by decide +kernel
theorem dX10_areTwo_22 : decode cX10_areTwo 22 = .ok (.goto 4, 3) := by decide +kernel
theorem dX10_areTwo_25 : decode cX10_areTwo 25 = .ok (.iconst 0, 1) := by decide +kernel
theorem dX10_areTwo_26 : decode cX10_areTwo 26 = .ok (.ireturn, 1) := by decide +kernel
theorem dX10_swaps_0 : decode cX10_swaps 0 = .ok (.aload_n 0, 1) := by decide +kernel
theorem dX10_swaps_1 : decode cX10_swaps 1 = .ok (.iload_n 1, 1) := by decide +kernel
theorem dX10_swaps_2 : decode cX10_swaps 2 = .ok (.iload_n 2, 1) := by decide +kernel
theorem dX10_swaps_3 : decode cX10_swaps 3 = .ok (.invokevirtual 321, 3) := by decide +kernel
theorem dX10_swaps_6 : decode cX10_swaps 6 = .ok (.ifCond .eq 17, 3) := by decide +kernel
theorem dX10_swaps_9 : decode cX10_swaps 9 = .ok (.aload_n 0, 1) := by decide +kernel
theorem dX10_swaps_10 : decode cX10_swaps 10 = .ok (.aload_n 0, 1) := by decide +kernel
theorem dX10_swaps_11 : decode cX10_swaps 11 = .ok (.iload_n 1, 1) := by decide +kernel
theorem dX10_swaps_12 : decode cX10_swaps 12 = .ok (.iload_n 2, 1) := by decide +kernel
theorem dX10_swaps_13 : decode cX10_swaps 13 = .ok (.iconst (-1), 1) := by decide +kernel
theorem dX10_swaps_14 : decode cX10_swaps 14 = .ok (.invokevirtual 324, 3) := by decide +kernel
theorem dX10_swaps_17 : decode cX10_swaps 17 = .ok (.invokevirtual 204, 3) := by decide +kernel
theorem dX10_swaps_20 : decode cX10_swaps 20 = .ok (.goto 8, 3) := by decide +kernel
theorem dX10_swaps_23 : decode cX10_swaps 23 = .ok (.aload_n 0, 1) := by decide +kernel
theorem dX10_swaps_24 : decode cX10_swaps 24 = .ok (.iconst 1, 1) := by decide +kernel
theorem dX10_swaps_25 : decode cX10_swaps 25 = .ok (.invokevirtual 194, 3) := by decide +kernel
theorem dX10_swaps_28 : decode cX10_swaps 28 = .ok (.ireturn, 1) := by decide +kernel
theorem dX10_swap_0 : decode cX10_swap 0 = .ok (.aload_n 0, 1) := by decide +kernel
theorem dX10_swap_1 : decode cX10_swap 1 = .ok (.iload_n 1, 1) := by decide +kernel
theorem dX10_swap_2 : decode cX10_swap 2 = .ok (.iload_n 2, 1) := by decide +kernel
theorem dX10_swap_3 : decode cX10_swap 3 = .ok (.invokevirtual 321, 3) := by decide +kernel
theorem dX10_swap_6 : decode cX10_swap 6 = .ok (.ifCond .eq 18, 3) := by decide +kernel
theorem dX10_swap_9 : decode cX10_swap 9 = .ok (.iload_n 3, 1) := by decide +kernel
theorem dX10_swap_10 : decode cX10_swap 10 = .ok (.ifCond .lt 14, 3) := by decide +kernel
theorem dX10_swap_13 : decode cX10_swap 13 = .ok (.iload 4, 2) := by decide +kernel
theorem dX10_swap_15 : decode cX10_swap 15 = .ok (.ifCond .lt 9, 3) := by decide +kernel
theorem dX10_swap_18 : decode cX10_swap 18 = .ok (.iload 4, 2) := by decide +kernel
theorem dX10_swap_20 : decode cX10_swap 20 = .ok (.iconst 1, 1) := by decide +kernel
theorem dX10_swap_21 : decode cX10_swap 21 = .ok (.if_icmp .le 9, 3) := by decide +kernel
theorem dX10_swap_24 : decode cX10_swap 24 = .ok (.aload_n 0, 1) := by decide +kernel
theorem dX10_swap_25 : decode cX10_swap 25 = .ok (.iconst 1, 1) := by decide +kernel
theorem dX10_swap_26 : decode cX10_swap 26 = .ok (.invokevirtual 194, 3) := by decide +kernel
theorem dX10_swap_29 : decode cX10_swap 29 = .ok (.ireturn, 1) := by decide +kernel
theorem dX10_swap_30 : decode cX10_swap 30 = .ok (.iload_n 3, 1) := by decide +kernel
theorem dX10_swap_31 : decode cX10_swap 31 = .ok (.aload_n 0, 1) := by decide +kernel
theorem dX10_swap_32 : decode cX10_swap 32 = .ok (.iload_n 1, 1) := by decide +kernel
theorem dX10_swap_33 : decode cX10_swap 33 = .ok (.iload_n 2, 1) := by decide +kernel
theorem dX10_swap_34 : decode cX10_swap 34 = .ok (.iload_n 3, 1) := by decide +kernel
theorem dX10_swap_35 : decode cX10_swap 35 = .ok (.invokevirtual 324, 3) := by decide +kernel
theorem dX10_swap_38 : decode cX10_swap 38 = .ok (.if_icmp .lt 10, 3) := by decide +kernel
theorem dX10_swap_41 : decode cX10_swap 41 = .ok (.aload_n 0, 1) := by decide +kernel
theorem dX10_swap_42 : decode cX10_swap 42 = .ok (.bipush 6, 2) := by decide +kernel
theorem dX10_swap_44 : decode cX10_swap 44 = .ok (.invokevirtual 194, 3) := by decide +kernel
theorem dX10_swap_47 : decode cX10_swap 47 = .ok (.ireturn, 1) := by decide +kernel
theorem dX10_swap_48 : decode cX10_swap 48 = .ok (.aload_n 0, 1) := by decide +kernel
theorem dX10_swap_49 : decode cX10_swap 49 = .ok (.iload 4, 2) := by decide +kernel
theorem dX10_swap_51 : decode cX10_swap 51 = .ok (.ifCond .ne 10, 3) := by decide +kernel
theorem dX10_swap_54 : decode cX10_swap 54 = .ok (.aload_n 0, 1) := by decide +kernel
theorem dX10_swap_55 : decode cX10_swap 55 = .ok (.getfield 315, 3) := by decide +kernel
theorem dX10_swap_58 : decode cX10_swap 58 = .ok (.goto 7, 3) := by decide +kernel
theorem dX10_swap_61 : decode cX10_swap 61 = .ok (.aload_n 0, 1) := by decide +kernel
theorem dX10_swap_62 : decode cX10_swap 62 = .ok (.getfield 318, 3) := by decide +kernel
theorem dX10_swap_65 : decode cX10_swap 65 = .ok (.invokevirtual 204, 3) := by decide +kernel
theorem dX10_swap_68 : decode cX10_swap 68 = .ok (.ireturn, 1) := by decide +kernel
theorem dX10_ring_0 : decode cX10_ring 0 = .ok (.aload_n 0, 1) := by decide +kernel
theorem dX10_ring_1 : decode cX10_ring 1 = .ok (.iload_n 1, 1) := by decide +kernel
theorem dX10_ring_2 : decode cX10_ring 2 = .ok (.iload_n 2, 1) := by decide +kernel
theorem dX10_ring_3 : decode cX10_ring 3 = .ok (.invokevirtual 321, 3) := by decide +kernel
theorem dX10_ring_6 : decode cX10_ring 6 = .ok (.ifCond .eq 32, 3) := by decide +kernel
theorem dX10_ring_9 : decode cX10_ring 9 = .ok (.aload_n 0, 1) := by decide +kernel
theorem dX10_ring_10 : decode cX10_ring 10 = .ok (.iload_n 2, 1) := by decide +kernel
theorem dX10_ring_11 : decode cX10_ring 11 = .ok (.iload_n 3, 1) := by decide +kernel
theorem dX10_ring_12 : decode cX10_ring 12 = .ok (.invokevirtual 321, 3) := by decide +kernel
theorem dX10_ring_15 : decode cX10_ring 15 = .ok (.ifCond .eq 23, 3) := by decide +kernel
theorem dX10_ring_18 : decode cX10_ring 18 = .ok (.aload_n 0, 1) := by decide +kernel
theorem dX10_ring_19 : decode cX10_ring 19 = .ok (.iload_n 1, 1) := by decide +kernel
theorem dX10_ring_20 : decode cX10_ring 20 = .ok (.iload_n 3, 1) := by decide +kernel
theorem dX10_ring_21 : decode cX10_ring 21 = .ok (.invokevirtual 321, 3) := by decide +kernel
theorem dX10_ring_24 : decode cX10_ring 24 = .ok (.ifCond .eq 14, 3) := by decide +kernel
theorem dX10_ring_27 : decode cX10_ring 27 = .ok (.iload 4, 2) := by decide +kernel
theorem dX10_ring_29 : decode cX10_ring 29 = .ok (.ifCond .lt 9, 3) := by decide +kernel
theorem dX10_ring_32 : decode cX10_ring 32 = .ok (.iload 4, 2) := by decide +kernel
theorem dX10_ring_34 : decode cX10_ring 34 = .ok (.iconst 2, 1) := by decide +kernel
theorem dX10_ring_35 : decode cX10_ring 35 = .ok (.if_icmp .le 9, 3) := by decide +kernel
theorem dX10_ring_38 : decode cX10_ring 38 = .ok (.aload_n 0, 1) := by decide +kernel
theorem dX10_ring_39 : decode cX10_ring 39 = .ok (.iconst 1, 1) := by decide +kernel
theorem dX10_ring_40 : decode cX10_ring 40 = .ok (.invokevirtual 194, 3) := by decide +kernel
theorem dX10_ring_43 : decode cX10_ring 43 = .ok (.ireturn, 1) := by decide +kernel
theorem dX10_ring_44 : decode cX10_ring 44 = .ok (.aload_n 0, 1) := by decide +kernel
theorem dX10_ring_45 : decode cX10_ring 45 = .ok (.iload_n 1, 1) := by decide +kernel
theorem dX10_ring_46 : decode cX10_ring 46 = .ok (.invokevirtual 229, 3) := by decide +kernel
theorem dX10_ring_49 : decode cX10_ring 49 = .ok (.istore 5, 2) := by decide +kernel
theorem dX10_ring_51 : decode cX10_ring 51 = .ok (.aload_n 0, 1) := by decide +kernel
theorem dX10_ring_52 : decode cX10_ring 52 = .ok (.iload_n 2, 1) := by decide +kernel
theorem dX10_ring_53 : decode cX10_ring 53 = .ok (.invokevirtual 229, 3) := by decide +kernel
theorem dX10_ring_56 : decode cX10_ring 56 = .ok (.istore 6, 2) := by decide +kernel
theorem dX10_ring_58 : decode cX10_ring 58 = .ok (.aload_n 0, 1) := by decide +kernel
theorem dX10_ring_59 : decode cX10_ring 59 = .ok (.iload_n 3, 1) := by decide +kernel
theorem dX10_ring_60 : decode cX10_ring 60 = .ok (.invokevirtual 229, 3) := by decide +kernel
theorem dX10_ring_63 : decode cX10_ring 63 = .ok (.istore 7, 2) := by decide +kernel
theorem dX10_ring_65 : decode cX10_ring 65 = .ok (.aload_n 0, 1) := by decide +kernel
theorem dX10_ring_66 : decode cX10_ring 66 = .ok (.getfield 7, 3) := by decide +kernel
theorem dX10_ring_69 : decode cX10_ring 69 = .ok (.iconst 0, 1) := by decide +kernel
theorem dX10_ring_70 : decode cX10_ring 70 = .ok (.iaload, 1) := by decide +kernel
theorem dX10_ring_71 : decode cX10_ring 71 = .ok (.istore 8, 2) := by decide +kernel
theorem dX10_ring_73 : decode cX10_ring 73 = .ok (.iconst 0, 1) := by decide +kernel
theorem dX10_ring_74 : decode cX10_ring 74 = .ok (.istore 9, 2) := by decide +kernel
theorem dX10_ring_76 : decode cX10_ring 76 = .ok (.iload 9, 2) := by decide +kernel
theorem dX10_ring_78 : decode cX10_ring 78 = .ok (.iload 8, 2) := by decide +kernel
