theorem dX6_sees_20 : decode cX6_sees 20 = .ok (.lcmp, 1) := by decide +kernel
theorem dX6_sees_21 : decode cX6_sees 21 = .ok (.ifCond .ne 7, 3) := by decide +kernel
theorem dX6_sees_24 : decode cX6_sees 24 = .ok (.iconst 1, 1) := by decide +kernel
theorem dX6_sees_25 : decode cX6_sees 25 = .ok (.goto 4, 3) := by decide +kernel
theorem dX6_sees_28 : decode cX6_sees 28 = .ok (.iconst 0, 1) := by decide +kernel
theorem dX6_sees_29 : decode cX6_sees 29 = .ok (.ireturn, 1) := by decide +kernel
theorem dX6_seesName_0 : decode cX6_seesName 0 = .ok (.aload_n 0, 1) := by decide +kernel
theorem dX6_seesName_1 : decode cX6_seesName 1 = .ok (.getfield 38, 3) := by decide +kernel
theorem dX6_seesName_4 : decode cX6_seesName 4 = .ok (.iconst 1, 1) := by decide +kernel
theorem dX6_seesName_5 : decode cX6_seesName 5 = .ok (.if_icmp .ne 22, 3) := by decide +kernel
theorem dX6_seesName_8 : decode cX6_seesName 8 = .ok (.aload_n 0, 1) := by decide +kernel
theorem dX6_seesName_9 : decode cX6_seesName 9 = .ok (.getstatic 200, 3) := by decide +kernel
theorem dX6_seesName_12 : decode cX6_seesName 12 = .ok (.getstatic 200, 3) := by decide +kernel
theorem dX6_seesName_15 : decode cX6_seesName 15 = .ok (.arraylength, 1) := by decide +kernel
theorem dX6_seesName_16 : decode cX6_seesName 16 = .ok (.invokevirtual 196, 3) := by decide +kernel
theorem dX6_seesName_19 : decode cX6_seesName 19 = .ok (.iconst (-1), 1) := by decide +kernel
theorem dX6_seesName_20 : decode cX6_seesName 20 = .ok (.if_icmp .ne 7, 3) := by decide +kernel
theorem dX6_seesName_23 : decode cX6_seesName 23 = .ok (.iconst 1, 1) := by decide +kernel
theorem dX6_seesName_24 : decode cX6_seesName 24 = .ok (.goto 4, 3) := by decide +kernel
theorem dX6_seesName_27 : decode cX6_seesName 27 = .ok (.iconst 0, 1) := by decide +kernel
theorem dX6_seesName_28 : decode cX6_seesName 28 = .ok (.ireturn, 1) := by decide +kernel
theorem dX6_indexOfWord_0 : decode cX6_indexOfWord 0 = .ok (.iconst 0, 1) := by decide +kernel
theorem dX6_indexOfWord_1 : decode cX6_indexOfWord 1 = .ok (.istore_n 3, 1) := by decide +kernel
theorem dX6_indexOfWord_2 : decode cX6_indexOfWord 2 = .ok (.iload_n 3, 1) := by decide +kernel
theorem dX6_indexOfWord_3 : decode cX6_indexOfWord 3 = .ok (.iload_n 2, 1) := by decide +kernel
theorem dX6_indexOfWord_4 : decode cX6_indexOfWord 4 = .ok (.if_icmp .ge 28, 3) := by decide +kernel
theorem dX6_indexOfWord_7 : decode cX6_indexOfWord 7 = .ok (.iload_n 3, 1) := by decide +kernel
theorem dX6_indexOfWord_8 : decode cX6_indexOfWord 8 = .ok (.aload_n 1, 1) := by decide +kernel
theorem dX6_indexOfWord_9 : decode cX6_indexOfWord 9 = .ok (.arraylength, 1) := by decide +kernel
theorem dX6_indexOfWord_10 : decode cX6_indexOfWord 10 = .ok (.if_icmp .ge 22, 3) := by decide +kernel
theorem dX6_indexOfWord_13 : decode cX6_indexOfWord 13 = .ok (.aload_n 1, 1) := by decide +kernel
theorem dX6_indexOfWord_14 : decode cX6_indexOfWord 14 = .ok (.iload_n 3, 1) := by decide +kernel
theorem dX6_indexOfWord_15 : decode cX6_indexOfWord 15 = .ok (.laload, 1) := by decide +kernel
theorem dX6_indexOfWord_16 : decode cX6_indexOfWord 16 = .ok (.aload_n 0, 1) := by decide +kernel
theorem dX6_indexOfWord_17 : decode cX6_indexOfWord 17 = .ok (.getfield 47, 3) := by decide +kernel
theorem dX6_indexOfWord_20 : decode cX6_indexOfWord 20 = .ok (.lcmp, 1) := by decide +kernel
theorem dX6_indexOfWord_21 : decode cX6_indexOfWord 21 = .ok (.ifCond .ne 5, 3) := by decide +kernel
theorem dX6_indexOfWord_24 : decode cX6_indexOfWord 24 = .ok (.iload_n 3, 1) := by decide +kernel
theorem dX6_indexOfWord_25 : decode cX6_indexOfWord 25 = .ok (.ireturn, 1) := by decide +kernel
theorem dX6_indexOfWord_26 : decode cX6_indexOfWord 26 = .ok (.iinc 3 1, 3) := by decide +kernel
theorem dX6_indexOfWord_29 : decode cX6_indexOfWord 29 = .ok (.goto (-27), 3) := by decide +kernel
theorem dX6_indexOfWord_32 : decode cX6_indexOfWord 32 = .ok (.iconst (-1), 1) := by decide +kernel
theorem dX6_indexOfWord_33 : decode cX6_indexOfWord 33 = .ok (.ireturn, 1) := by decide +kernel
theorem dX6_stop_0 : decode cX6_stop 0 = .ok (.aload_n 0, 1) := by decide +kernel
theorem dX6_stop_1 : decode cX6_stop 1 = .ok (.getfield 26, 3) := by decide +kernel
theorem dX6_stop_4 : decode cX6_stop 4 = .ok (.ifCond .ne 28, 3) := by decide +kernel
theorem dX6_stop_7 : decode cX6_stop 7 = .ok (.aload_n 0, 1) := by decide +kernel
theorem dX6_stop_8 : decode cX6_stop 8 = .ok (.aload_n 0, 1) := by decide +kernel
theorem dX6_stop_9 : decode cX6_stop 9 = .ok (.getfield 38, 3) := by decide +kernel
theorem dX6_stop_12 : decode cX6_stop 12 = .ok (.iconst 4, 1) := by decide +kernel
theorem dX6_stop_13 : decode cX6_stop 13 = .ok (.if_icmp .ne 7, 3) := by decide +kernel
theorem dX6_stop_16 : decode cX6_stop 16 = .ok (.iconst 1, 1) := by decide +kernel
theorem dX6_stop_17 : decode cX6_stop 17 = .ok (.goto 4, 3) := by decide +kernel
theorem dX6_stop_20 : decode cX6_stop 20 = .ok (.iload_n 1, 1) := by decide +kernel
theorem dX6_stop_21 : decode cX6_stop 21 = .ok (.putfield 26, 3) := by decide +kernel
theorem dX6_stop_24 : decode cX6_stop 24 = .ok (.aload_n 0, 1) := by decide +kernel
theorem dX6_stop_25 : decode cX6_stop 25 = .ok (.aload_n 0, 1) := by decide +kernel
theorem dX6_stop_26 : decode cX6_stop 26 = .ok (.getfield 41, 3) := by decide +kernel
theorem dX6_stop_29 : decode cX6_stop 29 = .ok (.putfield 29, 3) := by decide +kernel
theorem dX6_stop_32 : decode cX6_stop 32 = .ok (.return_, 1) := by decide +kernel
theorem dX6_step_0 : decode cX6_step 0 = .ok (.aload_n 0, 1) := by decide +kernel
theorem dX6_step_1 : decode cX6_step 1 = .ok (.getfield 26, 3) := by decide +kernel
theorem dX6_step_4 : decode cX6_step 4 = .ok (.ifCond .eq 4, 3) := by decide +kernel
theorem dX6_step_7 : decode cX6_step 7 = .ok (.return_, 1) := by decide +kernel
theorem dX6_step_8 : decode cX6_step 8 = .ok (.aload_n 0, 1) := by decide +kernel
theorem dX6_step_9 : decode cX6_step 9 = .ok (.getfield 35, 3) := by decide +kernel
theorem dX6_step_12 : decode cX6_step 12 = .ok (.aload_n 0, 1) := by decide +kernel
theorem dX6_step_13 : decode cX6_step 13 = .ok (.getfield 32, 3) := by decide +kernel
theorem dX6_step_16 : decode cX6_step 16 = .ok (.if_icmp .ge 44, 3) := by decide +kernel
theorem dX6_step_19 : decode cX6_step 19 = .ok (.aload_n 0, 1) := by decide +kernel
theorem dX6_step_20 : decode cX6_step 20 = .ok (.getfield 9, 3) := by decide +kernel
theorem dX6_step_23 : decode cX6_step 23 = .ok (.aload_n 0, 1) := by decide +kernel
theorem dX6_step_24 : decode cX6_step 24 = .ok (.getfield 35, 3) := by decide +kernel
theorem dX6_step_27 : decode cX6_step 27 = .ok (.baload, 1) := by decide +kernel
theorem dX6_step_28 : decode cX6_step 28 = .ok (.bipush 10, 2) := by decide +kernel
theorem dX6_step_30 : decode cX6_step 30 = .ok (.if_icmp .eq 17, 3) := by decide +kernel
theorem dX6_step_33 : decode cX6_step 33 = .ok (.aload_n 0, 1) := by decide +kernel
theorem dX6_step_34 : decode cX6_step 34 = .ok (.getfield 9, 3) := by decide +kernel
theorem dX6_step_37 : decode cX6_step 37 = .ok (.aload_n 0, 1) := by decide +kernel
theorem dX6_step_38 : decode cX6_step 38 = .ok (.getfield 35, 3) := by decide +kernel
theorem dX6_step_41 : decode cX6_step 41 = .ok (.baload, 1) := by decide +kernel
theorem dX6_step_42 : decode cX6_step 42 = .ok (.bipush 32, 2) := by decide +kernel
theorem dX6_step_44 : decode cX6_step 44 = .ok (.if_icmp .ne 16, 3) := by decide +kernel
theorem dX6_step_47 : decode cX6_step 47 = .ok (.aload_n 0, 1) := by decide +kernel
theorem dX6_step_48 : decode cX6_step 48 = .ok (.dup, 1) := by decide +kernel
theorem dX6_step_49 : decode cX6_step 49 = .ok (.getfield 35, 3) := by decide +kernel
theorem dX6_step_52 : decode cX6_step 52 = .ok (.iconst 1, 1) := by decide +kernel
theorem dX6_step_53 : decode cX6_step 53 = .ok (.iadd, 1) := by decide +kernel
theorem dX6_step_54 : decode cX6_step 54 = .ok (.putfield 35, 3) := by decide +kernel
theorem dX6_step_57 : decode cX6_step 57 = .ok (.goto (-49), 3) := by decide +kernel
theorem dX6_step_60 : decode cX6_step 60 = .ok (.aload_n 0, 1) := by decide +kernel
theorem dX6_step_61 : decode cX6_step 61 = .ok (.aload_n 0, 1) := by decide +kernel
theorem dX6_step_62 : decode cX6_step 62 = .ok (.getfield 35, 3) := by decide +kernel
theorem dX6_step_65 : decode cX6_step 65 = .ok (.putfield 41, 3) := by decide +kernel
theorem dX6_step_68 : decode cX6_step 68 = .ok (.aload_n 0, 1) := by decide +kernel
theorem dX6_step_69 : decode cX6_step 69 = .ok (.getfield 35, 3) := by decide +kernel
theorem dX6_step_72 : decode cX6_step 72 = .ok (.aload_n 0, 1) := by decide +kernel
theorem dX6_step_73 : decode cX6_step 73 = .ok (.getfield 32, 3) := by decide +kernel
theorem dX6_step_76 : decode cX6_step 76 = .ok (.if_icmp .lt 11, 3) := by decide +kernel
theorem dX6_step_79 : decode cX6_step 79 = .ok (.aload_n 0, 1) := by decide +kernel
theorem dX6_step_80 : decode cX6_step 80 = .ok (.iconst 0, 1) := by decide +kernel
theorem dX6_step_81 : decode cX6_step 81 = .ok (.putfield 38, 3) := by decide +kernel
theorem dX6_step_84 : decode cX6_step 84 = .ok (.goto 84, 3) := by decide +kernel
theorem dX6_step_87 : decode cX6_step 87 = .ok (.aload_n 0, 1) := by decide +kernel
theorem dX6_step_88 : decode cX6_step 88 = .ok (.getfield 9, 3) := by decide +kernel
theorem dX6_step_91 : decode cX6_step 91 = .ok (.aload_n 0, 1) := by decide +kernel
theorem dX6_step_92 : decode cX6_step 92 = .ok (.getfield 35, 3) := by decide +kernel
theorem dX6_step_95 : decode cX6_step 95 = .ok (.baload, 1) := by decide +kernel
theorem dX6_step_96 : decode cX6_step 96 = .ok (.invokestatic 203, 3) := by decide +kernel
theorem dX6_step_99 : decode cX6_step 99 = .ok (.ifCond .eq 10, 3) := by decide +kernel
theorem dX6_step_102 : decode cX6_step 102 = .ok (.aload_n 0, 1) := by decide +kernel
theorem dX6_step_103 : decode cX6_step 103 = .ok (.invokevirtual 207, 3) := by decide +kernel
theorem dX6_step_106 : decode cX6_step 106 = .ok (.goto 62, 3) := by decide +kernel
theorem dX6_step_109 : decode cX6_step 109 = .ok (.aload_n 0, 1) := by decide +kernel
theorem dX6_step_110 : decode cX6_step 110 = .ok (.getfield 9, 3) := by decide +kernel
theorem dX6_step_113 : decode cX6_step 113 = .ok (.aload_n 0, 1) := by decide +kernel
theorem dX6_step_114 : decode cX6_step 114 = .ok (.getfield 35, 3) := by decide +kernel
theorem dX6_step_117 : decode cX6_step 117 = .ok (.baload, 1) := by decide +kernel
theorem dX6_step_118 : decode cX6_step 118 = .ok (.invokestatic 210, 3) := by decide +kernel
theorem dX6_step_121 : decode cX6_step 121 = .ok (.ifCond .eq 10, 3) := by decide +kernel
theorem dX6_step_124 : decode cX6_step 124 = .ok (.aload_n 0, 1) := by decide +kernel
theorem dX6_step_125 : decode cX6_step 125 = .ok (.invokevirtual 213, 3) := by decide +kernel
theorem dX6_step_128 : decode cX6_step 128 = .ok (.goto 40, 3) := by decide +kernel
theorem dX6_step_131 : decode cX6_step 131 = .ok (.aload_n 0, 1) := by decide +kernel
theorem dX6_step_132 : decode cX6_step 132 = .ok (.getfield 9, 3) := by decide +kernel
theorem dX6_step_135 : decode cX6_step 135 = .ok (.aload_n 0, 1) := by decide +kernel
theorem dX6_step_136 : decode cX6_step 136 = .ok (.getfield 35, 3) := by decide +kernel
theorem dX6_step_139 : decode cX6_step 139 = .ok (.baload, 1) := by decide +kernel
theorem dX6_step_140 : decode cX6_step 140 = .ok (.bipush 59, 2) := by decide +kernel
theorem dX6_step_142 : decode cX6_step 142 = .ok (.if_icmp .ne 21, 3) := by decide +kernel
theorem dX6_step_145 : decode cX6_step 145 = .ok (.aload_n 0, 1) := by decide +kernel
theorem dX6_step_146 : decode cX6_step 146 = .ok (.iconst 3, 1) := by decide +kernel
theorem dX6_step_147 : decode cX6_step 147 = .ok (.putfield 38, 3) := by decide +kernel
theorem dX6_step_150 : decode cX6_step 150 = .ok (.aload_n 0, 1) := by decide +kernel
theorem dX6_step_151 : decode cX6_step 151 = .ok (.dup, 1) := by decide +kernel
theorem dX6_step_152 : decode cX6_step 152 = .ok (.getfield 35, 3) := by decide +kernel
theorem dX6_step_155 : decode cX6_step 155 = .ok (.iconst 1, 1) := by decide +kernel
theorem dX6_step_156 : decode cX6_step 156 = .ok (.iadd, 1) := by decide +kernel
theorem dX6_step_157 : decode cX6_step 157 = .ok (.putfield 35, 3) := by decide +kernel
theorem dX6_step_160 : decode cX6_step 160 = .ok (.goto 8, 3) := by decide +kernel
theorem dX6_step_163 : decode cX6_step 163 = .ok (.aload_n 0, 1) := by decide +kernel
theorem dX6_step_164 : decode cX6_step 164 = .ok (.iconst 4, 1) := by decide +kernel
theorem dX6_step_165 : decode cX6_step 165 = .ok (.putfield 38, 3) := by decide +kernel
theorem dX6_step_168 : decode cX6_step 168 = .ok (.return_, 1) := by decide +kernel
theorem dX6_scanWord_0 : decode cX6_scanWord 0 = .ok (.aload_n 0, 1) := by decide +kernel
theorem dX6_scanWord_1 : decode cX6_scanWord 1 = .ok (.iconst 1, 1) := by decide +kernel
theorem dX6_scanWord_2 : decode cX6_scanWord 2 = .ok (.putfield 38, 3) := by decide +kernel
theorem dX6_scanWord_5 : decode cX6_scanWord 5 = .ok (.aload_n 0, 1) := by decide +kernel
theorem dX6_scanWord_6 : decode cX6_scanWord 6 = .ok (.lconst 0, 1) := by decide +kernel
theorem dX6_scanWord_7 : decode cX6_scanWord 7 = .ok (.putfield 47, 3) := by decide +kernel
theorem dX6_scanWord_10 : decode cX6_scanWord 10 = .ok (.aload_n 0, 1) := by decide +kernel
theorem dX6_scanWord_11 : decode cX6_scanWord 11 = .ok (.getfield 35, 3) := by decide +kernel
theorem dX6_scanWord_14 : decode cX6_scanWord 14 = .ok (.aload_n 0, 1) := by decide +kernel
theorem dX6_scanWord_15 : decode cX6_scanWord 15 = .ok (.getfield 32, 3) := by decide +kernel
theorem dX6_scanWord_18 : decode cX6_scanWord 18 = .ok (.if_icmp .ge 53, 3) := by decide +kernel
theorem dX6_scanWord_21 : decode cX6_scanWord 21 = .ok (.aload_n 0, 1) := by decide +kernel
theorem dX6_scanWord_22 : decode cX6_scanWord 22 = .ok (.getfield 9, 3) := by decide +kernel
theorem dX6_scanWord_25 : decode cX6_scanWord 25 = .ok (.aload_n 0, 1) := by decide +kernel
theorem dX6_scanWord_26 : decode cX6_scanWord 26 = .ok (.getfield 35, 3) := by decide +kernel
theorem dX6_scanWord_29 : decode cX6_scanWord 29 = .ok (.baload, 1) := by decide +kernel
theorem dX6_scanWord_30 : decode cX6_scanWord 30 = .ok (.invokestatic 203, 3) := by decide +kernel
theorem dX6_scanWord_33 : decode cX6_scanWord 33 = .ok (.ifCond .eq 38, 3) := by decide +kernel
theorem dX6_scanWord_36 : decode cX6_scanWord 36 = .ok (.aload_n 0, 1) := by decide +kernel
theorem dX6_scanWord_37 : decode cX6_scanWord 37 = .ok (.aload_n 0, 1) := by decide +kernel
theorem dX6_scanWord_38 : decode cX6_scanWord 38 = .ok (.getfield 47, 3) := by decide +kernel
theorem dX6_scanWord_41 : decode cX6_scanWord 41 = .ok (.bipush 8, 2) := by decide +kernel
theorem dX6_scanWord_43 : decode cX6_scanWord 43 = .ok (.lshl, 1) := by decide +kernel
theorem dX6_scanWord_44 : decode cX6_scanWord 44 = .ok (.aload_n 0, 1) := by decide +kernel
theorem dX6_scanWord_45 : decode cX6_scanWord 45 = .ok (.getfield 9, 3) := by decide +kernel
theorem dX6_scanWord_48 : decode cX6_scanWord 48 = .ok (.aload_n 0, 1) := by decide +kernel
theorem dX6_scanWord_49 : decode cX6_scanWord 49 = .ok (.getfield 35, 3) := by decide +kernel
theorem dX6_scanWord_52 : decode cX6_scanWord 52 = .ok (.baload, 1) := by decide +kernel
theorem dX6_scanWord_53 : decode cX6_scanWord 53 = .ok (.i2l, 1) := by decide +kernel
theorem dX6_scanWord_54 : decode cX6_scanWord 54 = .ok (.lor, 1) := by decide +kernel
theorem dX6_scanWord_55 : decode cX6_scanWord 55 = .ok (.putfield 47, 3) := by decide +kernel
theorem dX6_scanWord_58 : decode cX6_scanWord 58 = .ok (.aload_n 0, 1) := by decide +kernel
theorem dX6_scanWord_59 : decode cX6_scanWord 59 = .ok (.dup, 1) := by decide +kernel
theorem dX6_scanWord_60 : decode cX6_scanWord 60 = .ok (.getfield 35, 3) := by decide +kernel
theorem dX6_scanWord_63 : decode cX6_scanWord 63 = .ok (.iconst 1, 1) := by decide +kernel
theorem dX6_scanWord_64 : decode cX6_scanWord 64 = .ok (.iadd, 1) := by decide +kernel
theorem dX6_scanWord_65 : decode cX6_scanWord 65 = .ok (.putfield 35, 3) := by decide +kernel
theorem dX6_scanWord_68 : decode cX6_scanWord 68 = .ok (.goto (-58), 3) := by decide +kernel
theorem dX6_scanWord_71 : decode cX6_scanWord 71 = .ok (.aload_n 0, 1) := by decide +kernel
theorem dX6_scanWord_72 : decode cX6_scanWord 72 = .ok (.getfield 35, 3) := by decide +kernel
theorem dX6_scanWord_75 : decode cX6_scanWord 75 = .ok (.aload_n 0, 1) := by decide +kernel
theorem dX6_scanWord_76 : decode cX6_scanWord 76 = .ok (.getfield 41, 3) := by decide +kernel
theorem dX6_scanWord_79 : decode cX6_scanWord 79 = .ok (.isub, 1) := by decide +kernel
theorem dX6_scanWord_80 : decode cX6_scanWord 80 = .ok (.bipush 8, 2) := by decide +kernel
theorem dX6_scanWord_82 : decode cX6_scanWord 82 = .ok (.if_icmp .le 8, 3) := by decide +kernel
theorem dX6_scanWord_85 : decode cX6_scanWord 85 = .ok (.aload_n 0, 1) := by decide +kernel
theorem dX6_scanWord_86 : decode cX6_scanWord 86 = .ok (.lconst 0, 1) := by decide +kernel
theorem dX6_scanWord_87 : decode cX6_scanWord 87 = .ok (.putfield 47, 3) := by decide +kernel
theorem dX6_scanWord_90 : decode cX6_scanWord 90 = .ok (.return_, 1) := by decide +kernel
theorem dX6_scanNumber_0 : decode cX6_scanNumber 0 = .ok (.aload_n 0, 1) := by decide +kernel
theorem dX6_scanNumber_1 : decode cX6_scanNumber 1 = .ok (.iconst 0, 1) := by decide +kernel
theorem dX6_scanNumber_2 : decode cX6_scanNumber 2 = .ok (.putfield 44, 3) := by decide +kernel
theorem dX6_scanNumber_5 : decode cX6_scanNumber 5 = .ok (.aload_n 0, 1) := by decide +kernel
theorem dX6_scanNumber_6 : decode cX6_scanNumber 6 = .ok (.getfield 35, 3) := by decide +kernel
theorem dX6_scanNumber_9 : decode cX6_scanNumber 9 = .ok (.aload_n 0, 1) := by decide +kernel
theorem dX6_scanNumber_10 : decode cX6_scanNumber 10 = .ok (.getfield 32, 3) := by decide +kernel
theorem dX6_scanNumber_13 : decode cX6_scanNumber 13 = .ok (.if_icmp .ge 55, 3) := by decide +kernel
theorem dX6_scanNumber_16 : decode cX6_scanNumber 16 = .ok (.aload_n 0, 1) := by decide +kernel
theorem dX6_scanNumber_17 : decode cX6_scanNumber 17 = .ok (.getfield 9, 3) := by decide +kernel
theorem dX6_scanNumber_20 : decode cX6_scanNumber 20 = .ok (.aload_n 0, 1) := by decide +kernel
theorem dX6_scanNumber_21 : decode cX6_scanNumber 21 = .ok (.getfield 35, 3) := by decide +kernel
theorem dX6_scanNumber_24 : decode cX6_scanNumber 24 = .ok (.baload, 1) := by decide +kernel
theorem dX6_scanNumber_25 : decode cX6_scanNumber 25 = .ok (.invokestatic 210, 3) := by decide +kernel
theorem dX6_scanNumber_28 : decode cX6_scanNumber 28 = .ok (.ifCond .eq 40, 3) := by decide +kernel
theorem dX6_scanNumber_31 : decode cX6_scanNumber 31 = .ok (.aload_n 0, 1) := by decide +kernel
theorem dX6_scanNumber_32 : decode cX6_scanNumber 32 = .ok (.aload_n 0, 1) := by decide +kernel
theorem dX6_scanNumber_33 : decode cX6_scanNumber 33 = .ok (.getfield 44, 3) := by decide +kernel
theorem dX6_scanNumber_36 : decode cX6_scanNumber 36 = .ok (.bipush 10, 2) := by decide +kernel
theorem dX6_scanNumber_38 : decode cX6_scanNumber 38 = .ok (.imul, 1) := by decide +kernel
theorem dX6_scanNumber_39 : decode cX6_scanNumber 39 = .ok (.aload_n 0, 1) := by decide +kernel
theorem dX6_scanNumber_40 : decode cX6_scanNumber 40 = .ok (.getfield 9, 3) := by decide +kernel
theorem dX6_scanNumber_43 : decode cX6_scanNumber 43 = .ok (.aload_n 0, 1) := by decide +kernel
theorem dX6_scanNumber_44 : decode cX6_scanNumber 44 = .ok (.getfield 35, 3) := by decide +kernel
theorem dX6_scanNumber_47 : decode cX6_scanNumber 47 = .ok (.baload, 1) := by decide +kernel
theorem dX6_scanNumber_48 : decode cX6_scanNumber 48 = .ok (.bipush 48, 2) := by decide +kernel
theorem dX6_scanNumber_50 : decode cX6_scanNumber 50 = .ok (.isub, 1) := by decide +kernel
theorem dX6_scanNumber_51 : decode cX6_scanNumber 51 = .ok (.iadd, 1) := by decide +kernel
theorem dX6_scanNumber_52 : decode cX6_scanNumber 52 = .ok (.putfield 44, 3) := by decide +kernel
theorem dX6_scanNumber_55 : decode cX6_scanNumber 55 = .ok (.aload_n 0, 1) := by decide +kernel
theorem dX6_scanNumber_56 : decode cX6_scanNumber 56 = .ok (.dup, 1) := by decide +kernel
theorem dX6_scanNumber_57 : decode cX6_scanNumber 57 = .ok (.getfield 35, 3) := by decide +kernel
theorem dX6_scanNumber_60 : decode cX6_scanNumber 60 = .ok (.iconst 1, 1) := by decide +kernel
theorem dX6_scanNumber_61 : decode cX6_scanNumber 61 = .ok (.iadd, 1) := by decide +kernel
theorem dX6_scanNumber_62 : decode cX6_scanNumber 62 = .ok (.putfield 35, 3) := by decide +kernel
theorem dX6_scanNumber_65 : decode cX6_scanNumber 65 = .ok (.goto (-60), 3) := by decide +kernel
theorem dX6_scanNumber_68 : decode cX6_scanNumber 68 = .ok (.aload_n 0, 1) := by decide +kernel
theorem dX6_scanNumber_69 : decode cX6_scanNumber 69 = .ok (.aload_n 0, 1) := by decide +kernel
theorem dX6_scanNumber_70 : decode cX6_scanNumber 70 = .ok (.getfield 35, 3) := by decide +kernel
theorem dX6_scanNumber_73 : decode cX6_scanNumber 73 = .ok (.aload_n 0, 1) := by decide +kernel
theorem dX6_scanNumber_74 : decode cX6_scanNumber 74 = .ok (.getfield 41, 3) := by decide +kernel
theorem dX6_scanNumber_77 : decode cX6_scanNumber 77 = .ok (.isub, 1) := by decide +kernel
theorem dX6_scanNumber_78 : decode cX6_scanNumber 78 = .ok (.iconst 2, 1) := by decide +kernel
theorem dX6_scanNumber_79 : decode cX6_scanNumber 79 = .ok (.if_icmp .gt 7, 3) := by decide +kernel
theorem dX6_scanNumber_82 : decode cX6_scanNumber 82 = .ok (.iconst 2, 1) := by decide +kernel
theorem dX6_scanNumber_83 : decode cX6_scanNumber 83 = .ok (.goto 4, 3) := by decide +kernel
theorem dX6_scanNumber_86 : decode cX6_scanNumber 86 = .ok (.iconst 4, 1) := by decide +kernel
theorem dX6_scanNumber_87 : decode cX6_scanNumber 87 = .ok (.putfield 38, 3) := by decide +kernel
theorem dX6_scanNumber_90 : decode cX6_scanNumber 90 = .ok (.return_, 1) := by decide +kernel
theorem dX6_isLetter_0 : decode cX6_isLetter 0 = .ok (.iload_n 0, 1) := by decide +kernel
theorem dX6_isLetter_1 : decode cX6_isLetter 1 = .ok (.bipush 97, 2) := by decide +kernel
theorem dX6_isLetter_3 : decode cX6_isLetter 3 = .ok (.if_icmp .lt 13, 3) := by decide +kernel
theorem dX6_isLetter_6 : decode cX6_isLetter 6 = .ok (.iload_n 0, 1) := by decide +kernel
theorem dX6_isLetter_7 : decode cX6_isLetter 7 = .ok (.bipush 122, 2) := by decide +kernel
theorem dX6_isLetter_9 : decode cX6_isLetter 9 = .ok (.if_icmp .gt 7, 3) := by decide +kernel
theorem dX6_isLetter_12 : decode cX6_isLetter 12 = .ok (.iconst 1, 1) := by decide +kernel
theorem dX6_isLetter_13 : decode cX6_isLetter 13 = .ok (.goto 4, 3) := by decide +kernel
theorem dX6_isLetter_16 : decode cX6_isLetter 16 = .ok (.iconst 0, 1) := by decide +kernel
theorem dX6_isLetter_17 : decode cX6_isLetter 17 = .ok (.ireturn, 1) := by decide +kernel
theorem dX6_isDigit_0 : decode cX6_isDigit 0 = .ok (.iload_n 0, 1) := by decide +kernel
theorem dX6_isDigit_1 : decode cX6_isDigit 1 = .ok (.bipush 48, 2) := by decide +kernel
theorem dX6_isDigit_3 : decode cX6_isDigit 3 = .ok (.if_icmp .lt 13, 3) := by decide +kernel
theorem dX6_isDigit_6 : decode cX6_isDigit 6 = .ok (.iload_n 0, 1) := by decide +kernel
theorem dX6_isDigit_7 : decode cX6_isDigit 7 = .ok (.bipush 57, 2) := by decide +kernel
theorem dX6_isDigit_9 : decode cX6_isDigit 9 = .ok (.if_icmp .gt 7, 3) := by decide +kernel
theorem dX6_isDigit_12 : decode cX6_isDigit 12 = .ok (.iconst 1, 1) := by decide +kernel
theorem dX6_isDigit_13 : decode cX6_isDigit 13 = .ok (.goto 4, 3) := by decide +kernel
theorem dX6_isDigit_16 : decode cX6_isDigit 16 = .ok (.iconst 0, 1) := by decide +kernel
theorem dX6_isDigit_17 : decode cX6_isDigit 17 = .ok (.ireturn, 1) := by decide +kernel
theorem dX7_init_0 : decode cX7_init 0 = .ok (.aload_n 0, 1) := by decide +kernel
theorem dX7_init_1 : decode cX7_init 1 = .ok (.invokespecial 3, 3) := by decide +kernel
theorem dX7_init_4 : decode cX7_init 4 = .ok (.aload_n 0, 1) := by decide +kernel
theorem dX7_init_5 : decode cX7_init 5 = .ok (.iconst 4, 1) := by decide +kernel
theorem dX7_init_6 : decode cX7_init 6 = .ok (.bipush 60, 2) := by decide +kernel
theorem dX7_init_8 : decode cX7_init 8 = .ok (.multianewarray 9 2, 4) := by decide +kernel
theorem dX7_init_12 : decode cX7_init 12 = .ok (.putfield 11, 3) := by decide +kernel
theorem dX7_init_15 : decode cX7_init 15 = .ok (.aload_n 0, 1) := by decide +kernel
theorem dX7_init_16 : decode cX7_init 16 = .ok (.iconst 4, 1) := by decide +kernel
theorem dX7_init_17 : decode cX7_init 17 = .ok (.newarray .int, 2) := by decide +kernel
theorem dX7_init_19 : decode cX7_init 19 = .ok (.putfield 16, 3) := by decide +kernel
theorem dX7_init_22 : decode cX7_init 22 = .ok (.aload_n 0, 1) := by decide +kernel
theorem dX7_init_23 : decode cX7_init 23 = .ok (.iconst 4, 1) := by decide +kernel
theorem dX7_init_24 : decode cX7_init 24 = .ok (.newarray .int, 2) := by decide +kernel
theorem dX7_init_26 : decode cX7_init 26 = .ok (.dup, 1) := by decide +kernel
theorem dX7_init_27 : decode cX7_init 27 = .ok (.iconst 0, 1) := by decide +kernel
theorem dX7_init_28 : decode cX7_init 28 = .ok (.iconst (-1), 1) := by decide +kernel
theorem dX7_init_29 : decode cX7_init 29 = .ok (.iastore, 1) := by decide +kernel
theorem dX7_init_30 : decode cX7_init 30 = .ok (.dup, 1) := by decide +kernel
theorem dX7_init_31 : decode cX7_init 31 = .ok (.iconst 1, 1) := by decide +kernel
theorem dX7_init_32 : decode cX7_init 32 = .ok (.iconst (-1), 1) := by decide +kernel
theorem dX7_init_33 : decode cX7_init 33 = .ok (.iastore, 1) := by decide +kernel
theorem dX7_init_34 : decode cX7_init 34 = .ok (.dup, 1) := by decide +kernel
theorem dX7_init_35 : decode cX7_init 35 = .ok (.iconst 2, 1) := by decide +kernel
theorem dX7_init_36 : decode cX7_init 36 = .ok (.iconst (-1), 1) := by decide +kernel
theorem dX7_init_37 : decode cX7_init 37 = .ok (.iastore, 1) := by decide +kernel
theorem dX7_init_38 : decode cX7_init 38 = .ok (.dup, 1) := by decide +kernel
theorem dX7_init_39 : decode cX7_init 39 = .ok (.iconst 3, 1) := by decide +kernel
theorem dX7_init_40 : decode cX7_init 40 = .ok (.iconst (-1), 1) := by decide +kernel
theorem dX7_init_41 : decode cX7_init 41 = .ok (.iastore, 1) := by decide +kernel
theorem dX7_init_42 : decode cX7_init 42 = .ok (.putfield 20, 3) := by decide +kernel
theorem dX7_init_45 : decode cX7_init 45 = .ok (.return_, 1) := by decide +kernel
theorem dX7_isMissing_0 : decode cX7_isMissing 0 = .ok (.aload_n 0, 1) := by decide +kernel
theorem dX7_isMissing_1 : decode cX7_isMissing 1 = .ok (.getfield 20, 3) := by decide +kernel
theorem dX7_isMissing_4 : decode cX7_isMissing 4 = .ok (.iload_n 1, 1) := by decide +kernel
theorem dX7_isMissing_5 : decode cX7_isMissing 5 = .ok (.iaload, 1) := by decide +kernel
theorem dX7_isMissing_6 : decode cX7_isMissing 6 = .ok (.iconst (-1), 1) := by decide +kernel
theorem dX7_isMissing_7 : decode cX7_isMissing 7 = .ok (.if_icmp .ne 7, 3) := by decide +kernel
theorem dX7_isMissing_10 : decode cX7_isMissing 10 = .ok (.iconst 1, 1) := by decide +kernel
theorem dX7_isMissing_11 : decode cX7_isMissing 11 = .ok (.goto 4, 3) := by decide +kernel
theorem dX7_isMissing_14 : decode cX7_isMissing 14 = .ok (.iconst 0, 1) := by decide +kernel
theorem dX7_isMissing_15 : decode cX7_isMissing 15 = .ok (.ireturn, 1) := by decide +kernel
theorem dX7_reaches_0 : decode cX7_reaches 0 = .ok (.iload_n 2, 1) := by decide +kernel
theorem dX7_reaches_1 : decode cX7_reaches 1 = .ok (.i2l, 1) := by decide +kernel
theorem dX7_reaches_2 : decode cX7_reaches 2 = .ok (.iload_n 3, 1) := by decide +kernel
theorem dX7_reaches_3 : decode cX7_reaches 3 = .ok (.i2l, 1) := by decide +kernel
theorem dX7_reaches_4 : decode cX7_reaches 4 = .ok (.ladd, 1) := by decide +kernel
theorem dX7_reaches_5 : decode cX7_reaches 5 = .ok (.aload_n 0, 1) := by decide +kernel
theorem dX7_reaches_6 : decode cX7_reaches 6 = .ok (.getfield 20, 3) := by decide +kernel
theorem dX7_reaches_9 : decode cX7_reaches 9 = .ok (.iload_n 1, 1) := by decide +kernel
theorem dX7_reaches_10 : decode cX7_reaches 10 = .ok (.iaload, 1) := by decide +kernel
theorem dX7_reaches_11 : decode cX7_reaches 11 = .ok (.i2l, 1) := by decide +kernel
theorem dX7_reaches_12 : decode cX7_reaches 12 = .ok (.lcmp, 1) := by decide +kernel
theorem dX7_reaches_13 : decode cX7_reaches 13 = .ok (.ifCond .gt 7, 3) := by decide +kernel
theorem dX7_reaches_16 : decode cX7_reaches 16 = .ok (.iconst 1, 1) := by decide +kernel
theorem dX7_reaches_17 : decode cX7_reaches 17 = .ok (.goto 4, 3) := by decide +kernel
theorem dX7_reaches_20 : decode cX7_reaches 20 = .ok (.iconst 0, 1) := by decide +kernel
theorem dX7_reaches_21 : decode cX7_reaches 21 = .ok (.ireturn, 1) := by decide +kernel
theorem dX7_lay_0 : decode cX7_lay 0 = .ok (.aload_n 0, 1) := by decide +kernel
theorem dX7_lay_1 : decode cX7_lay 1 = .ok (.getfield 16, 3) := by decide +kernel
theorem dX7_lay_4 : decode cX7_lay 4 = .ok (.iload_n 1, 1) := by decide +kernel
theorem dX7_lay_5 : decode cX7_lay 5 = .ok (.iload_n 2, 1) := by decide +kernel
theorem dX7_lay_6 : decode cX7_lay 6 = .ok (.iastore, 1) := by decide +kernel
theorem dX7_lay_7 : decode cX7_lay 7 = .ok (.aload_n 0, 1) := by decide +kernel
theorem dX7_lay_8 : decode cX7_lay 8 = .ok (.getfield 20, 3) := by decide +kernel
theorem dX7_lay_11 : decode cX7_lay 11 = .ok (.iload_n 1, 1) := by decide +kernel
theorem dX7_lay_12 : decode cX7_lay 12 = .ok (.iload_n 3, 1) := by decide +kernel
theorem dX7_lay_13 : decode cX7_lay 13 = .ok (.iastore, 1) := by decide +kernel
theorem dX7_lay_14 : decode cX7_lay 14 = .ok (.iconst 0, 1) := by decide +kernel
theorem dX7_lay_15 : decode cX7_lay 15 = .ok (.istore 4, 2) := by decide +kernel
theorem dX7_lay_17 : decode cX7_lay 17 = .ok (.iload 4, 2) := by decide +kernel
theorem dX7_lay_19 : decode cX7_lay 19 = .ok (.bipush 60, 2) := by decide +kernel
theorem dX7_lay_21 : decode cX7_lay 21 = .ok (.if_icmp .ge 19, 3) := by decide +kernel
theorem dX7_lay_24 : decode cX7_lay 24 = .ok (.aload_n 0, 1) := by decide +kernel
theorem dX7_lay_25 : decode cX7_lay 25 = .ok (.getfield 11, 3) := by decide +kernel
theorem dX7_lay_28 : decode cX7_lay 28 = .ok (.iload_n 1, 1) := by decide +kernel
theorem dX7_lay_29 : decode cX7_lay 29 = .ok (.aaload, 1) := by decide +kernel
theorem dX7_lay_30 : decode cX7_lay 30 = .ok (.iload 4, 2) := by decide +kernel
theorem dX7_lay_32 : decode cX7_lay 32 = .ok (.lconst 0, 1) := by decide +kernel
theorem dX7_lay_33 : decode cX7_lay 33 = .ok (.lastore, 1) := by decide +kernel
theorem dX7_lay_34 : decode cX7_lay 34 = .ok (.iinc 4 1, 3) := by decide +kernel
theorem dX7_lay_37 : decode cX7_lay 37 = .ok (.goto (-20), 3) := by decide +kernel
theorem dX7_lay_40 : decode cX7_lay 40 = .ok (.return_, 1) := by decide +kernel
theorem dX7_put_0 : decode cX7_put 0 = .ok (.aload_n 0, 1) := by decide +kernel
theorem dX7_put_1 : decode cX7_put 1 = .ok (.getfield 11, 3) := by decide +kernel
theorem dX7_put_4 : decode cX7_put 4 = .ok (.iload_n 1, 1) := by decide +kernel
theorem dX7_put_5 : decode cX7_put 5 = .ok (.aaload, 1) := by decide +kernel
theorem dX7_put_6 : decode cX7_put 6 = .ok (.iload_n 2, 1) := by decide +kernel
theorem dX7_put_7 : decode cX7_put 7 = .ok (.lload_n 3, 1) := by decide +kernel
theorem dX7_put_8 : decode cX7_put 8 = .ok (.aload_n 0, 1) := by decide +kernel
theorem dX7_put_9 : decode cX7_put 9 = .ok (.getfield 16, 3) := by decide +kernel
theorem dX7_put_12 : decode cX7_put 12 = .ok (.iload_n 1, 1) := by decide +kernel
theorem dX7_put_13 : decode cX7_put 13 = .ok (.iaload, 1) := by decide +kernel
theorem dX7_put_14 : decode cX7_put 14 = .ok (.invokestatic 23, 3) := by decide +kernel
theorem dX7_put_17 : decode cX7_put 17 = .ok (.lastore, 1) := by decide +kernel
theorem dX7_put_18 : decode cX7_put 18 = .ok (.return_, 1) := by decide +kernel
theorem dX7_move_0 : decode cX7_move 0 = .ok (.aload_n 0, 1) := by decide +kernel
theorem dX7_move_1 : decode cX7_move 1 = .ok (.getfield 11, 3) := by decide +kernel
theorem dX7_move_4 : decode cX7_move 4 = .ok (.iload_n 1, 1) := by decide +kernel
theorem dX7_move_5 : decode cX7_move 5 = .ok (.aaload, 1) := by decide +kernel
theorem dX7_move_6 : decode cX7_move 6 = .ok (.iload_n 2, 1) := by decide +kernel
theorem dX7_move_7 : decode cX7_move 7 = .ok (.aload_n 0, 1) := by decide +kernel
theorem dX7_move_8 : decode cX7_move 8 = .ok (.getfield 11, 3) := by decide +kernel
theorem dX7_move_11 : decode cX7_move 11 = .ok (.iload_n 3, 1) := by decide +kernel
theorem dX7_move_12 : decode cX7_move 12 = .ok (.aaload, 1) := by decide +kernel
theorem dX7_move_13 : decode cX7_move 13 = .ok (.iload 4, 2) := by decide +kernel
theorem dX7_move_15 : decode cX7_move 15 = .ok (.iload 5, 2) := by decide +kernel
theorem dX7_move_17 : decode cX7_move 17 = .ok (.invokestatic 27, 3) := by decide +kernel
theorem dX7_move_20 : decode cX7_move 20 = .ok (.return_, 1) := by decide +kernel
theorem dX7_cut_0 : decode cX7_cut 0 = .ok (.iload_n 2, 1) := by decide +kernel
theorem dX7_cut_1 : decode cX7_cut 1 = .ok (.tableswitch 41 0 2 #[27, 32, 37], 27) := by decide +kernel
theorem dX7_cut_28 : decode cX7_cut 28 = .ok (.lload_n 0, 1) := by decide +kernel
theorem dX7_cut_29 : decode cX7_cut 29 = .ok (.l2i, 1) := by decide +kernel
theorem dX7_cut_30 : decode cX7_cut 30 = .ok (.i2b, 1) := by decide +kernel
theorem dX7_cut_31 : decode cX7_cut 31 = .ok (.i2l, 1) := by decide +kernel
theorem dX7_cut_32 : decode cX7_cut 32 = .ok (.lreturn, 1) := by decide +kernel
theorem dX7_cut_33 : decode cX7_cut 33 = .ok (.lload_n 0, 1) := by decide +kernel
theorem dX7_cut_34 : decode cX7_cut 34 = .ok (.l2i, 1) := by decide +kernel
theorem dX7_cut_35 : decode cX7_cut 35 = .ok (.i2s, 1) := by decide +kernel
theorem dX7_cut_36 : decode cX7_cut 36 = .ok (.i2l, 1) := by decide +kernel
theorem dX7_cut_37 : decode cX7_cut 37 = .ok (.lreturn, 1) := by decide +kernel
theorem dX7_cut_38 : decode cX7_cut 38 = .ok (.lload_n 0, 1) := by decide +kernel
theorem dX7_cut_39 : decode cX7_cut 39 = .ok (.l2i, 1) := by decide +kernel
theorem dX7_cut_40 : decode cX7_cut 40 = .ok (.i2l, 1) := by decide +kernel
theorem dX7_cut_41 : decode cX7_cut 41 = .ok (.lreturn, 1) := by decide +kernel
theorem dX7_cut_42 : decode cX7_cut 42 = .ok (.lload_n 0, 1) := by decide +kernel
theorem dX7_cut_43 : decode cX7_cut 43 = .ok (.lreturn, 1) := by decide +kernel
theorem dX8_init_0 : decode cX8_init 0 = .ok (.aload_n 0, 1) := by decide +kernel
theorem dX8_init_1 : decode cX8_init 1 = .ok (.invokespecial 3, 3) := by decide +kernel
theorem dX8_init_4 : decode cX8_init 4 = .ok (.aload_n 0, 1) := by decide +kernel
theorem dX8_init_5 : decode cX8_init 5 = .ok (.iconst 0, 1) := by decide +kernel
theorem dX8_init_6 : decode cX8_init 6 = .ok (.putfield 9, 3) := by decide +kernel
theorem dX8_init_9 : decode cX8_init 9 = .ok (.aload_n 0, 1) := by decide +kernel
theorem dX8_init_10 : decode cX8_init 10 = .ok (.iconst 0, 1) := by decide +kernel
theorem dX8_init_11 : decode cX8_init 11 = .ok (.putfield 15, 3) := by decide +kernel
theorem dX8_init_14 : decode cX8_init 14 = .ok (.aload_n 0, 1) := by decide +kernel
theorem dX8_init_15 : decode cX8_init 15 = .ok (.iconst 0, 1) := by decide +kernel
theorem dX8_init_16 : decode cX8_init 16 = .ok (.putfield 18, 3) := by decide +kernel
theorem dX8_init_19 : decode cX8_init 19 = .ok (.aload_n 0, 1) := by decide +kernel
theorem dX8_init_20 : decode cX8_init 20 = .ok (.bipush 10, 2) := by decide +kernel
theorem dX8_init_22 : decode cX8_init 22 = .ok (.putfield 21, 3) := by decide +kernel
theorem dX8_init_25 : decode cX8_init 25 = .ok (.aload_n 0, 1) := by decide +kernel
theorem dX8_init_26 : decode cX8_init 26 = .ok (.iconst 1, 1) := by decide +kernel
theorem dX8_init_27 : decode cX8_init 27 = .ok (.putfield 24, 3) := by decide +kernel
theorem dX8_init_30 : decode cX8_init 30 = .ok (.aload_n 0, 1) := by decide +kernel
theorem dX8_init_31 : decode cX8_init 31 = .ok (.bipush 10, 2) := by decide +kernel
theorem dX8_init_33 : decode cX8_init 33 = .ok (.newarray .int, 2) := by decide +kernel
theorem dX8_init_35 : decode cX8_init 35 = .ok (.putfield 27, 3) := by decide +kernel
theorem dX8_init_38 : decode cX8_init 38 = .ok (.aload_n 0, 1) := by decide +kernel
theorem dX8_init_39 : decode cX8_init 39 = .ok (.bipush 10, 2) := by decide +kernel
theorem dX8_init_41 : decode cX8_init 41 = .ok (.newarray .int, 2) := by decide +kernel
theorem dX8_init_43 : decode cX8_init 43 = .ok (.putfield 31, 3) := by decide +kernel
theorem dX8_init_46 : decode cX8_init 46 = .ok (.aload_n 0, 1) := by decide +kernel
theorem dX8_init_47 : decode cX8_init 47 = .ok (.bipush 10, 2) := by decide +kernel
theorem dX8_init_49 : decode cX8_init 49 = .ok (.newarray .int, 2) := by decide +kernel
theorem dX8_init_51 : decode cX8_init 51 = .ok (.putfield 34, 3) := by decide +kernel
theorem dX8_init_54 : decode cX8_init 54 = .ok (.aload_n 0, 1) := by decide +kernel
theorem dX8_init_55 : decode cX8_init 55 = .ok (.bipush 10, 2) := by decide +kernel
theorem dX8_init_57 : decode cX8_init 57 = .ok (.newarray .int, 2) := by decide +kernel
theorem dX8_init_59 : decode cX8_init 59 = .ok (.putfield 37, 3) := by decide +kernel
theorem dX8_init_62 : decode cX8_init 62 = .ok (.aload_n 0, 1) := by decide +kernel
theorem dX8_init_63 : decode cX8_init 63 = .ok (.bipush 10, 2) := by decide +kernel
theorem dX8_init_65 : decode cX8_init 65 = .ok (.newarray .int, 2) := by decide +kernel
theorem dX8_init_67 : decode cX8_init 67 = .ok (.putfield 40, 3) := by decide +kernel
theorem dX8_init_70 : decode cX8_init 70 = .ok (.aload_n 0, 1) := by decide +kernel
theorem dX8_init_71 : decode cX8_init 71 = .ok (.bipush 6, 2) := by decide +kernel
theorem dX8_init_73 : decode cX8_init 73 = .ok (.newarray .int, 2) := by decide +kernel
theorem dX8_init_75 : decode cX8_init 75 = .ok (.putfield 43, 3) := by decide +kernel
theorem dX8_init_78 : decode cX8_init 78 = .ok (.aload_n 0, 1) := by decide +kernel
theorem dX8_init_79 : decode cX8_init 79 = .ok (.bipush 6, 2) := by decide +kernel
theorem dX8_init_81 : decode cX8_init 81 = .ok (.newarray .int, 2) := by decide +kernel
theorem dX8_init_83 : decode cX8_init 83 = .ok (.putfield 46, 3) := by decide +kernel
theorem dX8_init_86 : decode cX8_init 86 = .ok (.aload_n 0, 1) := by decide +kernel
theorem dX8_init_87 : decode cX8_init 87 = .ok (.bipush 6, 2) := by decide +kernel
theorem dX8_init_89 : decode cX8_init 89 = .ok (.newarray .int, 2) := by decide +kernel
theorem dX8_init_91 : decode cX8_init 91 = .ok (.putfield 49, 3) := by decide +kernel
theorem dX8_init_94 : decode cX8_init 94 = .ok (.aload_n 0, 1) := by decide +kernel
theorem dX8_init_95 : decode cX8_init 95 = .ok (.bipush 6, 2) := by decide +kernel
theorem dX8_init_97 : decode cX8_init 97 = .ok (.newarray .int, 2) := by decide +kernel
theorem dX8_init_99 : decode cX8_init 99 = .ok (.putfield 52, 3) := by decide +kernel
theorem dX8_init_102 : decode cX8_init 102 = .ok (.aload_n 0, 1) := by decide +kernel
theorem dX8_init_103 : decode cX8_init 103 = .ok (.iconst 4, 1) := by decide +kernel
theorem dX8_init_104 : decode cX8_init 104 = .ok (.newarray .int, 2) := by decide +kernel
theorem dX8_init_106 : decode cX8_init 106 = .ok (.putfield 55, 3) := by decide +kernel
theorem dX8_init_109 : decode cX8_init 109 = .ok (.aload_n 0, 1) := by decide +kernel
theorem dX8_init_110 : decode cX8_init 110 = .ok (.iconst 4, 1) := by decide +kernel
theorem dX8_init_111 : decode cX8_init 111 = .ok (.newarray .int, 2) := by decide +kernel
theorem dX8_init_113 : decode cX8_init 113 = .ok (.putfield 58, 3) := by decide +kernel
theorem dX8_init_116 : decode cX8_init 116 = .ok (.aload_n 0, 1) := by decide +kernel
theorem dX8_init_117 : decode cX8_init 117 = .ok (.iconst 4, 1) := by decide +kernel
theorem dX8_init_118 : decode cX8_init 118 = .ok (.newarray .int, 2) := by decide +kernel
theorem dX8_init_120 : decode cX8_init 120 = .ok (.putfield 61, 3) := by decide +kernel
theorem dX8_init_123 : decode cX8_init 123 = .ok (.return_, 1) := by decide +kernel
theorem dX8_empty_0 : decode cX8_empty 0 = .ok (.aload_n 0, 1) := by decide +kernel
theorem dX8_empty_1 : decode cX8_empty 1 = .ok (.iconst 0, 1) := by decide +kernel
theorem dX8_empty_2 : decode cX8_empty 2 = .ok (.putfield 9, 3) := by decide +kernel
theorem dX8_empty_5 : decode cX8_empty 5 = .ok (.aload_n 0, 1) := by decide +kernel
theorem dX8_empty_6 : decode cX8_empty 6 = .ok (.iconst 0, 1) := by decide +kernel
theorem dX8_empty_7 : decode cX8_empty 7 = .ok (.putfield 15, 3) := by decide +kernel
theorem dX8_empty_10 : decode cX8_empty 10 = .ok (.aload_n 0, 1) := by decide +kernel
theorem dX8_empty_11 : decode cX8_empty 11 = .ok (.iconst 0, 1) := by decide +kernel
theorem dX8_empty_12 : decode cX8_empty 12 = .ok (.putfield 18, 3) := by decide +kernel
theorem dX8_empty_15 : decode cX8_empty 15 = .ok (.return_, 1) := by decide +kernel
theorem dX8_takeAll_0 : decode cX8_takeAll 0 = .ok (.aload_n 0, 1) := by decide +kernel
theorem dX8_takeAll_1 : decode cX8_takeAll 1 = .ok (.aload_n 1, 1) := by decide +kernel
theorem dX8_takeAll_2 : decode cX8_takeAll 2 = .ok (.invokevirtual 64, 3) := by decide +kernel
theorem dX8_takeAll_5 : decode cX8_takeAll 5 = .ok (.aload_n 0, 1) := by decide +kernel
theorem dX8_takeAll_6 : decode cX8_takeAll 6 = .ok (.aload_n 1, 1) := by decide +kernel
theorem dX8_takeAll_7 : decode cX8_takeAll 7 = .ok (.getfield 21, 3) := by decide +kernel
theorem dX8_takeAll_10 : decode cX8_takeAll 10 = .ok (.putfield 21, 3) := by decide +kernel
theorem dX8_takeAll_13 : decode cX8_takeAll 13 = .ok (.aload_n 0, 1) := by decide +kernel
theorem dX8_takeAll_14 : decode cX8_takeAll 14 = .ok (.aload_n 1, 1) := by decide +kernel
theorem dX8_takeAll_15 : decode cX8_takeAll 15 = .ok (.getfield 24, 3) := by decide +kernel
theorem dX8_takeAll_18 : decode cX8_takeAll 18 = .ok (.putfield 24, 3) := by decide +kernel
theorem dX8_takeAll_21 : decode cX8_takeAll 21 = .ok (.return_, 1) := by decide +kernel
theorem dX8_takePlaces_0 : decode cX8_takePlaces 0 = .ok (.aload_n 0, 1) := by decide +kernel
theorem dX8_takePlaces_1 : decode cX8_takePlaces 1 = .ok (.aload_n 1, 1) := by decide +kernel
theorem dX8_takePlaces_2 : decode cX8_takePlaces 2 = .ok (.getfield 9, 3) := by decide +kernel
theorem dX8_takePlaces_5 : decode cX8_takePlaces 5 = .ok (.putfield 9, 3) := by decide +kernel
theorem dX8_takePlaces_8 : decode cX8_takePlaces 8 = .ok (.aload_n 0, 1) := by decide +kernel
theorem dX8_takePlaces_9 : decode cX8_takePlaces 9 = .ok (.aload_n 1, 1) := by decide +kernel
theorem dX8_takePlaces_10 : decode cX8_takePlaces 10 = .ok (.getfield 15, 3) := by decide +kernel
theorem dX8_takePlaces_13 : decode cX8_takePlaces 13 = .ok (.putfield 15, 3) := by decide +kernel
theorem dX8_takePlaces_16 : decode cX8_takePlaces 16 = .ok (.aload_n 0, 1) := by decide +kernel
theorem dX8_takePlaces_17 : decode cX8_takePlaces 17 = .ok (.aload_n 1, 1) := by decide +kernel
theorem dX8_takePlaces_18 : decode cX8_takePlaces 18 = .ok (.getfield 18, 3) := by decide +kernel
theorem dX8_takePlaces_21 : decode cX8_takePlaces 21 = .ok (.putfield 18, 3) := by decide +kernel
theorem dX8_takePlaces_24 : decode cX8_takePlaces 24 = .ok (.aload_n 1, 1) := by decide +kernel
theorem dX8_takePlaces_25 : decode cX8_takePlaces 25 = .ok (.getfield 27, 3) := by decide +kernel
theorem dX8_takePlaces_28 : decode cX8_takePlaces 28 = .ok (.aload_n 0, 1) := by decide +kernel
theorem dX8_takePlaces_29 : decode cX8_takePlaces 29 = .ok (.getfield 27, 3) := by decide +kernel
theorem dX8_takePlaces_32 : decode cX8_takePlaces 32 = .ok (.invokestatic 68, 3) := by decide +kernel
theorem dX8_takePlaces_35 : decode cX8_takePlaces 35 = .ok (.aload_n 1, 1) := by decide +kernel
theorem dX8_takePlaces_36 : decode cX8_takePlaces 36 = .ok (.getfield 31, 3) := by decide +kernel
theorem dX8_takePlaces_39 : decode cX8_takePlaces 39 = .ok (.aload_n 0, 1) := by decide +kernel
theorem dX8_takePlaces_40 : decode cX8_takePlaces 40 = .ok (.getfield 31, 3) := by decide +kernel
theorem dX8_takePlaces_43 : decode cX8_takePlaces 43 = .ok (.invokestatic 68, 3) := by decide +kernel
theorem dX8_takePlaces_46 : decode cX8_takePlaces 46 = .ok (.aload_n 1, 1) := by decide +kernel
theorem dX8_takePlaces_47 : decode cX8_takePlaces 47 = .ok (.getfield 34, 3) := by decide +kernel
theorem dX8_takePlaces_50 : decode cX8_takePlaces 50 = .ok (.aload_n 0, 1) := by decide +kernel
theorem dX8_takePlaces_51 : decode cX8_takePlaces 51 = .ok (.getfield 34, 3) := by decide +kernel
theorem dX8_takePlaces_54 : decode cX8_takePlaces 54 = .ok (.invokestatic 68, 3) := by decide +kernel
theorem dX8_takePlaces_57 : decode cX8_takePlaces 57 = .ok (.aload_n 1, 1) := by decide +kernel
theorem dX8_takePlaces_58 : decode cX8_takePlaces 58 = .ok (.getfield 37, 3) := by decide +kernel
theorem dX8_takePlaces_61 : decode cX8_takePlaces 61 = .ok (.aload_n 0, 1) := by decide +kernel
theorem dX8_takePlaces_62 : decode cX8_takePlaces 62 = .ok (.getfield 37, 3) := by decide +kernel
theorem dX8_takePlaces_65 : decode cX8_takePlaces 65 = .ok (.invokestatic 68, 3) := by decide +kernel
theorem dX8_takePlaces_68 : decode cX8_takePlaces 68 = .ok (.aload_n 1, 1) := by decide +kernel
theorem dX8_takePlaces_69 : decode cX8_takePlaces 69 = .ok (.getfield 40, 3) := by decide +kernel
theorem dX8_takePlaces_72 : decode cX8_takePlaces 72 = .ok (.aload_n 0, 1) := by decide +kernel
theorem dX8_takePlaces_73 : decode cX8_takePlaces 73 = .ok (.getfield 40, 3) := by decide +kernel
theorem dX8_takePlaces_76 : decode cX8_takePlaces 76 = .ok (.invokestatic 68, 3) := by decide +kernel
theorem dX8_takePlaces_79 : decode cX8_takePlaces 79 = .ok (.aload_n 1, 1) := by decide +kernel
theorem dX8_takePlaces_80 : decode cX8_takePlaces 80 = .ok (.getfield 43, 3) := by decide +kernel
theorem dX8_takePlaces_83 : decode cX8_takePlaces 83 = .ok (.aload_n 0, 1) := by decide +kernel
theorem dX8_takePlaces_84 : decode cX8_takePlaces 84 = .ok (.getfield 43, 3) := by decide +kernel
theorem dX8_takePlaces_87 : decode cX8_takePlaces 87 = .ok (.invokestatic 68, 3) := by decide +kernel
theorem dX8_takePlaces_90 : decode cX8_takePlaces 90 = .ok (.aload_n 1, 1) := by decide +kernel
theorem dX8_takePlaces_91 : decode cX8_takePlaces 91 = .ok (.getfield 46, 3) := by decide +kernel
theorem dX8_takePlaces_94 : decode cX8_takePlaces 94 = .ok (.aload_n 0, 1) := by decide +kernel
theorem dX8_takePlaces_95 : decode cX8_takePlaces 95 = .ok (.getfield 46, 3) := by decide +kernel
theorem dX8_takePlaces_98 : decode cX8_takePlaces 98 = .ok (.invokestatic 68, 3) := by decide +kernel
theorem dX8_takePlaces_101 : decode cX8_takePlaces 101 = .ok (.aload_n 1, 1) := by decide +kernel
theorem dX8_takePlaces_102 : decode cX8_takePlaces 102 = .ok (.getfield 49, 3) := by decide +kernel
theorem dX8_takePlaces_105 : decode cX8_takePlaces 105 = .ok (.aload_n 0, 1) := by decide +kernel
theorem dX8_takePlaces_106 : decode cX8_takePlaces 106 = .ok (.getfield 49, 3) := by decide +kernel
theorem dX8_takePlaces_109 : decode cX8_takePlaces 109 = .ok (.invokestatic 68, 3) := by decide +kernel
theorem dX8_takePlaces_112 : decode cX8_takePlaces 112 = .ok (.aload_n 1, 1) := by decide +kernel
theorem dX8_takePlaces_113 : decode cX8_takePlaces 113 = .ok (.getfield 52, 3) := by decide +kernel
theorem dX8_takePlaces_116 : decode cX8_takePlaces 116 = .ok (.aload_n 0, 1) := by decide +kernel
theorem dX8_takePlaces_117 : decode cX8_takePlaces 117 = .ok (.getfield 52, 3) := by decide +kernel
theorem dX8_takePlaces_120 : decode cX8_takePlaces 120 = .ok (.invokestatic 68, 3) := by decide +kernel
theorem dX8_takePlaces_123 : decode cX8_takePlaces 123 = .ok (.aload_n 1, 1) := by decide +kernel
theorem dX8_takePlaces_124 : decode cX8_takePlaces 124 = .ok (.getfield 55, 3) := by decide +kernel
theorem dX8_takePlaces_127 : decode cX8_takePlaces 127 = .ok (.aload_n 0, 1) := by decide +kernel
theorem dX8_takePlaces_128 : decode cX8_takePlaces 128 = .ok (.getfield 55, 3) := by decide +kernel
theorem dX8_takePlaces_131 : decode cX8_takePlaces 131 = .ok (.invokestatic 68, 3) := by decide +kernel
theorem dX8_takePlaces_134 : decode cX8_takePlaces 134 = .ok (.aload_n 1, 1) := by decide +kernel
theorem dX8_takePlaces_135 : decode cX8_takePlaces 135 = .ok (.getfield 58, 3) := by decide +kernel
theorem dX8_takePlaces_138 : decode cX8_takePlaces 138 = .ok (.aload_n 0, 1) := by decide +kernel
theorem dX8_takePlaces_139 : decode cX8_takePlaces 139 = .ok (.getfield 58, 3) := by decide +kernel
theorem dX8_takePlaces_142 : decode cX8_takePlaces 142 = .ok (.invokestatic 68, 3) := by decide +kernel
theorem dX8_takePlaces_145 : decode cX8_takePlaces 145 = .ok (.aload_n 1, 1) := by decide +kernel
theorem dX8_takePlaces_146 : decode cX8_takePlaces 146 = .ok (.getfield 61, 3) := by decide +kernel
theorem dX8_takePlaces_149 : decode cX8_takePlaces 149 = .ok (.aload_n 0, 1) := by decide +kernel
theorem dX8_takePlaces_150 : decode cX8_takePlaces 150 = .ok (.getfield 61, 3) := by decide +kernel
theorem dX8_takePlaces_153 : decode cX8_takePlaces 153 = .ok (.invokestatic 68, 3) := by decide +kernel
theorem dX8_takePlaces_156 : decode cX8_takePlaces 156 = .ok (.return_, 1) := by decide +kernel
theorem dX8_copyRow_0 : decode cX8_copyRow 0 = .ok (.aload_n 0, 1) := by decide +kernel
theorem dX8_copyRow_1 : decode cX8_copyRow 1 = .ok (.iconst 0, 1) := by decide +kernel
theorem dX8_copyRow_2 : decode cX8_copyRow 2 = .ok (.aload_n 1, 1) := by decide +kernel
theorem dX8_copyRow_3 : decode cX8_copyRow 3 = .ok (.iconst 0, 1) := by decide +kernel
theorem dX8_copyRow_4 : decode cX8_copyRow 4 = .ok (.aload_n 0, 1) := by decide +kernel
theorem dX8_copyRow_5 : decode cX8_copyRow 5 = .ok (.arraylength, 1) := by decide +kernel
theorem dX8_copyRow_6 : decode cX8_copyRow 6 = .ok (.aload_n 1, 1) := by decide +kernel
theorem dX8_copyRow_7 : decode cX8_copyRow 7 = .ok (.arraylength, 1) := by decide +kernel
theorem dX8_copyRow_8 : decode cX8_copyRow 8 = .ok (.invokestatic 72, 3) := by decide +kernel
theorem dX8_copyRow_11 : decode cX8_copyRow 11 = .ok (.invokestatic 78, 3) := by decide +kernel
theorem dX8_copyRow_14 : decode cX8_copyRow 14 = .ok (.return_, 1) := by decide +kernel
theorem dX8_hasStrip_0 : decode cX8_hasStrip 0 = .ok (.iload_n 1, 1) := by decide +kernel
theorem dX8_hasStrip_1 : decode cX8_hasStrip 1 = .ok (.ifCond .lt 15, 3) := by decide +kernel
theorem dX8_hasStrip_4 : decode cX8_hasStrip 4 = .ok (.iload_n 1, 1) := by decide +kernel
theorem dX8_hasStrip_5 : decode cX8_hasStrip 5 = .ok (.aload_n 0, 1) := by decide +kernel
theorem dX8_hasStrip_6 : decode cX8_hasStrip 6 = .ok (.getfield 9, 3) := by decide +kernel
theorem dX8_hasStrip_9 : decode cX8_hasStrip 9 = .ok (.if_icmp .ge 7, 3) := by decide +kernel
theorem dX8_hasStrip_12 : decode cX8_hasStrip 12 = .ok (.iconst 1, 1) := by decide +kernel
theorem dX8_hasStrip_13 : decode cX8_hasStrip 13 = .ok (.goto 4, 3) := by decide +kernel
theorem dX8_hasStrip_16 : decode cX8_hasStrip 16 = .ok (.iconst 0, 1) := by decide +kernel
theorem dX8_hasStrip_17 : decode cX8_hasStrip 17 = .ok (.ireturn, 1) := by decide +kernel
theorem dX8_hasHarm_0 : decode cX8_hasHarm 0 = .ok (.iload_n 1, 1) := by decide +kernel
theorem dX8_hasHarm_1 : decode cX8_hasHarm 1 = .ok (.ifCond .lt 15, 3) := by decide +kernel
theorem dX8_hasHarm_4 : decode cX8_hasHarm 4 = .ok (.iload_n 1, 1) := by decide +kernel
theorem dX8_hasHarm_5 : decode cX8_hasHarm 5 = .ok (.aload_n 0, 1) := by decide +kernel
theorem dX8_hasHarm_6 : decode cX8_hasHarm 6 = .ok (.getfield 15, 3) := by decide +kernel
theorem dX8_hasHarm_9 : decode cX8_hasHarm 9 = .ok (.if_icmp .ge 7, 3) := by decide +kernel
theorem dX8_hasHarm_12 : decode cX8_hasHarm 12 = .ok (.iconst 1, 1) := by decide +kernel
theorem dX8_hasHarm_13 : decode cX8_hasHarm 13 = .ok (.goto 4, 3) := by decide +kernel
theorem dX8_hasHarm_16 : decode cX8_hasHarm 16 = .ok (.iconst 0, 1) := by decide +kernel
theorem dX8_hasHarm_17 : decode cX8_hasHarm 17 = .ok (.ireturn, 1) := by decide +kernel
theorem dX8_hasFamily_0 : decode cX8_hasFamily 0 = .ok (.iload_n 1, 1) := by decide +kernel
theorem dX8_hasFamily_1 : decode cX8_hasFamily 1 = .ok (.ifCond .lt 15, 3) := by decide +kernel
theorem dX8_hasFamily_4 : decode cX8_hasFamily 4 = .ok (.iload_n 1, 1) := by decide +kernel
theorem dX8_hasFamily_5 : decode cX8_hasFamily 5 = .ok (.aload_n 0, 1) := by decide +kernel
theorem dX8_hasFamily_6 : decode cX8_hasFamily 6 = .ok (.getfield 18, 3) := by decide +kernel
theorem dX8_hasFamily_9 : decode cX8_hasFamily 9 = .ok (.if_icmp .ge 7, 3) := by decide +kernel
theorem dX8_hasFamily_12 : decode cX8_hasFamily 12 = .ok (.iconst 1, 1) := by decide +kernel
theorem dX8_hasFamily_13 : decode cX8_hasFamily 13 = .ok (.goto 4, 3) := by decide +kernel
theorem dX8_hasFamily_16 : decode cX8_hasFamily 16 = .ok (.iconst 0, 1) := by decide +kernel
theorem dX8_hasFamily_17 : decode cX8_hasFamily 17 = .ok (.ireturn, 1) := by decide +kernel
theorem dX8_hasFamilyOrNone_0 : decode cX8_hasFamilyOrNone 0 = .ok (.iload_n 1, 1) := by decide +kernel
theorem dX8_hasFamilyOrNone_1 : decode cX8_hasFamilyOrNone 1 = .ok (.iconst (-1), 1) := by decide +kernel
theorem dX8_hasFamilyOrNone_2 : decode cX8_hasFamilyOrNone 2 = .ok (.if_icmp .eq 11, 3) := by decide +kernel
theorem dX8_hasFamilyOrNone_5 : decode cX8_hasFamilyOrNone 5 = .ok (.aload_n 0, 1) := by decide +kernel
theorem dX8_hasFamilyOrNone_6 : decode cX8_hasFamilyOrNone 6 = .ok (.iload_n 1, 1) := by decide +kernel
theorem dX8_hasFamilyOrNone_7 : decode cX8_hasFamilyOrNone 7 = .ok (.invokevirtual 84, 3) := by decide +kernel
theorem dX8_hasFamilyOrNone_10 : decode cX8_hasFamilyOrNone 10 = .ok (.ifCond .eq 7, 3) := by decide +kernel
theorem dX8_hasFamilyOrNone_13 : decode cX8_hasFamilyOrNone 13 = .ok (.iconst 1, 1) := by decide +kernel
theorem dX8_hasFamilyOrNone_14 : decode cX8_hasFamilyOrNone 14 = .ok (.goto 4, 3) := by decide +kernel
theorem dX8_hasFamilyOrNone_17 : decode cX8_hasFamilyOrNone 17 = .ok (.iconst 0, 1) := by decide +kernel
theorem dX8_hasFamilyOrNone_18 : decode cX8_hasFamilyOrNone 18 = .ok (.ireturn, 1) := by decide +kernel
theorem dX8_hasLot_0 : decode cX8_hasLot 0 = .ok (.iload_n 1, 1) := by decide +kernel
theorem dX8_hasLot_1 : decode cX8_hasLot 1 = .ok (.ifCond .lt 15, 3) := by decide +kernel
theorem dX8_hasLot_4 : decode cX8_hasLot 4 = .ok (.iload_n 1, 1) := by decide +kernel
theorem dX8_hasLot_5 : decode cX8_hasLot 5 = .ok (.aload_n 0, 1) := by decide +kernel
theorem dX8_hasLot_6 : decode cX8_hasLot 6 = .ok (.invokevirtual 88, 3) := by decide +kernel
theorem dX8_hasLot_9 : decode cX8_hasLot 9 = .ok (.if_icmp .ge 7, 3) := by decide +kernel
theorem dX8_hasLot_12 : decode cX8_hasLot 12 = .ok (.iconst 1, 1) := by decide +kernel
theorem dX8_hasLot_13 : decode cX8_hasLot 13 = .ok (.goto 4, 3) := by decide +kernel
theorem dX8_hasLot_16 : decode cX8_hasLot 16 = .ok (.iconst 0, 1) := by decide +kernel
theorem dX8_hasLot_17 : decode cX8_hasLot 17 = .ok (.ireturn, 1) := by decide +kernel
theorem dX8_hasHolding_0 : decode cX8_hasHolding 0 = .ok (.aload_n 0, 1) := by decide +kernel
theorem dX8_hasHolding_1 : decode cX8_hasHolding 1 = .ok (.iload_n 1, 1) := by decide +kernel
theorem dX8_hasHolding_2 : decode cX8_hasHolding 2 = .ok (.invokevirtual 84, 3) := by decide +kernel
theorem dX8_hasHolding_5 : decode cX8_hasHolding 5 = .ok (.ifCond .eq 19, 3) := by decide +kernel
theorem dX8_hasHolding_8 : decode cX8_hasHolding 8 = .ok (.iload_n 2, 1) := by decide +kernel
theorem dX8_hasHolding_9 : decode cX8_hasHolding 9 = .ok (.ifCond .lt 15, 3) := by decide +kernel
theorem dX8_hasHolding_12 : decode cX8_hasHolding 12 = .ok (.iload_n 2, 1) := by decide +kernel
theorem dX8_hasHolding_13 : decode cX8_hasHolding 13 = .ok (.aload_n 0, 1) := by decide +kernel
theorem dX8_hasHolding_14 : decode cX8_hasHolding 14 = .ok (.invokevirtual 92, 3) := by decide +kernel
theorem dX8_hasHolding_17 : decode cX8_hasHolding 17 = .ok (.if_icmp .ge 7, 3) := by decide +kernel
theorem dX8_hasHolding_20 : decode cX8_hasHolding 20 = .ok (.iconst 1, 1) := by decide +kernel
theorem dX8_hasHolding_21 : decode cX8_hasHolding 21 = .ok (.goto 4, 3) := by decide +kernel
theorem dX8_hasHolding_24 : decode cX8_hasHolding 24 = .ok (.iconst 0, 1) := by decide +kernel
theorem dX8_hasHolding_25 : decode cX8_hasHolding 25 = .ok (.ireturn, 1) := by decide +kernel
theorem dX8_lots_0 : decode cX8_lots 0 = .ok (.iconst 1, 1) := by decide +kernel
theorem dX8_lots_1 : decode cX8_lots 1 = .ok (.aload_n 0, 1) := by decide +kernel
theorem dX8_lots_2 : decode cX8_lots 2 = .ok (.getfield 15, 3) := by decide +kernel
theorem dX8_lots_5 : decode cX8_lots 5 = .ok (.ishl, 1) := by decide +kernel
theorem dX8_lots_6 : decode cX8_lots 6 = .ok (.ireturn, 1) := by decide +kernel
theorem dX8_sets_0 : decode cX8_sets 0 = .ok (.iconst 1, 1) := by decide +kernel
theorem dX8_sets_1 : decode cX8_sets 1 = .ok (.aload_n 0, 1) := by decide +kernel
theorem dX8_sets_2 : decode cX8_sets 2 = .ok (.getfield 9, 3) := by decide +kernel
theorem dX8_sets_5 : decode cX8_sets 5 = .ok (.ishl, 1) := by decide +kernel
theorem dX8_sets_6 : decode cX8_sets 6 = .ok (.ireturn, 1) := by decide +kernel
theorem dX8_heldBy_0 : decode cX8_heldBy 0 = .ok (.iconst 0, 1) := by decide +kernel
theorem dX8_heldBy_1 : decode cX8_heldBy 1 = .ok (.istore_n 2, 1) := by decide +kernel
theorem dX8_heldBy_2 : decode cX8_heldBy 2 = .ok (.iconst 0, 1) := by decide +kernel
theorem dX8_heldBy_3 : decode cX8_heldBy 3 = .ok (.istore_n 3, 1) := by decide +kernel
theorem dX8_heldBy_4 : decode cX8_heldBy 4 = .ok (.iload_n 3, 1) := by decide +kernel
theorem dX8_heldBy_5 : decode cX8_heldBy 5 = .ok (.aload_n 0, 1) := by decide +kernel
theorem dX8_heldBy_6 : decode cX8_heldBy 6 = .ok (.getfield 9, 3) := by decide +kernel
theorem dX8_heldBy_9 : decode cX8_heldBy 9 = .ok (.if_icmp .ge 25, 3) := by decide +kernel
theorem dX8_heldBy_12 : decode cX8_heldBy 12 = .ok (.aload_n 0, 1) := by decide +kernel
theorem dX8_heldBy_13 : decode cX8_heldBy 13 = .ok (.getfield 40, 3) := by decide +kernel
theorem dX8_heldBy_16 : decode cX8_heldBy 16 = .ok (.iload_n 3, 1) := by decide +kernel
theorem dX8_heldBy_17 : decode cX8_heldBy 17 = .ok (.iaload, 1) := by decide +kernel
theorem dX8_heldBy_18 : decode cX8_heldBy 18 = .ok (.iload_n 1, 1) := by decide +kernel
theorem dX8_heldBy_19 : decode cX8_heldBy 19 = .ok (.if_icmp .ne 9, 3) := by decide +kernel
theorem dX8_heldBy_22 : decode cX8_heldBy 22 = .ok (.iload_n 2, 1) := by decide +kernel
theorem dX8_heldBy_23 : decode cX8_heldBy 23 = .ok (.iconst 1, 1) := by decide +kernel
theorem dX8_heldBy_24 : decode cX8_heldBy 24 = .ok (.iload_n 3, 1) := by decide +kernel
theorem dX8_heldBy_25 : decode cX8_heldBy 25 = .ok (.ishl, 1) := by decide +kernel
theorem dX8_heldBy_26 : decode cX8_heldBy 26 = .ok (.ior, 1) := by decide +kernel
theorem dX8_heldBy_27 : decode cX8_heldBy 27 = .ok (.istore_n 2, 1) := by decide +kernel
theorem dX8_heldBy_28 : decode cX8_heldBy 28 = .ok (.iinc 3 1, 3) := by decide +kernel
theorem dX8_heldBy_31 : decode cX8_heldBy 31 = .ok (.goto (-27), 3) := by decide +kernel
theorem dX8_heldBy_34 : decode cX8_heldBy 34 = .ok (.iload_n 2, 1) := by decide +kernel
theorem dX8_heldBy_35 : decode cX8_heldBy 35 = .ok (.ireturn, 1) := by decide +kernel
theorem dX8_openTo_0 : decode cX8_openTo 0 = .ok (.aload_n 0, 1) := by decide +kernel
theorem dX8_openTo_1 : decode cX8_openTo 1 = .ok (.iconst (-1), 1) := by decide +kernel
theorem dX8_openTo_2 : decode cX8_openTo 2 = .ok (.invokevirtual 95, 3) := by decide +kernel
theorem dX8_openTo_5 : decode cX8_openTo 5 = .ok (.aload_n 0, 1) := by decide +kernel
theorem dX8_openTo_6 : decode cX8_openTo 6 = .ok (.iload_n 1, 1) := by decide +kernel
theorem dX8_openTo_7 : decode cX8_openTo 7 = .ok (.invokevirtual 95, 3) := by decide +kernel
theorem dX8_openTo_10 : decode cX8_openTo 10 = .ok (.ior, 1) := by decide +kernel
theorem dX8_openTo_11 : decode cX8_openTo 11 = .ok (.ireturn, 1) := by decide +kernel
theorem dX8_stripsFallenOn_0 : decode cX8_stripsFallenOn 0 = .ok (.iconst 0, 1) := by decide +kernel
theorem dX8_stripsFallenOn_1 : decode cX8_stripsFallenOn 1 = .ok (.istore 4, 2) := by decide +kernel
theorem dX8_stripsFallenOn_3 : decode cX8_stripsFallenOn 3 = .ok (.iconst 0, 1) := by decide +kernel
theorem dX8_stripsFallenOn_4 : decode cX8_stripsFallenOn 4 = .ok (.istore 5, 2) := by decide +kernel
theorem dX8_stripsFallenOn_6 : decode cX8_stripsFallenOn 6 = .ok (.iload 5, 2) := by decide +kernel
theorem dX8_stripsFallenOn_8 : decode cX8_stripsFallenOn 8 = .ok (.aload_n 0, 1) := by decide +kernel
theorem dX8_stripsFallenOn_9 : decode cX8_stripsFallenOn 9 = .ok (.getfield 9, 3) := by decide +kernel
theorem dX8_stripsFallenOn_12 : decode cX8_stripsFallenOn 12 = .ok (.if_icmp .ge 35, 3) := by decide +kernel
theorem dX8_stripsFallenOn_15 : decode cX8_stripsFallenOn 15 = .ok (.aload_n 0, 1) := by decide +kernel
theorem dX8_stripsFallenOn_16 : decode cX8_stripsFallenOn 16 = .ok (.aload_n 0, 1) := by decide +kernel
theorem dX8_stripsFallenOn_17 : decode cX8_stripsFallenOn 17 = .ok (.getfield 43, 3) := by decide +kernel
theorem dX8_stripsFallenOn_20 : decode cX8_stripsFallenOn 20 = .ok (.iload_n 1, 1) := by decide +kernel
theorem dX8_stripsFallenOn_21 : decode cX8_stripsFallenOn 21 = .ok (.iaload, 1) := by decide +kernel
theorem dX8_stripsFallenOn_22 : decode cX8_stripsFallenOn 22 = .ok (.iload_n 2, 1) := by decide +kernel
theorem dX8_stripsFallenOn_23 : decode cX8_stripsFallenOn 23 = .ok (.iload_n 3, 1) := by decide +kernel
theorem dX8_stripsFallenOn_24 : decode cX8_stripsFallenOn 24 = .ok (.iload 5, 2) := by decide +kernel
theorem dX8_stripsFallenOn_26 : decode cX8_stripsFallenOn 26 = .ok (.invokevirtual 99, 3) := by decide +kernel
theorem dX8_stripsFallenOn_29 : decode cX8_stripsFallenOn 29 = .ok (.ifCond .eq 12, 3) := by decide +kernel
theorem dX8_stripsFallenOn_32 : decode cX8_stripsFallenOn 32 = .ok (.iload 4, 2) := by decide +kernel
theorem dX8_stripsFallenOn_34 : decode cX8_stripsFallenOn 34 = .ok (.iconst 1, 1) := by decide +kernel
theorem dX8_stripsFallenOn_35 : decode cX8_stripsFallenOn 35 = .ok (.iload 5, 2) := by decide +kernel
theorem dX8_stripsFallenOn_37 : decode cX8_stripsFallenOn 37 = .ok (.ishl, 1) := by decide +kernel
theorem dX8_stripsFallenOn_38 : decode cX8_stripsFallenOn 38 = .ok (.ior, 1) := by decide +kernel
theorem dX8_stripsFallenOn_39 : decode cX8_stripsFallenOn 39 = .ok (.istore 4, 2) := by decide +kernel
theorem dX8_stripsFallenOn_41 : decode cX8_stripsFallenOn 41 = .ok (.iinc 5 1, 3) := by decide +kernel
theorem dX8_stripsFallenOn_44 : decode cX8_stripsFallenOn 44 = .ok (.goto (-38), 3) := by decide +kernel
theorem dX8_stripsFallenOn_47 : decode cX8_stripsFallenOn 47 = .ok (.iload 4, 2) := by decide +kernel
theorem dX8_stripsFallenOn_49 : decode cX8_stripsFallenOn 49 = .ok (.ireturn, 1) := by decide +kernel
theorem dX8_fallsOn_0 : decode cX8_fallsOn 0 = .ok (.iload_n 1, 1) := by decide +kernel
theorem dX8_fallsOn_1 : decode cX8_fallsOn 1 = .ok (.tableswitch 89 0 2 #[27, 55, 72], 27) := by decide +kernel
theorem dX8_fallsOn_28 : decode cX8_fallsOn 28 = .ok (.aload_n 0, 1) := by decide +kernel
theorem dX8_fallsOn_29 : decode cX8_fallsOn 29 = .ok (.getfield 27, 3) := by decide +kernel
theorem dX8_fallsOn_32 : decode cX8_fallsOn 32 = .ok (.iload 4, 2) := by decide +kernel
theorem dX8_fallsOn_34 : decode cX8_fallsOn 34 = .ok (.iaload, 1) := by decide +kernel
theorem dX8_fallsOn_35 : decode cX8_fallsOn 35 = .ok (.iload_n 2, 1) := by decide +kernel
theorem dX8_fallsOn_36 : decode cX8_fallsOn 36 = .ok (.if_icmp .lt 18, 3) := by decide +kernel
theorem dX8_fallsOn_39 : decode cX8_fallsOn 39 = .ok (.aload_n 0, 1) := by decide +kernel
theorem dX8_fallsOn_40 : decode cX8_fallsOn 40 = .ok (.getfield 27, 3) := by decide +kernel
theorem dX8_fallsOn_43 : decode cX8_fallsOn 43 = .ok (.iload 4, 2) := by decide +kernel
theorem dX8_fallsOn_45 : decode cX8_fallsOn 45 = .ok (.iaload, 1) := by decide +kernel
theorem dX8_fallsOn_46 : decode cX8_fallsOn 46 = .ok (.iload_n 3, 1) := by decide +kernel
theorem dX8_fallsOn_47 : decode cX8_fallsOn 47 = .ok (.if_icmp .gt 7, 3) := by decide +kernel
theorem dX8_fallsOn_50 : decode cX8_fallsOn 50 = .ok (.iconst 1, 1) := by decide +kernel
theorem dX8_fallsOn_51 : decode cX8_fallsOn 51 = .ok (.goto 4, 3) := by decide +kernel
theorem dX8_fallsOn_54 : decode cX8_fallsOn 54 = .ok (.iconst 0, 1) := by decide +kernel
theorem dX8_fallsOn_55 : decode cX8_fallsOn 55 = .ok (.ireturn, 1) := by decide +kernel
theorem dX8_fallsOn_56 : decode cX8_fallsOn 56 = .ok (.aload_n 0, 1) := by decide +kernel
theorem dX8_fallsOn_57 : decode cX8_fallsOn 57 = .ok (.getfield 31, 3) := by decide +kernel
theorem dX8_fallsOn_60 : decode cX8_fallsOn 60 = .ok (.iload 4, 2) := by decide +kernel
theorem dX8_fallsOn_62 : decode cX8_fallsOn 62 = .ok (.iaload, 1) := by decide +kernel
theorem dX8_fallsOn_63 : decode cX8_fallsOn 63 = .ok (.iload_n 2, 1) := by decide +kernel
theorem dX8_fallsOn_64 : decode cX8_fallsOn 64 = .ok (.if_icmp .ge 7, 3) := by decide +kernel
theorem dX8_fallsOn_67 : decode cX8_fallsOn 67 = .ok (.iconst 1, 1) := by decide +kernel
theorem dX8_fallsOn_68 : decode cX8_fallsOn 68 = .ok (.goto 4, 3) := by decide +kernel
theorem dX8_fallsOn_71 : decode cX8_fallsOn 71 = .ok (.iconst 0, 1) := by decide +kernel
theorem dX8_fallsOn_72 : decode cX8_fallsOn 72 = .ok (.ireturn, 1) := by decide +kernel
theorem dX8_fallsOn_73 : decode cX8_fallsOn 73 = .ok (.aload_n 0, 1) := by decide +kernel
theorem dX8_fallsOn_74 : decode cX8_fallsOn 74 = .ok (.getfield 37, 3) := by decide +kernel
theorem dX8_fallsOn_77 : decode cX8_fallsOn 77 = .ok (.iload 4, 2) := by decide +kernel
theorem dX8_fallsOn_79 : decode cX8_fallsOn 79 = .ok (.iaload, 1) := by decide +kernel
theorem dX8_fallsOn_80 : decode cX8_fallsOn 80 = .ok (.iload_n 2, 1) := by decide +kernel
theorem dX8_fallsOn_81 : decode cX8_fallsOn 81 = .ok (.if_icmp .ne 7, 3) := by decide +kernel
theorem dX8_fallsOn_84 : decode cX8_fallsOn 84 = .ok (.iconst 1, 1) := by decide +kernel
theorem dX8_fallsOn_85 : decode cX8_fallsOn 85 = .ok (.goto 4, 3) := by decide +kernel
theorem dX8_fallsOn_88 : decode cX8_fallsOn 88 = .ok (.iconst 0, 1) := by decide +kernel
theorem dX8_fallsOn_89 : decode cX8_fallsOn 89 = .ok (.ireturn, 1) := by decide +kernel
theorem dX8_fallsOn_90 : decode cX8_fallsOn 90 = .ok (.iconst 1, 1) := by decide +kernel
theorem dX8_fallsOn_91 : decode cX8_fallsOn 91 = .ok (.ireturn, 1) := by decide +kernel
theorem dX9_init_0 : decode cX9_init 0 = .ok (.aload_n 0, 1) := by decide +kernel
theorem dX9_init_1 : decode cX9_init 1 = .ok (.invokespecial 1, 3) := by decide +kernel
theorem dX9_init_4 : decode cX9_init 4 = .ok (.aload_n 0, 1) := by decide +kernel
theorem dX9_init_5 : decode cX9_init 5 = .ok (.new 7, 3) := by decide +kernel
theorem dX9_init_8 : decode cX9_init 8 = .ok (.dup, 1) := by decide +kernel
theorem dX9_init_9 : decode cX9_init 9 = .ok (.invokespecial 9, 3) := by decide +kernel
theorem dX9_init_12 : decode cX9_init 12 = .ok (.putfield 10, 3) := by decide +kernel
theorem dX9_init_15 : decode cX9_init 15 = .ok (.aload_n 0, 1) := by decide +kernel
theorem dX9_init_16 : decode cX9_init 16 = .ok (.iconst 3, 1) := by decide +kernel
theorem dX9_init_17 : decode cX9_init 17 = .ok (.anewarray 7, 3) := by decide +kernel
theorem dX9_init_20 : decode cX9_init 20 = .ok (.putfield 16, 3) := by decide +kernel
theorem dX9_init_23 : decode cX9_init 23 = .ok (.aload_n 0, 1) := by decide +kernel
theorem dX9_init_24 : decode cX9_init 24 = .ok (.iconst 0, 1) := by decide +kernel
theorem dX9_init_25 : decode cX9_init 25 = .ok (.putfield 20, 3) := by decide +kernel
theorem dX9_init_28 : decode cX9_init 28 = .ok (.aload_n 0, 1) := by decide +kernel
theorem dX9_init_29 : decode cX9_init 29 = .ok (.new 24, 3) := by decide +kernel
theorem dX9_init_32 : decode cX9_init 32 = .ok (.dup, 1) := by decide +kernel
theorem dX9_init_33 : decode cX9_init 33 = .ok (.invokespecial 26, 3) := by decide +kernel
theorem dX9_init_36 : decode cX9_init 36 = .ok (.putfield 27, 3) := by decide +kernel
theorem dX9_init_39 : decode cX9_init 39 = .ok (.aload_n 0, 1) := by decide +kernel
theorem dX9_init_40 : decode cX9_init 40 = .ok (.new 31, 3) := by decide +kernel
theorem dX9_init_43 : decode cX9_init 43 = .ok (.dup, 1) := by decide +kernel
theorem dX9_init_44 : decode cX9_init 44 = .ok (.invokespecial 33, 3) := by decide +kernel
theorem dX9_init_47 : decode cX9_init 47 = .ok (.putfield 34, 3) := by decide +kernel
theorem dX9_init_50 : decode cX9_init 50 = .ok (.aload_n 0, 1) := by decide +kernel
theorem dX9_init_51 : decode cX9_init 51 = .ok (.new 38, 3) := by decide +kernel
theorem dX9_init_54 : decode cX9_init 54 = .ok (.dup, 1) := by decide +kernel
theorem dX9_init_55 : decode cX9_init 55 = .ok (.aload_n 0, 1) := by decide +kernel
theorem dX9_init_56 : decode cX9_init 56 = .ok (.getfield 10, 3) := by decide +kernel
theorem dX9_init_59 : decode cX9_init 59 = .ok (.invokespecial 40, 3) := by decide +kernel
theorem dX9_init_62 : decode cX9_init 62 = .ok (.putfield 43, 3) := by decide +kernel
theorem dX9_init_65 : decode cX9_init 65 = .ok (.aload_n 0, 1) := by decide +kernel
theorem dX9_init_66 : decode cX9_init 66 = .ok (.new 47, 3) := by decide +kernel
theorem dX9_init_69 : decode cX9_init 69 = .ok (.dup, 1) := by decide +kernel
theorem dX9_init_70 : decode cX9_init 70 = .ok (.aload_n 0, 1) := by decide +kernel
theorem dX9_init_71 : decode cX9_init 71 = .ok (.getfield 10, 3) := by decide +kernel
theorem dX9_init_74 : decode cX9_init 74 = .ok (.aload_n 0, 1) := by decide +kernel
theorem dX9_init_75 : decode cX9_init 75 = .ok (.getfield 43, 3) := by decide +kernel
theorem dX9_init_78 : decode cX9_init 78 = .ok (.invokespecial 49, 3) := by decide +kernel
theorem dX9_init_81 : decode cX9_init 81 = .ok (.putfield 52, 3) := by decide +kernel
theorem dX9_init_84 : decode cX9_init 84 = .ok (.aload_n 0, 1) := by decide +kernel
theorem dX9_init_85 : decode cX9_init 85 = .ok (.new 56, 3) := by decide +kernel
theorem dX9_init_88 : decode cX9_init 88 = .ok (.dup, 1) := by decide +kernel
theorem dX9_init_89 : decode cX9_init 89 = .ok (.aload_n 0, 1) := by decide +kernel
theorem dX9_init_90 : decode cX9_init 90 = .ok (.getfield 10, 3) := by decide +kernel
theorem dX9_init_93 : decode cX9_init 93 = .ok (.aload_n 0, 1) := by decide +kernel
theorem dX9_init_94 : decode cX9_init 94 = .ok (.getfield 43, 3) := by decide +kernel
theorem dX9_init_97 : decode cX9_init 97 = .ok (.invokespecial 58, 3) := by decide +kernel
theorem dX9_init_100 : decode cX9_init 100 = .ok (.putfield 59, 3) := by decide +kernel
theorem dX9_init_103 : decode cX9_init 103 = .ok (.aload_n 0, 1) := by decide +kernel
theorem dX9_init_104 : decode cX9_init 104 = .ok (.new 63, 3) := by decide +kernel
theorem dX9_init_107 : decode cX9_init 107 = .ok (.dup, 1) := by decide +kernel
theorem dX9_init_108 : decode cX9_init 108 = .ok (.aload_n 0, 1) := by decide +kernel
theorem dX9_init_109 : decode cX9_init 109 = .ok (.getfield 10, 3) := by decide +kernel
theorem dX9_init_112 : decode cX9_init 112 = .ok (.aload_n 0, 1) := by decide +kernel
theorem dX9_init_113 : decode cX9_init 113 = .ok (.getfield 43, 3) := by decide +kernel
theorem dX9_init_116 : decode cX9_init 116 = .ok (.invokespecial 65, 3) := by decide +kernel
theorem dX9_init_119 : decode cX9_init 119 = .ok (.putfield 66, 3) := by decide +kernel
theorem dX9_init_122 : decode cX9_init 122 = .ok (.aload_n 0, 1) := by decide +kernel
theorem dX9_init_123 : decode cX9_init 123 = .ok (.new 70, 3) := by decide +kernel
theorem dX9_init_126 : decode cX9_init 126 = .ok (.dup, 1) := by decide +kernel
theorem dX9_init_127 : decode cX9_init 127 = .ok (.aload_n 0, 1) := by decide +kernel
theorem dX9_init_128 : decode cX9_init 128 = .ok (.getfield 10, 3) := by decide +kernel
theorem dX9_init_131 : decode cX9_init 131 = .ok (.aload_n 0, 1) := by decide +kernel
theorem dX9_init_132 : decode cX9_init 132 = .ok (.getfield 43, 3) := by decide +kernel
theorem dX9_init_135 : decode cX9_init 135 = .ok (.invokespecial 72, 3) := by decide +kernel
theorem dX9_init_138 : decode cX9_init 138 = .ok (.putfield 73, 3) := by decide +kernel
theorem dX9_init_141 : decode cX9_init 141 = .ok (.aload_n 0, 1) := by decide +kernel
theorem dX9_init_142 : decode cX9_init 142 = .ok (.new 77, 3) := by decide +kernel
theorem dX9_init_145 : decode cX9_init 145 = .ok (.dup, 1) := by decide +kernel
theorem dX9_init_146 : decode cX9_init 146 = .ok (.aload_n 0, 1) := by decide +kernel
theorem dX9_init_147 : decode cX9_init 147 = .ok (.getfield 10, 3) := by decide +kernel
theorem dX9_init_150 : decode cX9_init 150 = .ok (.aload_n 0, 1) := by decide +kernel
theorem dX9_init_151 : decode cX9_init 151 = .ok (.getfield 43, 3) := by decide +kernel
theorem dX9_init_154 : decode cX9_init 154 = .ok (.invokespecial 79, 3) := by decide +kernel
theorem dX9_init_157 : decode cX9_init 157 = .ok (.putfield 80, 3) := by decide +kernel
theorem dX9_init_160 : decode cX9_init 160 = .ok (.aload_n 0, 1) := by decide +kernel
theorem dX9_init_161 : decode cX9_init 161 = .ok (.iconst 0, 1) := by decide +kernel
theorem dX9_init_162 : decode cX9_init 162 = .ok (.putfield 84, 3) := by decide +kernel
theorem dX9_init_165 : decode cX9_init 165 = .ok (.aload_n 0, 1) := by decide +kernel
theorem dX9_init_166 : decode cX9_init 166 = .ok (.lconst 0, 1) := by decide +kernel
theorem dX9_init_167 : decode cX9_init 167 = .ok (.putfield 87, 3) := by decide +kernel
theorem dX9_init_170 : decode cX9_init 170 = .ok (.aload_n 0, 1) := by decide +kernel
theorem dX9_init_171 : decode cX9_init 171 = .ok (.lconst 1, 1) := by decide +kernel
theorem dX9_init_172 : decode cX9_init 172 = .ok (.putfield 91, 3) := by decide +kernel
theorem dX9_init_175 : decode cX9_init 175 = .ok (.aload_n 0, 1) := by decide +kernel
theorem dX9_init_176 : decode cX9_init 176 = .ok (.iconst (-1), 1) := by decide +kernel
theorem dX9_init_177 : decode cX9_init 177 = .ok (.putfield 94, 3) := by decide +kernel
theorem dX9_init_180 : decode cX9_init 180 = .ok (.aload_n 0, 1) := by decide +kernel
theorem dX9_init_181 : decode cX9_init 181 = .ok (.iconst (-1), 1) := by decide +kernel
theorem dX9_init_182 : decode cX9_init 182 = .ok (.putfield 97, 3) := by decide +kernel
theorem dX9_init_185 : decode cX9_init 185 = .ok (.aload_n 0, 1) := by decide +kernel
theorem dX9_init_186 : decode cX9_init 186 = .ok (.iconst (-1), 1) := by decide +kernel
theorem dX9_init_187 : decode cX9_init 187 = .ok (.putfield 100, 3) := by decide +kernel
theorem dX9_init_190 : decode cX9_init 190 = .ok (.iconst 0, 1) := by decide +kernel
theorem dX9_init_191 : decode cX9_init 191 = .ok (.istore_n 1, 1) := by decide +kernel
theorem dX9_init_192 : decode cX9_init 192 = .ok (.iload_n 1, 1) := by decide +kernel
theorem dX9_init_193 : decode cX9_init 193 = .ok (.iconst 3, 1) := by decide +kernel
theorem dX9_init_194 : decode cX9_init 194 = .ok (.if_icmp .ge 22, 3) := by decide +kernel
theorem dX9_init_197 : decode cX9_init 197 = .ok (.aload_n 0, 1) := by decide +kernel
theorem dX9_init_198 : decode cX9_init 198 = .ok (.getfield 16, 3) := by decide +kernel
theorem dX9_init_201 : decode cX9_init 201 = .ok (.iload_n 1, 1) := by decide +kernel
theorem dX9_init_202 : decode cX9_init 202 = .ok (.new 7, 3) := by decide +kernel
theorem dX9_init_205 : decode cX9_init 205 = .ok (.dup, 1) := by decide +kernel
theorem dX9_init_206 : decode cX9_init 206 = .ok (.invokespecial 9, 3) := by decide +kernel
theorem dX9_init_209 : decode cX9_init 209 = .ok (.aastore, 1) := by decide +kernel
theorem dX9_init_210 : decode cX9_init 210 = .ok (.iinc 1 1, 3) := by decide +kernel
theorem dX9_init_213 : decode cX9_init 213 = .ok (.goto (-21), 3) := by decide +kernel
theorem dX9_init_216 : decode cX9_init 216 = .ok (.return_, 1) := by decide +kernel
theorem dX9_status_0 : decode cX9_status 0 = .ok (.aload_n 0, 1) := by decide +kernel
theorem dX9_status_1 : decode cX9_status 1 = .ok (.getfield 84, 3) := by decide +kernel
theorem dX9_status_4 : decode cX9_status 4 = .ok (.ireturn, 1) := by decide +kernel
theorem dX9_top_0 : decode cX9_top 0 = .ok (.aload_n 0, 1) := by decide +kernel
theorem dX9_top_1 : decode cX9_top 1 = .ok (.getfield 87, 3) := by decide +kernel
theorem dX9_top_4 : decode cX9_top 4 = .ok (.lreturn, 1) := by decide +kernel
theorem dX9_bottom_0 : decode cX9_bottom 0 = .ok (.aload_n 0, 1) := by decide +kernel
theorem dX9_bottom_1 : decode cX9_bottom 1 = .ok (.getfield 91, 3) := by decide +kernel
theorem dX9_bottom_4 : decode cX9_bottom 4 = .ok (.lreturn, 1) := by decide +kernel
theorem dX9_tray_0 : decode cX9_tray 0 = .ok (.iload_n 1, 1) := by decide +kernel
theorem dX9_tray_1 : decode cX9_tray 1 = .ok (.invokestatic 103, 3) := by decide +kernel
theorem dX9_tray_4 : decode cX9_tray 4 = .ok (.ifCond .eq 22, 3) := by decide +kernel
theorem dX9_tray_7 : decode cX9_tray 7 = .ok (.iload_n 2, 1) := by decide +kernel
theorem dX9_tray_8 : decode cX9_tray 8 = .ok (.iconst 0, 1) := by decide +kernel
theorem dX9_tray_9 : decode cX9_tray 9 = .ok (.iconst 3, 1) := by decide +kernel
theorem dX9_tray_10 : decode cX9_tray 10 = .ok (.invokestatic 107, 3) := by decide +kernel
theorem dX9_tray_13 : decode cX9_tray 13 = .ok (.ifCond .eq 13, 3) := by decide +kernel
theorem dX9_tray_16 : decode cX9_tray 16 = .ok (.iload_n 3, 1) := by decide +kernel
theorem dX9_tray_17 : decode cX9_tray 17 = .ok (.iconst 0, 1) := by decide +kernel
theorem dX9_tray_18 : decode cX9_tray 18 = .ok (.bipush 60, 2) := by decide +kernel
theorem dX9_tray_20 : decode cX9_tray 20 = .ok (.invokestatic 107, 3) := by decide +kernel
theorem dX9_tray_23 : decode cX9_tray 23 = .ok (.ifCond .ne 9, 3) := by decide +kernel
theorem dX9_tray_26 : decode cX9_tray 26 = .ok (.aload_n 0, 1) := by decide +kernel
theorem dX9_tray_27 : decode cX9_tray 27 = .ok (.iconst 1, 1) := by decide +kernel
theorem dX9_tray_28 : decode cX9_tray 28 = .ok (.invokevirtual 111, 3) := by decide +kernel
theorem dX9_tray_31 : decode cX9_tray 31 = .ok (.ireturn, 1) := by decide +kernel
theorem dX9_tray_32 : decode cX9_tray 32 = .ok (.aload_n 0, 1) := by decide +kernel
theorem dX9_tray_33 : decode cX9_tray 33 = .ok (.getfield 27, 3) := by decide +kernel
theorem dX9_tray_36 : decode cX9_tray 36 = .ok (.iload_n 1, 1) := by decide +kernel
theorem dX9_tray_37 : decode cX9_tray 37 = .ok (.iload_n 2, 1) := by decide +kernel
theorem dX9_tray_38 : decode cX9_tray 38 = .ok (.iload_n 3, 1) := by decide +kernel
theorem dX9_tray_39 : decode cX9_tray 39 = .ok (.invokevirtual 114, 3) := by decide +kernel
theorem dX9_tray_42 : decode cX9_tray 42 = .ok (.aload_n 0, 1) := by decide +kernel
theorem dX9_tray_43 : decode cX9_tray 43 = .ok (.invokevirtual 118, 3) := by decide +kernel
theorem dX9_tray_46 : decode cX9_tray 46 = .ok (.ireturn, 1) := by decide +kernel
theorem dX9_write_0 : decode cX9_write 0 = .ok (.aload_n 0, 1) := by decide +kernel
theorem dX9_write_1 : decode cX9_write 1 = .ok (.iload_n 1, 1) := by decide +kernel
theorem dX9_write_2 : decode cX9_write 2 = .ok (.iload_n 2, 1) := by decide +kernel
theorem dX9_write_3 : decode cX9_write 3 = .ok (.invokevirtual 122, 3) := by decide +kernel
theorem dX9_write_6 : decode cX9_write 6 = .ok (.istore 5, 2) := by decide +kernel
theorem dX9_write_8 : decode cX9_write 8 = .ok (.iload 5, 2) := by decide +kernel
theorem dX9_write_10 : decode cX9_write 10 = .ok (.ifCond .eq 10, 3) := by decide +kernel
theorem dX9_write_13 : decode cX9_write 13 = .ok (.aload_n 0, 1) := by decide +kernel
theorem dX9_write_14 : decode cX9_write 14 = .ok (.iload 5, 2) := by decide +kernel
theorem dX9_write_16 : decode cX9_write 16 = .ok (.invokevirtual 111, 3) := by decide +kernel
theorem dX9_write_19 : decode cX9_write 19 = .ok (.ireturn, 1) := by decide +kernel
theorem dX9_write_20 : decode cX9_write 20 = .ok (.aload_n 0, 1) := by decide +kernel
theorem dX9_write_21 : decode cX9_write 21 = .ok (.getfield 27, 3) := by decide +kernel
theorem dX9_write_24 : decode cX9_write 24 = .ok (.iload_n 1, 1) := by decide +kernel
theorem dX9_write_25 : decode cX9_write 25 = .ok (.iload_n 2, 1) := by decide +kernel
theorem dX9_write_26 : decode cX9_write 26 = .ok (.lload_n 3, 1) := by decide +kernel
theorem dX9_write_27 : decode cX9_write 27 = .ok (.invokevirtual 126, 3) := by decide +kernel
theorem dX9_write_30 : decode cX9_write 30 = .ok (.aload_n 0, 1) := by decide +kernel
theorem dX9_write_31 : decode cX9_write 31 = .ok (.invokevirtual 118, 3) := by decide +kernel
theorem dX9_write_34 : decode cX9_write 34 = .ok (.ireturn, 1) := by decide +kernel
theorem dX9_read_0 : decode cX9_read 0 = .ok (.aload_n 0, 1) := by decide +kernel
theorem dX9_read_1 : decode cX9_read 1 = .ok (.iload_n 1, 1) := by decide +kernel
theorem dX9_read_2 : decode cX9_read 2 = .ok (.iload_n 2, 1) := by decide +kernel
theorem dX9_read_3 : decode cX9_read 3 = .ok (.invokevirtual 122, 3) := by decide +kernel
theorem dX9_read_6 : decode cX9_read 6 = .ok (.istore_n 3, 1) := by decide +kernel
theorem dX9_read_7 : decode cX9_read 7 = .ok (.iload_n 3, 1) := by decide +kernel
theorem dX9_read_8 : decode cX9_read 8 = .ok (.ifCond .eq 10, 3) := by decide +kernel
theorem dX9_read_11 : decode cX9_read 11 = .ok (.aload_n 0, 1) := by decide +kernel
theorem dX9_read_12 : decode cX9_read 12 = .ok (.iload_n 3, 1) := by decide +kernel
theorem dX9_read_13 : decode cX9_read 13 = .ok (.invokevirtual 130, 3) := by decide +kernel
theorem dX9_read_16 : decode cX9_read 16 = .ok (.i2l, 1) := by decide +kernel
theorem dX9_read_17 : decode cX9_read 17 = .ok (.lreturn, 1) := by decide +kernel
theorem dX9_read_18 : decode cX9_read 18 = .ok (.aload_n 0, 1) := by decide +kernel
theorem dX9_read_19 : decode cX9_read 19 = .ok (.invokevirtual 118, 3) := by decide +kernel
theorem dX9_read_22 : decode cX9_read 22 = .ok (.pop, 1) := by decide +kernel
theorem dX9_read_23 : decode cX9_read 23 = .ok (.aload_n 0, 1) := by decide +kernel
theorem dX9_read_24 : decode cX9_read 24 = .ok (.getfield 27, 3) := by decide +kernel
theorem dX9_read_27 : decode cX9_read 27 = .ok (.getfield 134, 3) := by decide +kernel
theorem dX9_read_30 : decode cX9_read 30 = .ok (.iload_n 1, 1) := by decide +kernel
theorem dX9_read_31 : decode cX9_read 31 = .ok (.aaload, 1) := by decide +kernel
theorem dX9_read_32 : decode cX9_read 32 = .ok (.iload_n 2, 1) := by decide +kernel
theorem dX9_read_33 : decode cX9_read 33 = .ok (.laload, 1) := by decide +kernel
theorem dX9_read_34 : decode cX9_read 34 = .ok (.lreturn, 1) := by decide +kernel
theorem dX9_pour_0 : decode cX9_pour 0 = .ok (.iload_n 1, 1) := by decide +kernel
theorem dX9_pour_1 : decode cX9_pour 1 = .ok (.invokestatic 103, 3) := by decide +kernel
theorem dX9_pour_4 : decode cX9_pour 4 = .ok (.ifCond .eq 24, 3) := by decide +kernel
theorem dX9_pour_7 : decode cX9_pour 7 = .ok (.iload_n 3, 1) := by decide +kernel
theorem dX9_pour_8 : decode cX9_pour 8 = .ok (.invokestatic 103, 3) := by decide +kernel
theorem dX9_pour_11 : decode cX9_pour 11 = .ok (.ifCond .eq 17, 3) := by decide +kernel
theorem dX9_pour_14 : decode cX9_pour 14 = .ok (.iload_n 2, 1) := by decide +kernel
theorem dX9_pour_15 : decode cX9_pour 15 = .ok (.ifCond .lt 13, 3) := by decide +kernel
theorem dX9_pour_18 : decode cX9_pour 18 = .ok (.iload 4, 2) := by decide +kernel
theorem dX9_pour_20 : decode cX9_pour 20 = .ok (.ifCond .lt 8, 3) := by decide +kernel
theorem dX9_pour_23 : decode cX9_pour 23 = .ok (.iload 5, 2) := by decide +kernel
theorem dX9_pour_25 : decode cX9_pour 25 = .ok (.ifCond .ge 9, 3) := by decide +kernel
theorem dX9_pour_28 : decode cX9_pour 28 = .ok (.aload_n 0, 1) := by decide +kernel
theorem dX9_pour_29 : decode cX9_pour 29 = .ok (.iconst 1, 1) := by decide +kernel
theorem dX9_pour_30 : decode cX9_pour 30 = .ok (.invokevirtual 111, 3) := by decide +kernel
theorem dX9_pour_33 : decode cX9_pour 33 = .ok (.ireturn, 1) := by decide +kernel
theorem dX9_pour_34 : decode cX9_pour 34 = .ok (.aload_n 0, 1) := by decide +kernel
theorem dX9_pour_35 : decode cX9_pour 35 = .ok (.getfield 27, 3) := by decide +kernel
theorem dX9_pour_38 : decode cX9_pour 38 = .ok (.iload_n 1, 1) := by decide +kernel
theorem dX9_pour_39 : decode cX9_pour 39 = .ok (.invokevirtual 138, 3) := by decide +kernel
theorem dX9_pour_42 : decode cX9_pour 42 = .ok (.ifCond .ne 14, 3) := by decide +kernel
theorem dX9_pour_45 : decode cX9_pour 45 = .ok (.aload_n 0, 1) := by decide +kernel
theorem dX9_pour_46 : decode cX9_pour 46 = .ok (.getfield 27, 3) := by decide +kernel
theorem dX9_pour_49 : decode cX9_pour 49 = .ok (.iload_n 3, 1) := by decide +kernel
theorem dX9_pour_50 : decode cX9_pour 50 = .ok (.invokevirtual 138, 3) := by decide +kernel
theorem dX9_pour_53 : decode cX9_pour 53 = .ok (.ifCond .eq 9, 3) := by decide +kernel
theorem dX9_pour_56 : decode cX9_pour 56 = .ok (.aload_n 0, 1) := by decide +kernel
theorem dX9_pour_57 : decode cX9_pour 57 = .ok (.iconst 2, 1) := by decide +kernel
theorem dX9_pour_58 : decode cX9_pour 58 = .ok (.invokevirtual 111, 3) := by decide +kernel
theorem dX9_pour_61 : decode cX9_pour 61 = .ok (.ireturn, 1) := by decide +kernel
theorem dX9_pour_62 : decode cX9_pour 62 = .ok (.aload_n 0, 1) := by decide +kernel
theorem dX9_pour_63 : decode cX9_pour 63 = .ok (.getfield 27, 3) := by decide +kernel
theorem dX9_pour_66 : decode cX9_pour 66 = .ok (.getfield 141, 3) := by decide +kernel
theorem dX9_pour_69 : decode cX9_pour 69 = .ok (.iload_n 1, 1) := by decide +kernel
theorem dX9_pour_70 : decode cX9_pour 70 = .ok (.iaload, 1) := by decide +kernel
theorem dX9_pour_71 : decode cX9_pour 71 = .ok (.aload_n 0, 1) := by decide +kernel
theorem dX9_pour_72 : decode cX9_pour 72 = .ok (.getfield 27, 3) := by decide +kernel
theorem dX9_pour_75 : decode cX9_pour 75 = .ok (.getfield 141, 3) := by decide +kernel
theorem dX9_pour_78 : decode cX9_pour 78 = .ok (.iload_n 3, 1) := by decide +kernel
theorem dX9_pour_79 : decode cX9_pour 79 = .ok (.iaload, 1) := by decide +kernel
theorem dX9_pour_80 : decode cX9_pour 80 = .ok (.if_icmp .eq 10, 3) := by decide +kernel
theorem dX9_pour_83 : decode cX9_pour 83 = .ok (.aload_n 0, 1) := by decide +kernel
theorem dX9_pour_84 : decode cX9_pour 84 = .ok (.bipush 8, 2) := by decide +kernel
theorem dX9_pour_86 : decode cX9_pour 86 = .ok (.invokevirtual 111, 3) := by decide +kernel
theorem dX9_pour_89 : decode cX9_pour 89 = .ok (.ireturn, 1) := by decide +kernel
theorem dX9_pour_90 : decode cX9_pour 90 = .ok (.aload_n 0, 1) := by decide +kernel
theorem dX9_pour_91 : decode cX9_pour 91 = .ok (.getfield 27, 3) := by decide +kernel
theorem dX9_pour_94 : decode cX9_pour 94 = .ok (.iload_n 1, 1) := by decide +kernel
theorem dX9_pour_95 : decode cX9_pour 95 = .ok (.iload_n 2, 1) := by decide +kernel
theorem dX9_pour_96 : decode cX9_pour 96 = .ok (.iload 5, 2) := by decide +kernel
theorem dX9_pour_98 : decode cX9_pour 98 = .ok (.invokevirtual 145, 3) := by decide +kernel
theorem dX9_pour_101 : decode cX9_pour 101 = .ok (.ifCond .eq 18, 3) := by decide +kernel
theorem dX9_pour_104 : decode cX9_pour 104 = .ok (.aload_n 0, 1) := by decide +kernel
theorem dX9_pour_105 : decode cX9_pour 105 = .ok (.getfield 27, 3) := by decide +kernel
theorem dX9_pour_108 : decode cX9_pour 108 = .ok (.iload_n 3, 1) := by decide +kernel
theorem dX9_pour_109 : decode cX9_pour 109 = .ok (.iload 4, 2) := by decide +kernel
theorem dX9_pour_111 : decode cX9_pour 111 = .ok (.iload 5, 2) := by decide +kernel
theorem dX9_pour_113 : decode cX9_pour 113 = .ok (.invokevirtual 145, 3) := by decide +kernel
theorem dX9_pour_116 : decode cX9_pour 116 = .ok (.ifCond .ne 9, 3) := by decide +kernel
theorem dX9_pour_119 : decode cX9_pour 119 = .ok (.aload_n 0, 1) := by decide +kernel
theorem dX9_pour_120 : decode cX9_pour 120 = .ok (.iconst 3, 1) := by decide +kernel
theorem dX9_pour_121 : decode cX9_pour 121 = .ok (.invokevirtual 111, 3) := by decide +kernel
theorem dX9_pour_124 : decode cX9_pour 124 = .ok (.ireturn, 1) := by decide +kernel
theorem dX9_pour_125 : decode cX9_pour 125 = .ok (.aload_n 0, 1) := by decide +kernel
theorem dX9_pour_126 : decode cX9_pour 126 = .ok (.getfield 27, 3) := by decide +kernel
theorem dX9_pour_129 : decode cX9_pour 129 = .ok (.iload_n 1, 1) := by decide +kernel
theorem dX9_pour_130 : decode cX9_pour 130 = .ok (.iload_n 2, 1) := by decide +kernel
theorem dX9_pour_131 : decode cX9_pour 131 = .ok (.iload_n 3, 1) := by decide +kernel
theorem dX9_pour_132 : decode cX9_pour 132 = .ok (.iload 4, 2) := by decide +kernel
theorem dX9_pour_134 : decode cX9_pour 134 = .ok (.iload 5, 2) := by decide +kernel
theorem dX9_pour_136 : decode cX9_pour 136 = .ok (.invokevirtual 148, 3) := by decide +kernel
theorem dX9_pour_139 : decode cX9_pour 139 = .ok (.aload_n 0, 1) := by decide +kernel
theorem dX9_pour_140 : decode cX9_pour 140 = .ok (.invokevirtual 118, 3) := by decide +kernel
theorem dX9_pour_143 : decode cX9_pour 143 = .ok (.ireturn, 1) := by decide +kernel
theorem dX9_feed_0 : decode cX9_feed 0 = .ok (.aload_n 0, 1) := by decide +kernel
theorem dX9_feed_1 : decode cX9_feed 1 = .ok (.getfield 34, 3) := by decide +kernel
theorem dX9_feed_4 : decode cX9_feed 4 = .ok (.getfield 152, 3) := by decide +kernel
theorem dX9_feed_7 : decode cX9_feed 7 = .ok (.bipush 20, 2) := by decide +kernel
theorem dX9_feed_9 : decode cX9_feed 9 = .ok (.iadd, 1) := by decide +kernel
theorem dX9_feed_10 : decode cX9_feed 10 = .ok (.sipush 600, 3) := by decide +kernel
theorem dX9_feed_13 : decode cX9_feed 13 = .ok (.if_icmp .le 5, 3) := by decide +kernel
theorem dX9_feed_16 : decode cX9_feed 16 = .ok (.iconst (-1), 1) := by decide +kernel
theorem dX9_feed_17 : decode cX9_feed 17 = .ok (.ireturn, 1) := by decide +kernel
theorem dX9_feed_18 : decode cX9_feed 18 = .ok (.aload_n 0, 1) := by decide +kernel
theorem dX9_feed_19 : decode cX9_feed 19 = .ok (.getfield 34, 3) := by decide +kernel
theorem dX9_feed_22 : decode cX9_feed 22 = .ok (.iload_n 1, 1) := by decide +kernel
theorem dX9_feed_23 : decode cX9_feed 23 = .ok (.invokevirtual 155, 3) := by decide +kernel
theorem dX9_feed_26 : decode cX9_feed 26 = .ok (.aload_n 0, 1) := by decide +kernel
theorem dX9_feed_27 : decode cX9_feed 27 = .ok (.getfield 34, 3) := by decide +kernel
theorem dX9_feed_30 : decode cX9_feed 30 = .ok (.iload_n 2, 1) := by decide +kernel
theorem dX9_feed_31 : decode cX9_feed 31 = .ok (.invokevirtual 155, 3) := by decide +kernel
theorem dX9_feed_34 : decode cX9_feed 34 = .ok (.aload_n 0, 1) := by decide +kernel
theorem dX9_feed_35 : decode cX9_feed 35 = .ok (.getfield 34, 3) := by decide +kernel
theorem dX9_feed_38 : decode cX9_feed 38 = .ok (.iload_n 3, 1) := by decide +kernel
theorem dX9_feed_39 : decode cX9_feed 39 = .ok (.invokevirtual 155, 3) := by decide +kernel
theorem dX9_feed_42 : decode cX9_feed 42 = .ok (.aload_n 0, 1) := by decide +kernel
theorem dX9_feed_43 : decode cX9_feed 43 = .ok (.getfield 34, 3) := by decide +kernel
theorem dX9_feed_46 : decode cX9_feed 46 = .ok (.iload 4, 2) := by decide +kernel
theorem dX9_feed_48 : decode cX9_feed 48 = .ok (.invokevirtual 155, 3) := by decide +kernel
theorem dX9_feed_51 : decode cX9_feed 51 = .ok (.aload_n 0, 1) := by decide +kernel
theorem dX9_feed_52 : decode cX9_feed 52 = .ok (.getfield 34, 3) := by decide +kernel
theorem dX9_feed_55 : decode cX9_feed 55 = .ok (.iload 5, 2) := by decide +kernel
theorem dX9_feed_57 : decode cX9_feed 57 = .ok (.invokevirtual 155, 3) := by decide +kernel
theorem dX9_feed_60 : decode cX9_feed 60 = .ok (.aload_n 0, 1) := by decide +kernel
theorem dX9_feed_61 : decode cX9_feed 61 = .ok (.getfield 34, 3) := by decide +kernel
theorem dX9_feed_64 : decode cX9_feed 64 = .ok (.getfield 152, 3) := by decide +kernel
theorem dX9_feed_67 : decode cX9_feed 67 = .ok (.ireturn, 1) := by decide +kernel
theorem dX9_village_0 : decode cX9_village 0 = .ok (.iload_n 1, 1) := by decide +kernel
theorem dX9_village_1 : decode cX9_village 1 = .ok (.ifCond .lt 14, 3) := by decide +kernel
theorem dX9_village_4 : decode cX9_village 4 = .ok (.iload_n 1, 1) := by decide +kernel
theorem dX9_village_5 : decode cX9_village 5 = .ok (.aload_n 0, 1) := by decide +kernel
theorem dX9_village_6 : decode cX9_village 6 = .ok (.getfield 34, 3) := by decide +kernel
theorem dX9_village_9 : decode cX9_village 9 = .ok (.getfield 152, 3) := by decide +kernel
theorem dX9_village_12 : decode cX9_village 12 = .ok (.if_icmp .le 9, 3) := by decide +kernel
theorem dX9_village_15 : decode cX9_village 15 = .ok (.aload_n 0, 1) := by decide +kernel
theorem dX9_village_16 : decode cX9_village 16 = .ok (.iconst 1, 1) := by decide +kernel
theorem dX9_village_17 : decode cX9_village 17 = .ok (.invokevirtual 130, 3) := by decide +kernel
theorem dX9_village_20 : decode cX9_village 20 = .ok (.ireturn, 1) := by decide +kernel
theorem dX9_village_21 : decode cX9_village 21 = .ok (.aload_n 0, 1) := by decide +kernel
theorem dX9_village_22 : decode cX9_village 22 = .ok (.getfield 34, 3) := by decide +kernel
theorem dX9_village_25 : decode cX9_village 25 = .ok (.iload_n 1, 1) := by decide +kernel
theorem dX9_village_26 : decode cX9_village 26 = .ok (.invokevirtual 159, 3) := by decide +kernel
theorem dX9_village_29 : decode cX9_village 29 = .ok (.istore_n 2, 1) := by decide +kernel
theorem dX9_village_30 : decode cX9_village 30 = .ok (.aload_n 0, 1) := by decide +kernel
theorem dX9_village_31 : decode cX9_village 31 = .ok (.getfield 34, 3) := by decide +kernel
theorem dX9_village_34 : decode cX9_village 34 = .ok (.iconst 0, 1) := by decide +kernel
theorem dX9_village_35 : decode cX9_village 35 = .ok (.putfield 152, 3) := by decide +kernel
theorem dX9_village_38 : decode cX9_village 38 = .ok (.aload_n 0, 1) := by decide +kernel
theorem dX9_village_39 : decode cX9_village 39 = .ok (.aload_n 0, 1) := by decide +kernel
theorem dX9_village_40 : decode cX9_village 40 = .ok (.getfield 34, 3) := by decide +kernel
theorem dX9_village_43 : decode cX9_village 43 = .ok (.getfield 162, 3) := by decide +kernel
theorem dX9_village_46 : decode cX9_village 46 = .ok (.putfield 94, 3) := by decide +kernel
theorem dX9_village_49 : decode cX9_village 49 = .ok (.aload_n 0, 1) := by decide +kernel
theorem dX9_village_50 : decode cX9_village 50 = .ok (.aload_n 0, 1) := by decide +kernel
theorem dX9_village_51 : decode cX9_village 51 = .ok (.getfield 34, 3) := by decide +kernel
theorem dX9_village_54 : decode cX9_village 54 = .ok (.getfield 165, 3) := by decide +kernel
theorem dX9_village_57 : decode cX9_village 57 = .ok (.putfield 97, 3) := by decide +kernel
theorem dX9_village_60 : decode cX9_village 60 = .ok (.iload_n 2, 1) := by decide +kernel
theorem dX9_village_61 : decode cX9_village 61 = .ok (.ifCond .ne 10, 3) := by decide +kernel
theorem dX9_village_64 : decode cX9_village 64 = .ok (.aload_n 0, 1) := by decide +kernel
theorem dX9_village_65 : decode cX9_village 65 = .ok (.bipush 9, 2) := by decide +kernel
theorem dX9_village_67 : decode cX9_village 67 = .ok (.invokevirtual 130, 3) := by decide +kernel
theorem dX9_village_70 : decode cX9_village 70 = .ok (.ireturn, 1) := by decide +kernel
theorem dX9_village_71 : decode cX9_village 71 = .ok (.aload_n 0, 1) := by decide +kernel
theorem dX9_village_72 : decode cX9_village 72 = .ok (.getfield 10, 3) := by decide +kernel
theorem dX9_village_75 : decode cX9_village 75 = .ok (.aload_n 0, 1) := by decide +kernel
theorem dX9_village_76 : decode cX9_village 76 = .ok (.getfield 34, 3) := by decide +kernel
theorem dX9_village_79 : decode cX9_village 79 = .ok (.getfield 168, 3) := by decide +kernel
theorem dX9_village_82 : decode cX9_village 82 = .ok (.invokevirtual 171, 3) := by decide +kernel
theorem dX9_village_85 : decode cX9_village 85 = .ok (.aload_n 0, 1) := by decide +kernel
theorem dX9_village_86 : decode cX9_village 86 = .ok (.getfield 43, 3) := by decide +kernel
theorem dX9_village_89 : decode cX9_village 89 = .ok (.invokevirtual 174, 3) := by decide +kernel
theorem dX9_village_92 : decode cX9_village 92 = .ok (.aload_n 0, 1) := by decide +kernel
theorem dX9_village_93 : decode cX9_village 93 = .ok (.aload_n 0, 1) := by decide +kernel
theorem dX9_village_94 : decode cX9_village 94 = .ok (.getfield 10, 3) := by decide +kernel
theorem dX9_village_97 : decode cX9_village 97 = .ok (.getfield 177, 3) := by decide +kernel
theorem dX9_village_100 : decode cX9_village 100 = .ok (.invokevirtual 180, 3) := by decide +kernel
theorem dX9_village_103 : decode cX9_village 103 = .ok (.ireturn, 1) := by decide +kernel
theorem dX9_fault_0 : decode cX9_fault 0 = .ok (.iload_n 1, 1) := by decide +kernel
theorem dX9_fault_1 : decode cX9_fault 1 = .ok (.ifCond .ne 8, 3) := by decide +kernel
theorem dX9_fault_4 : decode cX9_fault 4 = .ok (.aload_n 0, 1) := by decide +kernel
theorem dX9_fault_5 : decode cX9_fault 5 = .ok (.getfield 94, 3) := by decide +kernel
theorem dX9_fault_8 : decode cX9_fault 8 = .ok (.ireturn, 1) := by decide +kernel
theorem dX9_fault_9 : decode cX9_fault 9 = .ok (.iload_n 1, 1) := by decide +kernel
theorem dX9_fault_10 : decode cX9_fault 10 = .ok (.iconst 1, 1) := by decide +kernel
theorem dX9_fault_11 : decode cX9_fault 11 = .ok (.if_icmp .ne 10, 3) := by decide +kernel
theorem dX9_fault_14 : decode cX9_fault 14 = .ok (.aload_n 0, 1) := by decide +kernel
theorem dX9_fault_15 : decode cX9_fault 15 = .ok (.getfield 97, 3) := by decide +kernel
theorem dX9_fault_18 : decode cX9_fault 18 = .ok (.goto 4, 3) := by decide +kernel
theorem dX9_fault_21 : decode cX9_fault 21 = .ok (.iconst (-1), 1) := by decide +kernel
theorem dX9_fault_22 : decode cX9_fault 22 = .ok (.ireturn, 1) := by decide +kernel
theorem dX9_many_0 : decode cX9_many 0 = .ok (.iload_n 1, 1) := by decide +kernel
theorem dX9_many_1 : decode cX9_many 1 = .ok (.tableswitch 63 0 2 #[27, 39, 51], 27) := by decide +kernel
theorem dX9_many_28 : decode cX9_many 28 = .ok (.aload_n 0, 1) := by decide +kernel
theorem dX9_many_29 : decode cX9_many 29 = .ok (.aload_n 0, 1) := by decide +kernel
theorem dX9_many_30 : decode cX9_many 30 = .ok (.getfield 10, 3) := by decide +kernel
theorem dX9_many_33 : decode cX9_many 33 = .ok (.getfield 177, 3) := by decide +kernel
theorem dX9_many_36 : decode cX9_many 36 = .ok (.invokevirtual 180, 3) := by decide +kernel
theorem dX9_many_39 : decode cX9_many 39 = .ok (.ireturn, 1) := by decide +kernel
theorem dX9_many_40 : decode cX9_many 40 = .ok (.aload_n 0, 1) := by decide +kernel
theorem dX9_many_41 : decode cX9_many 41 = .ok (.aload_n 0, 1) := by decide +kernel
theorem dX9_many_42 : decode cX9_many 42 = .ok (.getfield 10, 3) := by decide +kernel
theorem dX9_many_45 : decode cX9_many 45 = .ok (.getfield 183, 3) := by decide +kernel
theorem dX9_many_48 : decode cX9_many 48 = .ok (.invokevirtual 180, 3) := by decide +kernel
theorem dX9_many_51 : decode cX9_many 51 = .ok (.ireturn, 1) := by decide +kernel
theorem dX9_many_52 : decode cX9_many 52 = .ok (.aload_n 0, 1) := by decide +kernel
theorem dX9_many_53 : decode cX9_many 53 = .ok (.aload_n 0, 1) := by decide +kernel
theorem dX9_many_54 : decode cX9_many 54 = .ok (.getfield 10, 3) := by decide +kernel
theorem dX9_many_57 : decode cX9_many 57 = .ok (.getfield 186, 3) := by decide +kernel
theorem dX9_many_60 : decode cX9_many 60 = .ok (.invokevirtual 180, 3) := by decide +kernel
theorem dX9_many_63 : decode cX9_many 63 = .ok (.ireturn, 1) := by decide +kernel
theorem dX9_many_64 : decode cX9_many 64 = .ok (.aload_n 0, 1) := by decide +kernel
theorem dX9_many_65 : decode cX9_many 65 = .ok (.iconst 1, 1) := by decide +kernel
theorem dX9_many_66 : decode cX9_many 66 = .ok (.invokevirtual 130, 3) := by decide +kernel
theorem dX9_many_69 : decode cX9_many 69 = .ok (.ireturn, 1) := by decide +kernel
theorem dX9_strip_0 : decode cX9_strip 0 = .ok (.aload_n 0, 1) := by decide +kernel
theorem dX9_strip_1 : decode cX9_strip 1 = .ok (.getfield 10, 3) := by decide +kernel
theorem dX9_strip_4 : decode cX9_strip 4 = .ok (.iload_n 1, 1) := by decide +kernel
theorem dX9_strip_5 : decode cX9_strip 5 = .ok (.invokevirtual 189, 3) := by decide +kernel
theorem dX9_strip_8 : decode cX9_strip 8 = .ok (.ifCond .ne 9, 3) := by decide +kernel
theorem dX9_strip_11 : decode cX9_strip 11 = .ok (.aload_n 0, 1) := by decide +kernel
theorem dX9_strip_12 : decode cX9_strip 12 = .ok (.iconst 1, 1) := by decide +kernel
theorem dX9_strip_13 : decode cX9_strip 13 = .ok (.invokevirtual 130, 3) := by decide +kernel
theorem dX9_strip_16 : decode cX9_strip 16 = .ok (.ireturn, 1) := by decide +kernel
theorem dX9_strip_17 : decode cX9_strip 17 = .ok (.iload_n 2, 1) := by decide +kernel
theorem dX9_strip_18 : decode cX9_strip 18 = .ok (.tableswitch 126 0 4 #[34, 48, 62, 76, 90], 34) := by decide +kernel
theorem dX9_strip_52 : decode cX9_strip 52 = .ok (.aload_n 0, 1) := by decide +kernel
theorem dX9_strip_53 : decode cX9_strip 53 = .ok (.aload_n 0, 1) := by decide +kernel
theorem dX9_strip_54 : decode cX9_strip 54 = .ok (.getfield 10, 3) := by decide +kernel
theorem dX9_strip_57 : decode cX9_strip 57 = .ok (.getfield 192, 3) := by decide +kernel
theorem dX9_strip_60 : decode cX9_strip 60 = .ok (.iload_n 1, 1) := by decide +kernel
theorem dX9_strip_61 : decode cX9_strip 61 = .ok (.iaload, 1) := by decide +kernel
theorem dX9_strip_62 : decode cX9_strip 62 = .ok (.invokevirtual 180, 3) := by decide +kernel
theorem dX9_strip_65 : decode cX9_strip 65 = .ok (.ireturn, 1) := by decide +kernel
theorem dX9_strip_66 : decode cX9_strip 66 = .ok (.aload_n 0, 1) := by decide +kernel
theorem dX9_strip_67 : decode cX9_strip 67 = .ok (.aload_n 0, 1) := by decide +kernel
theorem dX9_strip_68 : decode cX9_strip 68 = .ok (.getfield 10, 3) := by decide +kernel
theorem dX9_strip_71 : decode cX9_strip 71 = .ok (.getfield 195, 3) := by decide +kernel
theorem dX9_strip_74 : decode cX9_strip 74 = .ok (.iload_n 1, 1) := by decide +kernel
theorem dX9_strip_75 : decode cX9_strip 75 = .ok (.iaload, 1) := by decide +kernel
theorem dX9_strip_76 : decode cX9_strip 76 = .ok (.invokevirtual 180, 3) := by decide +kernel
theorem dX9_strip_79 : decode cX9_strip 79 = .ok (.ireturn, 1) := by decide +kernel
theorem dX9_strip_80 : decode cX9_strip 80 = .ok (.aload_n 0, 1) := by decide +kernel
theorem dX9_strip_81 : decode cX9_strip 81 = .ok (.aload_n 0, 1) := by decide +kernel
theorem dX9_strip_82 : decode cX9_strip 82 = .ok (.getfield 10, 3) := by decide +kernel
theorem dX9_strip_85 : decode cX9_strip 85 = .ok (.getfield 198, 3) := by decide +kernel
theorem dX9_strip_88 : decode cX9_strip 88 = .ok (.iload_n 1, 1) := by decide +kernel
theorem dX9_strip_89 : decode cX9_strip 89 = .ok (.iaload, 1) := by decide +kernel
theorem dX9_strip_90 : decode cX9_strip 90 = .ok (.invokevirtual 180, 3) := by decide +kernel
theorem dX9_strip_93 : decode cX9_strip 93 = .ok (.ireturn, 1) := by decide +kernel
theorem dX9_strip_94 : decode cX9_strip 94 = .ok (.aload_n 0, 1) := by decide +kernel
theorem dX9_strip_95 : decode cX9_strip 95 = .ok (.aload_n 0, 1) := by decide +kernel
theorem dX9_strip_96 : decode cX9_strip 96 = .ok (.getfield 10, 3) := by decide +kernel
theorem dX9_strip_99 : decode cX9_strip 99 = .ok (.getfield 201, 3) := by decide +kernel
theorem dX9_strip_102 : decode cX9_strip 102 = .ok (.iload_n 1, 1) := by decide +kernel
theorem dX9_strip_103 : decode cX9_strip 103 = .ok (.iaload, 1) := by decide +kernel
theorem dX9_strip_104 : decode cX9_strip 104 = .ok (.invokevirtual 180, 3) := by decide +kernel
theorem dX9_strip_107 : decode cX9_strip 107 = .ok (.ireturn, 1) := by decide +kernel
theorem dX9_strip_108 : decode cX9_strip 108 = .ok (.aload_n 0, 1) := by decide +kernel
theorem dX9_strip_109 : decode cX9_strip 109 = .ok (.getfield 10, 3) := by decide +kernel
theorem dX9_strip_112 : decode cX9_strip 112 = .ok (.getfield 204, 3) := by decide +kernel
theorem dX9_strip_115 : decode cX9_strip 115 = .ok (.iload_n 1, 1) := by decide +kernel
theorem dX9_strip_116 : decode cX9_strip 116 = .ok (.iaload, 1) := by decide +kernel
theorem dX9_strip_117 : decode cX9_strip 117 = .ok (.iconst (-1), 1) := by decide +kernel
theorem dX9_strip_118 : decode cX9_strip 118 = .ok (.if_icmp .ne 12, 3) := by decide +kernel
theorem dX9_strip_121 : decode cX9_strip 121 = .ok (.aload_n 0, 1) := by decide +kernel
theorem dX9_strip_122 : decode cX9_strip 122 = .ok (.bipush 6, 2) := by decide +kernel
theorem dX9_strip_124 : decode cX9_strip 124 = .ok (.invokevirtual 130, 3) := by decide +kernel
theorem dX9_strip_127 : decode cX9_strip 127 = .ok (.goto 16, 3) := by decide +kernel
theorem dX9_strip_130 : decode cX9_strip 130 = .ok (.aload_n 0, 1) := by decide +kernel
theorem dX9_strip_131 : decode cX9_strip 131 = .ok (.aload_n 0, 1) := by decide +kernel
theorem dX9_strip_132 : decode cX9_strip 132 = .ok (.getfield 10, 3) := by decide +kernel
theorem dX9_strip_135 : decode cX9_strip 135 = .ok (.getfield 204, 3) := by decide +kernel
theorem dX9_strip_138 : decode cX9_strip 138 = .ok (.iload_n 1, 1) := by decide +kernel
theorem dX9_strip_139 : decode cX9_strip 139 = .ok (.iaload, 1) := by decide +kernel
theorem dX9_strip_140 : decode cX9_strip 140 = .ok (.invokevirtual 180, 3) := by decide +kernel
theorem dX9_strip_143 : decode cX9_strip 143 = .ok (.ireturn, 1) := by decide +kernel
theorem dX9_strip_144 : decode cX9_strip 144 = .ok (.aload_n 0, 1) := by decide +kernel
theorem dX9_strip_145 : decode cX9_strip 145 = .ok (.iconst 1, 1) := by decide +kernel
theorem dX9_strip_146 : decode cX9_strip 146 = .ok (.invokevirtual 130, 3) := by decide +kernel
theorem dX9_strip_149 : decode cX9_strip 149 = .ok (.ireturn, 1) := by decide +kernel
theorem dX9_harm_0 : decode cX9_harm 0 = .ok (.aload_n 0, 1) := by decide +kernel
theorem dX9_harm_1 : decode cX9_harm 1 = .ok (.getfield 10, 3) := by decide +kernel
theorem dX9_harm_4 : decode cX9_harm 4 = .ok (.iload_n 1, 1) := by decide +kernel
theorem dX9_harm_5 : decode cX9_harm 5 = .ok (.invokevirtual 207, 3) := by decide +kernel
theorem dX9_harm_8 : decode cX9_harm 8 = .ok (.ifCond .ne 9, 3) := by decide +kernel
theorem dX9_harm_11 : decode cX9_harm 11 = .ok (.aload_n 0, 1) := by decide +kernel
theorem dX9_harm_12 : decode cX9_harm 12 = .ok (.iconst 1, 1) := by decide +kernel
theorem dX9_harm_13 : decode cX9_harm 13 = .ok (.invokevirtual 130, 3) := by decide +kernel
theorem dX9_harm_16 : decode cX9_harm 16 = .ok (.ireturn, 1) := by decide +kernel
theorem dX9_harm_17 : decode cX9_harm 17 = .ok (.iload_n 2, 1) := by decide +kernel
theorem dX9_harm_18 : decode cX9_harm 18 = .ok (.tableswitch 86 0 3 #[30, 44, 58, 72], 30) := by decide +kernel
theorem dX9_harm_48 : decode cX9_harm 48 = .ok (.aload_n 0, 1) := by decide +kernel
theorem dX9_harm_49 : decode cX9_harm 49 = .ok (.aload_n 0, 1) := by decide +kernel
theorem dX9_harm_50 : decode cX9_harm 50 = .ok (.getfield 10, 3) := by decide +kernel
theorem dX9_harm_53 : decode cX9_harm 53 = .ok (.getfield 210, 3) := by decide +kernel
theorem dX9_harm_56 : decode cX9_harm 56 = .ok (.iload_n 1, 1) := by decide +kernel
theorem dX9_harm_57 : decode cX9_harm 57 = .ok (.iaload, 1) := by decide +kernel
theorem dX9_harm_58 : decode cX9_harm 58 = .ok (.invokevirtual 180, 3) := by decide +kernel
theorem dX9_harm_61 : decode cX9_harm 61 = .ok (.ireturn, 1) := by decide +kernel
theorem dX9_harm_62 : decode cX9_harm 62 = .ok (.aload_n 0, 1) := by decide +kernel
theorem dX9_harm_63 : decode cX9_harm 63 = .ok (.aload_n 0, 1) := by decide +kernel
theorem dX9_harm_64 : decode cX9_harm 64 = .ok (.getfield 10, 3) := by decide +kernel
theorem dX9_harm_67 : decode cX9_harm 67 = .ok (.getfield 213, 3) := by decide +kernel
theorem dX9_harm_70 : decode cX9_harm 70 = .ok (.iload_n 1, 1) := by decide +kernel
theorem dX9_harm_71 : decode cX9_harm 71 = .ok (.iaload, 1) := by decide +kernel
theorem dX9_harm_72 : decode cX9_harm 72 = .ok (.invokevirtual 180, 3) := by decide +kernel
theorem dX9_harm_75 : decode cX9_harm 75 = .ok (.ireturn, 1) := by decide +kernel
theorem dX9_harm_76 : decode cX9_harm 76 = .ok (.aload_n 0, 1) := by decide +kernel
theorem dX9_harm_77 : decode cX9_harm 77 = .ok (.aload_n 0, 1) := by decide +kernel
theorem dX9_harm_78 : decode cX9_harm 78 = .ok (.getfield 10, 3) := by decide +kernel
theorem dX9_harm_81 : decode cX9_harm 81 = .ok (.getfield 216, 3) := by decide +kernel
theorem dX9_harm_84 : decode cX9_harm 84 = .ok (.iload_n 1, 1) := by decide +kernel
theorem dX9_harm_85 : decode cX9_harm 85 = .ok (.iaload, 1) := by decide +kernel
theorem dX9_harm_86 : decode cX9_harm 86 = .ok (.invokevirtual 180, 3) := by decide +kernel
theorem dX9_harm_89 : decode cX9_harm 89 = .ok (.ireturn, 1) := by decide +kernel
theorem dX9_harm_90 : decode cX9_harm 90 = .ok (.aload_n 0, 1) := by decide +kernel
theorem dX9_harm_91 : decode cX9_harm 91 = .ok (.aload_n 0, 1) := by decide +kernel
theorem dX9_harm_92 : decode cX9_harm 92 = .ok (.getfield 10, 3) := by decide +kernel
theorem dX9_harm_95 : decode cX9_harm 95 = .ok (.getfield 219, 3) := by decide +kernel
theorem dX9_harm_98 : decode cX9_harm 98 = .ok (.iload_n 1, 1) := by decide +kernel
theorem dX9_harm_99 : decode cX9_harm 99 = .ok (.iaload, 1) := by decide +kernel
theorem dX9_harm_100 : decode cX9_harm 100 = .ok (.invokevirtual 180, 3) := by decide +kernel
theorem dX9_harm_103 : decode cX9_harm 103 = .ok (.ireturn, 1) := by decide +kernel
theorem dX9_harm_104 : decode cX9_harm 104 = .ok (.aload_n 0, 1) := by decide +kernel
theorem dX9_harm_105 : decode cX9_harm 105 = .ok (.iconst 1, 1) := by decide +kernel
theorem dX9_harm_106 : decode cX9_harm 106 = .ok (.invokevirtual 130, 3) := by decide +kernel
theorem dX9_harm_109 : decode cX9_harm 109 = .ok (.ireturn, 1) := by decide +kernel
theorem dX9_family_0 : decode cX9_family 0 = .ok (.aload_n 0, 1) := by decide +kernel
theorem dX9_family_1 : decode cX9_family 1 = .ok (.getfield 10, 3) := by decide +kernel
theorem dX9_family_4 : decode cX9_family 4 = .ok (.iload_n 1, 1) := by decide +kernel
theorem dX9_family_5 : decode cX9_family 5 = .ok (.invokevirtual 222, 3) := by decide +kernel
theorem dX9_family_8 : decode cX9_family 8 = .ok (.ifCond .ne 9, 3) := by decide +kernel
theorem dX9_family_11 : decode cX9_family 11 = .ok (.aload_n 0, 1) := by decide +kernel
theorem dX9_family_12 : decode cX9_family 12 = .ok (.iconst 1, 1) := by decide +kernel
theorem dX9_family_13 : decode cX9_family 13 = .ok (.invokevirtual 130, 3) := by decide +kernel
theorem dX9_family_16 : decode cX9_family 16 = .ok (.ireturn, 1) := by decide +kernel
theorem dX9_family_17 : decode cX9_family 17 = .ok (.iload_n 2, 1) := by decide +kernel
theorem dX9_family_18 : decode cX9_family 18 = .ok (.tableswitch 85 0 3 #[30, 44, 58, 72], 30) := by decide +kernel
theorem dX9_family_48 : decode cX9_family 48 = .ok (.aload_n 0, 1) := by decide +kernel
theorem dX9_family_49 : decode cX9_family 49 = .ok (.aload_n 0, 1) := by decide +kernel
theorem dX9_family_50 : decode cX9_family 50 = .ok (.getfield 10, 3) := by decide +kernel
theorem dX9_family_53 : decode cX9_family 53 = .ok (.getfield 225, 3) := by decide +kernel
theorem dX9_family_56 : decode cX9_family 56 = .ok (.iload_n 1, 1) := by decide +kernel
theorem dX9_family_57 : decode cX9_family 57 = .ok (.iaload, 1) := by decide +kernel
theorem dX9_family_58 : decode cX9_family 58 = .ok (.invokevirtual 180, 3) := by decide +kernel
theorem dX9_family_61 : decode cX9_family 61 = .ok (.ireturn, 1) := by decide +kernel
theorem dX9_family_62 : decode cX9_family 62 = .ok (.aload_n 0, 1) := by decide +kernel
theorem dX9_family_63 : decode cX9_family 63 = .ok (.aload_n 0, 1) := by decide +kernel
theorem dX9_family_64 : decode cX9_family 64 = .ok (.getfield 10, 3) := by decide +kernel
theorem dX9_family_67 : decode cX9_family 67 = .ok (.getfield 228, 3) := by decide +kernel
theorem dX9_family_70 : decode cX9_family 70 = .ok (.iload_n 1, 1) := by decide +kernel
theorem dX9_family_71 : decode cX9_family 71 = .ok (.iaload, 1) := by decide +kernel
theorem dX9_family_72 : decode cX9_family 72 = .ok (.invokevirtual 180, 3) := by decide +kernel
theorem dX9_family_75 : decode cX9_family 75 = .ok (.ireturn, 1) := by decide +kernel
theorem dX9_family_76 : decode cX9_family 76 = .ok (.aload_n 0, 1) := by decide +kernel
theorem dX9_family_77 : decode cX9_family 77 = .ok (.aload_n 0, 1) := by decide +kernel
theorem dX9_family_78 : decode cX9_family 78 = .ok (.getfield 10, 3) := by decide +kernel
theorem dX9_family_81 : decode cX9_family 81 = .ok (.getfield 231, 3) := by decide +kernel
theorem dX9_family_84 : decode cX9_family 84 = .ok (.iload_n 1, 1) := by decide +kernel
theorem dX9_family_85 : decode cX9_family 85 = .ok (.iaload, 1) := by decide +kernel
theorem dX9_family_86 : decode cX9_family 86 = .ok (.invokevirtual 180, 3) := by decide +kernel
theorem dX9_family_89 : decode cX9_family 89 = .ok (.ireturn, 1) := by decide +kernel
theorem dX9_family_90 : decode cX9_family 90 = .ok (.aload_n 0, 1) := by decide +kernel
theorem dX9_family_91 : decode cX9_family 91 = .ok (.aload_n 0, 1) := by decide +kernel
theorem dX9_family_92 : decode cX9_family 92 = .ok (.getfield 10, 3) := by decide +kernel
theorem dX9_family_95 : decode cX9_family 95 = .ok (.iload_n 1, 1) := by decide +kernel
theorem dX9_family_96 : decode cX9_family 96 = .ok (.invokevirtual 234, 3) := by decide +kernel
theorem dX9_family_99 : decode cX9_family 99 = .ok (.invokevirtual 180, 3) := by decide +kernel
theorem dX9_family_102 : decode cX9_family 102 = .ok (.ireturn, 1) := by decide +kernel
theorem dX9_family_103 : decode cX9_family 103 = .ok (.aload_n 0, 1) := by decide +kernel
theorem dX9_family_104 : decode cX9_family 104 = .ok (.iconst 1, 1) := by decide +kernel
theorem dX9_family_105 : decode cX9_family 105 = .ok (.invokevirtual 130, 3) := by decide +kernel
theorem dX9_family_108 : decode cX9_family 108 = .ok (.ireturn, 1) := by decide +kernel
theorem dX9_hold_0 : decode cX9_hold 0 = .ok (.aload_n 0, 1) := by decide +kernel
theorem dX9_hold_1 : decode cX9_hold 1 = .ok (.getfield 10, 3) := by decide +kernel
theorem dX9_hold_4 : decode cX9_hold 4 = .ok (.iload_n 1, 1) := by decide +kernel
theorem dX9_hold_5 : decode cX9_hold 5 = .ok (.invokevirtual 189, 3) := by decide +kernel
theorem dX9_hold_8 : decode cX9_hold 8 = .ok (.ifCond .eq 14, 3) := by decide +kernel
theorem dX9_hold_11 : decode cX9_hold 11 = .ok (.aload_n 0, 1) := by decide +kernel
theorem dX9_hold_12 : decode cX9_hold 12 = .ok (.getfield 10, 3) := by decide +kernel
theorem dX9_hold_15 : decode cX9_hold 15 = .ok (.iload_n 2, 1) := by decide +kernel
theorem dX9_hold_16 : decode cX9_hold 16 = .ok (.invokevirtual 237, 3) := by decide +kernel
theorem dX9_hold_19 : decode cX9_hold 19 = .ok (.ifCond .ne 9, 3) := by decide +kernel
theorem dX9_hold_22 : decode cX9_hold 22 = .ok (.aload_n 0, 1) := by decide +kernel
theorem dX9_hold_23 : decode cX9_hold 23 = .ok (.iconst 1, 1) := by decide +kernel
theorem dX9_hold_24 : decode cX9_hold 24 = .ok (.invokevirtual 111, 3) := by decide +kernel
theorem dX9_hold_27 : decode cX9_hold 27 = .ok (.ireturn, 1) := by decide +kernel
theorem dX9_hold_28 : decode cX9_hold 28 = .ok (.aload_n 0, 1) := by decide +kernel
theorem dX9_hold_29 : decode cX9_hold 29 = .ok (.getfield 10, 3) := by decide +kernel
theorem dX9_hold_32 : decode cX9_hold 32 = .ok (.getfield 204, 3) := by decide +kernel
theorem dX9_hold_35 : decode cX9_hold 35 = .ok (.iload_n 1, 1) := by decide +kernel
theorem dX9_hold_36 : decode cX9_hold 36 = .ok (.iaload, 1) := by decide +kernel
theorem dX9_hold_37 : decode cX9_hold 37 = .ok (.iload_n 2, 1) := by decide +kernel
theorem dX9_hold_38 : decode cX9_hold 38 = .ok (.if_icmp .ne 10, 3) := by decide +kernel
theorem dX9_hold_41 : decode cX9_hold 41 = .ok (.aload_n 0, 1) := by decide +kernel
theorem dX9_hold_42 : decode cX9_hold 42 = .ok (.bipush 7, 2) := by decide +kernel
theorem dX9_hold_44 : decode cX9_hold 44 = .ok (.invokevirtual 111, 3) := by decide +kernel
theorem dX9_hold_47 : decode cX9_hold 47 = .ok (.ireturn, 1) := by decide +kernel
theorem dX9_hold_48 : decode cX9_hold 48 = .ok (.aload_n 0, 1) := by decide +kernel
theorem dX9_hold_49 : decode cX9_hold 49 = .ok (.getfield 10, 3) := by decide +kernel
theorem dX9_hold_52 : decode cX9_hold 52 = .ok (.getfield 204, 3) := by decide +kernel
theorem dX9_hold_55 : decode cX9_hold 55 = .ok (.iload_n 1, 1) := by decide +kernel
theorem dX9_hold_56 : decode cX9_hold 56 = .ok (.iload_n 2, 1) := by decide +kernel
theorem dX9_hold_57 : decode cX9_hold 57 = .ok (.iastore, 1) := by decide +kernel
theorem dX9_hold_58 : decode cX9_hold 58 = .ok (.aload_n 0, 1) := by decide +kernel
theorem dX9_hold_59 : decode cX9_hold 59 = .ok (.invokevirtual 118, 3) := by decide +kernel
theorem dX9_hold_62 : decode cX9_hold 62 = .ok (.ireturn, 1) := by decide +kernel
theorem dX9_let_0 : decode cX9_let 0 = .ok (.iload_n 1, 1) := by decide +kernel
theorem dX9_let_1 : decode cX9_let 1 = .ok (.ifCond .ne 26, 3) := by decide +kernel
theorem dX9_let_4 : decode cX9_let 4 = .ok (.iload_n 2, 1) := by decide +kernel
theorem dX9_let_5 : decode cX9_let 5 = .ok (.iconst 1, 1) := by decide +kernel
theorem dX9_let_6 : decode cX9_let 6 = .ok (.bipush 99, 2) := by decide +kernel
theorem dX9_let_8 : decode cX9_let 8 = .ok (.invokestatic 107, 3) := by decide +kernel
theorem dX9_let_11 : decode cX9_let 11 = .ok (.ifCond .eq 16, 3) := by decide +kernel
theorem dX9_let_14 : decode cX9_let 14 = .ok (.aload_n 0, 1) := by decide +kernel
theorem dX9_let_15 : decode cX9_let 15 = .ok (.getfield 10, 3) := by decide +kernel
theorem dX9_let_18 : decode cX9_let 18 = .ok (.iload_n 2, 1) := by decide +kernel
theorem dX9_let_19 : decode cX9_let 19 = .ok (.putfield 240, 3) := by decide +kernel
theorem dX9_let_22 : decode cX9_let 22 = .ok (.aload_n 0, 1) := by decide +kernel
theorem dX9_let_23 : decode cX9_let 23 = .ok (.invokevirtual 118, 3) := by decide +kernel
theorem dX9_let_26 : decode cX9_let 26 = .ok (.ireturn, 1) := by decide +kernel
theorem dX9_let_27 : decode cX9_let 27 = .ok (.iload_n 1, 1) := by decide +kernel
theorem dX9_let_28 : decode cX9_let 28 = .ok (.iconst 1, 1) := by decide +kernel
theorem dX9_let_29 : decode cX9_let 29 = .ok (.if_icmp .ne 26, 3) := by decide +kernel
theorem dX9_let_32 : decode cX9_let 32 = .ok (.iload_n 2, 1) := by decide +kernel
theorem dX9_let_33 : decode cX9_let 33 = .ok (.iconst 0, 1) := by decide +kernel
theorem dX9_let_34 : decode cX9_let 34 = .ok (.bipush 99, 2) := by decide +kernel
theorem dX9_let_36 : decode cX9_let 36 = .ok (.invokestatic 107, 3) := by decide +kernel
theorem dX9_let_39 : decode cX9_let 39 = .ok (.ifCond .eq 16, 3) := by decide +kernel
theorem dX9_let_42 : decode cX9_let 42 = .ok (.aload_n 0, 1) := by decide +kernel
theorem dX9_let_43 : decode cX9_let 43 = .ok (.getfield 10, 3) := by decide +kernel
theorem dX9_let_46 : decode cX9_let 46 = .ok (.iload_n 2, 1) := by decide +kernel
theorem dX9_let_47 : decode cX9_let 47 = .ok (.putfield 243, 3) := by decide +kernel
theorem dX9_let_50 : decode cX9_let 50 = .ok (.aload_n 0, 1) := by decide +kernel
theorem dX9_let_51 : decode cX9_let 51 = .ok (.invokevirtual 118, 3) := by decide +kernel
theorem dX9_let_54 : decode cX9_let 54 = .ok (.ireturn, 1) := by decide +kernel
theorem dX9_let_55 : decode cX9_let 55 = .ok (.aload_n 0, 1) := by decide +kernel
theorem dX9_let_56 : decode cX9_let 56 = .ok (.iconst 1, 1) := by decide +kernel
theorem dX9_let_57 : decode cX9_let 57 = .ok (.invokevirtual 111, 3) := by decide +kernel
theorem dX9_let_60 : decode cX9_let 60 = .ok (.ireturn, 1) := by decide +kernel
theorem dX9_likely_0 : decode cX9_likely 0 = .ok (.aload_n 0, 1) := by decide +kernel
theorem dX9_likely_1 : decode cX9_likely 1 = .ok (.getfield 10, 3) := by decide +kernel
theorem dX9_likely_4 : decode cX9_likely 4 = .ok (.iload_n 1, 1) := by decide +kernel
theorem dX9_likely_5 : decode cX9_likely 5 = .ok (.invokevirtual 207, 3) := by decide +kernel
theorem dX9_likely_8 : decode cX9_likely 8 = .ok (.ifCond .eq 13, 3) := by decide +kernel
theorem dX9_likely_11 : decode cX9_likely 11 = .ok (.iload_n 2, 1) := by decide +kernel
theorem dX9_likely_12 : decode cX9_likely 12 = .ok (.iconst 0, 1) := by decide +kernel
theorem dX9_likely_13 : decode cX9_likely 13 = .ok (.bipush 16, 2) := by decide +kernel
theorem dX9_likely_15 : decode cX9_likely 15 = .ok (.invokestatic 107, 3) := by decide +kernel
theorem dX9_likely_18 : decode cX9_likely 18 = .ok (.ifCond .ne 9, 3) := by decide +kernel
theorem dX9_likely_21 : decode cX9_likely 21 = .ok (.aload_n 0, 1) := by decide +kernel
theorem dX9_likely_22 : decode cX9_likely 22 = .ok (.iconst 1, 1) := by decide +kernel
theorem dX9_likely_23 : decode cX9_likely 23 = .ok (.invokevirtual 111, 3) := by decide +kernel
theorem dX9_likely_26 : decode cX9_likely 26 = .ok (.ireturn, 1) := by decide +kernel
theorem dX9_likely_27 : decode cX9_likely 27 = .ok (.aload_n 0, 1) := by decide +kernel
theorem dX9_likely_28 : decode cX9_likely 28 = .ok (.getfield 10, 3) := by decide +kernel
theorem dX9_likely_31 : decode cX9_likely 31 = .ok (.getfield 216, 3) := by decide +kernel
theorem dX9_likely_34 : decode cX9_likely 34 = .ok (.iload_n 1, 1) := by decide +kernel
theorem dX9_likely_35 : decode cX9_likely 35 = .ok (.iload_n 2, 1) := by decide +kernel
theorem dX9_likely_36 : decode cX9_likely 36 = .ok (.iastore, 1) := by decide +kernel
theorem dX9_likely_37 : decode cX9_likely 37 = .ok (.aload_n 0, 1) := by decide +kernel
theorem dX9_likely_38 : decode cX9_likely 38 = .ok (.invokevirtual 118, 3) := by decide +kernel
theorem dX9_likely_41 : decode cX9_likely 41 = .ok (.ireturn, 1) := by decide +kernel
theorem dX9_weight_0 : decode cX9_weight 0 = .ok (.aload_n 0, 1) := by decide +kernel
theorem dX9_weight_1 : decode cX9_weight 1 = .ok (.getfield 10, 3) := by decide +kernel
theorem dX9_weight_4 : decode cX9_weight 4 = .ok (.iload_n 1, 1) := by decide +kernel
theorem dX9_weight_5 : decode cX9_weight 5 = .ok (.invokevirtual 246, 3) := by decide +kernel
theorem dX9_weight_8 : decode cX9_weight 8 = .ok (.ifCond .ne 10, 3) := by decide +kernel
theorem dX9_weight_11 : decode cX9_weight 11 = .ok (.aload_n 0, 1) := by decide +kernel
theorem dX9_weight_12 : decode cX9_weight 12 = .ok (.iconst 1, 1) := by decide +kernel
theorem dX9_weight_13 : decode cX9_weight 13 = .ok (.invokevirtual 130, 3) := by decide +kernel
theorem dX9_weight_16 : decode cX9_weight 16 = .ok (.i2l, 1) := by decide +kernel
theorem dX9_weight_17 : decode cX9_weight 17 = .ok (.lreturn, 1) := by decide +kernel
theorem dX9_weight_18 : decode cX9_weight 18 = .ok (.aload_n 0, 1) := by decide +kernel
theorem dX9_weight_19 : decode cX9_weight 19 = .ok (.invokevirtual 118, 3) := by decide +kernel
theorem dX9_weight_22 : decode cX9_weight 22 = .ok (.pop, 1) := by decide +kernel
theorem dX9_weight_23 : decode cX9_weight 23 = .ok (.aload_n 0, 1) := by decide +kernel
theorem dX9_weight_24 : decode cX9_weight 24 = .ok (.getfield 43, 3) := by decide +kernel
theorem dX9_weight_27 : decode cX9_weight 27 = .ok (.iload_n 1, 1) := by decide +kernel
theorem dX9_weight_28 : decode cX9_weight 28 = .ok (.iconst (-1), 1) := by decide +kernel
theorem dX9_weight_29 : decode cX9_weight 29 = .ok (.iconst 0, 1) := by decide +kernel
theorem dX9_weight_30 : decode cX9_weight 30 = .ok (.invokevirtual 249, 3) := by decide +kernel
theorem dX9_weight_33 : decode cX9_weight 33 = .ok (.lreturn, 1) := by decide +kernel
theorem dX9_left_0 : decode cX9_left 0 = .ok (.aload_n 0, 1) := by decide +kernel
theorem dX9_left_1 : decode cX9_left 1 = .ok (.getfield 10, 3) := by decide +kernel
theorem dX9_left_4 : decode cX9_left 4 = .ok (.iload_n 1, 1) := by decide +kernel
theorem dX9_left_5 : decode cX9_left 5 = .ok (.invokevirtual 189, 3) := by decide +kernel
theorem dX9_left_8 : decode cX9_left 8 = .ok (.ifCond .eq 14, 3) := by decide +kernel
theorem dX9_left_11 : decode cX9_left 11 = .ok (.aload_n 0, 1) := by decide +kernel
theorem dX9_left_12 : decode cX9_left 12 = .ok (.getfield 10, 3) := by decide +kernel
theorem dX9_left_15 : decode cX9_left 15 = .ok (.iload_n 2, 1) := by decide +kernel
theorem dX9_left_16 : decode cX9_left 16 = .ok (.invokevirtual 246, 3) := by decide +kernel
theorem dX9_left_19 : decode cX9_left 19 = .ok (.ifCond .ne 9, 3) := by decide +kernel
theorem dX9_left_22 : decode cX9_left 22 = .ok (.aload_n 0, 1) := by decide +kernel
theorem dX9_left_23 : decode cX9_left 23 = .ok (.iconst 1, 1) := by decide +kernel
theorem dX9_left_24 : decode cX9_left 24 = .ok (.invokevirtual 130, 3) := by decide +kernel
theorem dX9_left_27 : decode cX9_left 27 = .ok (.ireturn, 1) := by decide +kernel
theorem dX9_left_28 : decode cX9_left 28 = .ok (.aload_n 0, 1) := by decide +kernel
theorem dX9_left_29 : decode cX9_left 29 = .ok (.aload_n 0, 1) := by decide +kernel
theorem dX9_left_30 : decode cX9_left 30 = .ok (.getfield 10, 3) := by decide +kernel
theorem dX9_left_33 : decode cX9_left 33 = .ok (.getfield 198, 3) := by decide +kernel
theorem dX9_left_36 : decode cX9_left 36 = .ok (.iload_n 1, 1) := by decide +kernel
theorem dX9_left_37 : decode cX9_left 37 = .ok (.iaload, 1) := by decide +kernel
theorem dX9_left_38 : decode cX9_left 38 = .ok (.aload_n 0, 1) := by decide +kernel
theorem dX9_left_39 : decode cX9_left 39 = .ok (.getfield 43, 3) := by decide +kernel
theorem dX9_left_42 : decode cX9_left 42 = .ok (.iload_n 1, 1) := by decide +kernel
theorem dX9_left_43 : decode cX9_left 43 = .ok (.iload_n 2, 1) := by decide +kernel
theorem dX9_left_44 : decode cX9_left 44 = .ok (.invokevirtual 253, 3) := by decide +kernel
theorem dX9_left_47 : decode cX9_left 47 = .ok (.imul, 1) := by decide +kernel
theorem dX9_left_48 : decode cX9_left 48 = .ok (.bipush 8, 2) := by decide +kernel
theorem dX9_left_50 : decode cX9_left 50 = .ok (.idiv, 1) := by decide +kernel
theorem dX9_left_51 : decode cX9_left 51 = .ok (.invokevirtual 180, 3) := by decide +kernel
theorem dX9_left_54 : decode cX9_left 54 = .ok (.ireturn, 1) := by decide +kernel
theorem dX9_round_0 : decode cX9_round 0 = .ok (.aload_n 0, 1) := by decide +kernel
theorem dX9_round_1 : decode cX9_round 1 = .ok (.getfield 10, 3) := by decide +kernel
theorem dX9_round_4 : decode cX9_round 4 = .ok (.iload_n 1, 1) := by decide +kernel
theorem dX9_round_5 : decode cX9_round 5 = .ok (.iload_n 2, 1) := by decide +kernel
theorem dX9_round_6 : decode cX9_round 6 = .ok (.invokevirtual 256, 3) := by decide +kernel
theorem dX9_round_9 : decode cX9_round 9 = .ok (.ifCond .ne 9, 3) := by decide +kernel
theorem dX9_round_12 : decode cX9_round 12 = .ok (.aload_n 0, 1) := by decide +kernel
theorem dX9_round_13 : decode cX9_round 13 = .ok (.iconst 1, 1) := by decide +kernel
theorem dX9_round_14 : decode cX9_round 14 = .ok (.invokevirtual 130, 3) := by decide +kernel
theorem dX9_round_17 : decode cX9_round 17 = .ok (.ireturn, 1) := by decide +kernel
theorem dX9_round_18 : decode cX9_round 18 = .ok (.aload_n 0, 1) := by decide +kernel
theorem dX9_round_19 : decode cX9_round 19 = .ok (.getfield 43, 3) := by decide +kernel
theorem dX9_round_22 : decode cX9_round 22 = .ok (.invokevirtual 260, 3) := by decide +kernel
theorem dX9_round_25 : decode cX9_round 25 = .ok (.aload_n 0, 1) := by decide +kernel
theorem dX9_round_26 : decode cX9_round 26 = .ok (.aload_n 0, 1) := by decide +kernel
theorem dX9_round_27 : decode cX9_round 27 = .ok (.getfield 43, 3) := by decide +kernel
theorem dX9_round_30 : decode cX9_round 30 = .ok (.iload_n 1, 1) := by decide +kernel
theorem dX9_round_31 : decode cX9_round 31 = .ok (.iload_n 2, 1) := by decide +kernel
theorem dX9_round_32 : decode cX9_round 32 = .ok (.invokevirtual 263, 3) := by decide +kernel
theorem dX9_round_35 : decode cX9_round 35 = .ok (.invokevirtual 180, 3) := by decide +kernel
theorem dX9_round_38 : decode cX9_round 38 = .ok (.ireturn, 1) := by decide +kernel
theorem dX9_net_0 : decode cX9_net 0 = .ok (.aload_n 0, 1) := by decide +kernel
theorem dX9_net_1 : decode cX9_net 1 = .ok (.getfield 10, 3) := by decide +kernel
theorem dX9_net_4 : decode cX9_net 4 = .ok (.iload_n 1, 1) := by decide +kernel
theorem dX9_net_5 : decode cX9_net 5 = .ok (.iload_n 2, 1) := by decide +kernel
theorem dX9_net_6 : decode cX9_net 6 = .ok (.invokevirtual 256, 3) := by decide +kernel
theorem dX9_net_9 : decode cX9_net 9 = .ok (.ifCond .eq 14, 3) := by decide +kernel
theorem dX9_net_12 : decode cX9_net 12 = .ok (.aload_n 0, 1) := by decide +kernel
theorem dX9_net_13 : decode cX9_net 13 = .ok (.getfield 10, 3) := by decide +kernel
theorem dX9_net_16 : decode cX9_net 16 = .ok (.iload_n 3, 1) := by decide +kernel
theorem dX9_net_17 : decode cX9_net 17 = .ok (.invokevirtual 246, 3) := by decide +kernel
theorem dX9_net_20 : decode cX9_net 20 = .ok (.ifCond .ne 9, 3) := by decide +kernel
theorem dX9_net_23 : decode cX9_net 23 = .ok (.aload_n 0, 1) := by decide +kernel
theorem dX9_net_24 : decode cX9_net 24 = .ok (.iconst 1, 1) := by decide +kernel
theorem dX9_net_25 : decode cX9_net 25 = .ok (.invokevirtual 130, 3) := by decide +kernel
theorem dX9_net_28 : decode cX9_net 28 = .ok (.ireturn, 1) := by decide +kernel
theorem dX9_net_29 : decode cX9_net 29 = .ok (.aload_n 0, 1) := by decide +kernel
theorem dX9_net_30 : decode cX9_net 30 = .ok (.getfield 43, 3) := by decide +kernel
theorem dX9_net_33 : decode cX9_net 33 = .ok (.invokevirtual 260, 3) := by decide +kernel
theorem dX9_net_36 : decode cX9_net 36 = .ok (.aload_n 0, 1) := by decide +kernel
theorem dX9_net_37 : decode cX9_net 37 = .ok (.getfield 43, 3) := by decide +kernel
theorem dX9_net_40 : decode cX9_net 40 = .ok (.iload_n 1, 1) := by decide +kernel
theorem dX9_net_41 : decode cX9_net 41 = .ok (.iload_n 2, 1) := by decide +kernel
theorem dX9_net_42 : decode cX9_net 42 = .ok (.iconst 0, 1) := by decide +kernel
theorem dX9_net_43 : decode cX9_net 43 = .ok (.invokevirtual 266, 3) := by decide +kernel
theorem dX9_net_46 : decode cX9_net 46 = .ok (.aload_n 0, 1) := by decide +kernel
theorem dX9_net_47 : decode cX9_net 47 = .ok (.aload_n 0, 1) := by decide +kernel
theorem dX9_net_48 : decode cX9_net 48 = .ok (.getfield 43, 3) := by decide +kernel
theorem dX9_net_51 : decode cX9_net 51 = .ok (.getfield 269, 3) := by decide +kernel
theorem dX9_net_54 : decode cX9_net 54 = .ok (.iload_n 3, 1) := by decide +kernel
theorem dX9_net_55 : decode cX9_net 55 = .ok (.iaload, 1) := by decide +kernel
theorem dX9_net_56 : decode cX9_net 56 = .ok (.invokevirtual 180, 3) := by decide +kernel
theorem dX9_net_59 : decode cX9_net 59 = .ok (.ireturn, 1) := by decide +kernel
theorem dX9_odds_0 : decode cX9_odds 0 = .ok (.aload_n 0, 1) := by decide +kernel
theorem dX9_odds_1 : decode cX9_odds 1 = .ok (.getfield 10, 3) := by decide +kernel
theorem dX9_odds_4 : decode cX9_odds 4 = .ok (.iload_n 1, 1) := by decide +kernel
theorem dX9_odds_5 : decode cX9_odds 5 = .ok (.iload_n 2, 1) := by decide +kernel
theorem dX9_odds_6 : decode cX9_odds 6 = .ok (.invokevirtual 256, 3) := by decide +kernel
theorem dX9_odds_9 : decode cX9_odds 9 = .ok (.ifCond .eq 14, 3) := by decide +kernel
theorem dX9_odds_12 : decode cX9_odds 12 = .ok (.iload_n 3, 1) := by decide +kernel
theorem dX9_odds_13 : decode cX9_odds 13 = .ok (.iconst 0, 1) := by decide +kernel
theorem dX9_odds_14 : decode cX9_odds 14 = .ok (.sipush 9999, 3) := by decide +kernel
theorem dX9_odds_17 : decode cX9_odds 17 = .ok (.invokestatic 107, 3) := by decide +kernel
theorem dX9_odds_20 : decode cX9_odds 20 = .ok (.ifCond .ne 9, 3) := by decide +kernel
theorem dX9_odds_23 : decode cX9_odds 23 = .ok (.aload_n 0, 1) := by decide +kernel
theorem dX9_odds_24 : decode cX9_odds 24 = .ok (.iconst 1, 1) := by decide +kernel
theorem dX9_odds_25 : decode cX9_odds 25 = .ok (.invokevirtual 111, 3) := by decide +kernel
theorem dX9_odds_28 : decode cX9_odds 28 = .ok (.ireturn, 1) := by decide +kernel
theorem dX9_odds_29 : decode cX9_odds 29 = .ok (.aload_n 0, 1) := by decide +kernel
theorem dX9_odds_30 : decode cX9_odds 30 = .ok (.getfield 43, 3) := by decide +kernel
theorem dX9_odds_33 : decode cX9_odds 33 = .ok (.invokevirtual 260, 3) := by decide +kernel
theorem dX9_odds_36 : decode cX9_odds 36 = .ok (.aload_n 0, 1) := by decide +kernel
theorem dX9_odds_37 : decode cX9_odds 37 = .ok (.getfield 43, 3) := by decide +kernel
theorem dX9_odds_40 : decode cX9_odds 40 = .ok (.iload_n 1, 1) := by decide +kernel
theorem dX9_odds_41 : decode cX9_odds 41 = .ok (.iload_n 2, 1) := by decide +kernel
theorem dX9_odds_42 : decode cX9_odds 42 = .ok (.iconst 0, 1) := by decide +kernel
theorem dX9_odds_43 : decode cX9_odds 43 = .ok (.invokevirtual 266, 3) := by decide +kernel
theorem dX9_odds_46 : decode cX9_odds 46 = .ok (.aload_n 0, 1) := by decide +kernel
theorem dX9_odds_47 : decode cX9_odds 47 = .ok (.aload_n 0, 1) := by decide +kernel
theorem dX9_odds_48 : decode cX9_odds 48 = .ok (.getfield 43, 3) := by decide +kernel
theorem dX9_odds_51 : decode cX9_odds 51 = .ok (.iload_n 3, 1) := by decide +kernel
theorem dX9_odds_52 : decode cX9_odds 52 = .ok (.invokevirtual 272, 3) := by decide +kernel
theorem dX9_odds_55 : decode cX9_odds 55 = .ok (.aload_n 0, 1) := by decide +kernel
theorem dX9_odds_56 : decode cX9_odds 56 = .ok (.getfield 43, 3) := by decide +kernel
theorem dX9_odds_59 : decode cX9_odds 59 = .ok (.invokevirtual 276, 3) := by decide +kernel
theorem dX9_odds_62 : decode cX9_odds 62 = .ok (.invokevirtual 280, 3) := by decide +kernel
theorem dX9_odds_65 : decode cX9_odds 65 = .ok (.ireturn, 1) := by decide +kernel
theorem dX9_hungry_0 : decode cX9_hungry 0 = .ok (.aload_n 0, 1) := by decide +kernel
theorem dX9_hungry_1 : decode cX9_hungry 1 = .ok (.getfield 10, 3) := by decide +kernel
theorem dX9_hungry_4 : decode cX9_hungry 4 = .ok (.iload_n 1, 1) := by decide +kernel
theorem dX9_hungry_5 : decode cX9_hungry 5 = .ok (.iload_n 2, 1) := by decide +kernel
theorem dX9_hungry_6 : decode cX9_hungry 6 = .ok (.invokevirtual 256, 3) := by decide +kernel
theorem dX9_hungry_9 : decode cX9_hungry 9 = .ok (.ifCond .ne 9, 3) := by decide +kernel
theorem dX9_hungry_12 : decode cX9_hungry 12 = .ok (.aload_n 0, 1) := by decide +kernel
theorem dX9_hungry_13 : decode cX9_hungry 13 = .ok (.iconst 1, 1) := by decide +kernel
theorem dX9_hungry_14 : decode cX9_hungry 14 = .ok (.invokevirtual 111, 3) := by decide +kernel
theorem dX9_hungry_17 : decode cX9_hungry 17 = .ok (.ireturn, 1) := by decide +kernel
theorem dX9_hungry_18 : decode cX9_hungry 18 = .ok (.aload_n 0, 1) := by decide +kernel
theorem dX9_hungry_19 : decode cX9_hungry 19 = .ok (.getfield 43, 3) := by decide +kernel
theorem dX9_hungry_22 : decode cX9_hungry 22 = .ok (.invokevirtual 260, 3) := by decide +kernel
theorem dX9_hungry_25 : decode cX9_hungry 25 = .ok (.aload_n 0, 1) := by decide +kernel
theorem dX9_hungry_26 : decode cX9_hungry 26 = .ok (.getfield 43, 3) := by decide +kernel
theorem dX9_hungry_29 : decode cX9_hungry 29 = .ok (.iload_n 1, 1) := by decide +kernel
theorem dX9_hungry_30 : decode cX9_hungry 30 = .ok (.iload_n 2, 1) := by decide +kernel
theorem dX9_hungry_31 : decode cX9_hungry 31 = .ok (.iconst 0, 1) := by decide +kernel
theorem dX9_hungry_32 : decode cX9_hungry 32 = .ok (.invokevirtual 266, 3) := by decide +kernel
theorem dX9_hungry_35 : decode cX9_hungry 35 = .ok (.aload_n 0, 1) := by decide +kernel
theorem dX9_hungry_36 : decode cX9_hungry 36 = .ok (.aload_n 0, 1) := by decide +kernel
theorem dX9_hungry_37 : decode cX9_hungry 37 = .ok (.getfield 43, 3) := by decide +kernel
theorem dX9_hungry_40 : decode cX9_hungry 40 = .ok (.aload_n 0, 1) := by decide +kernel
theorem dX9_hungry_41 : decode cX9_hungry 41 = .ok (.getfield 10, 3) := by decide +kernel
theorem dX9_hungry_44 : decode cX9_hungry 44 = .ok (.getfield 231, 3) := by decide +kernel
theorem dX9_hungry_47 : decode cX9_hungry 47 = .ok (.iload_n 1, 1) := by decide +kernel
theorem dX9_hungry_48 : decode cX9_hungry 48 = .ok (.iaload, 1) := by decide +kernel
theorem dX9_hungry_49 : decode cX9_hungry 49 = .ok (.iconst 1, 1) := by decide +kernel
theorem dX9_hungry_50 : decode cX9_hungry 50 = .ok (.isub, 1) := by decide +kernel
theorem dX9_hungry_51 : decode cX9_hungry 51 = .ok (.invokevirtual 272, 3) := by decide +kernel
theorem dX9_hungry_54 : decode cX9_hungry 54 = .ok (.aload_n 0, 1) := by decide +kernel
theorem dX9_hungry_55 : decode cX9_hungry 55 = .ok (.getfield 43, 3) := by decide +kernel
theorem dX9_hungry_58 : decode cX9_hungry 58 = .ok (.invokevirtual 276, 3) := by decide +kernel
theorem dX9_hungry_61 : decode cX9_hungry 61 = .ok (.invokevirtual 280, 3) := by decide +kernel
theorem dX9_hungry_64 : decode cX9_hungry 64 = .ok (.ireturn, 1) := by decide +kernel
theorem dX9_worth_0 : decode cX9_worth 0 = .ok (.aload_n 0, 1) := by decide +kernel
theorem dX9_worth_1 : decode cX9_worth 1 = .ok (.getfield 10, 3) := by decide +kernel
theorem dX9_worth_4 : decode cX9_worth 4 = .ok (.iload_n 1, 1) := by decide +kernel
theorem dX9_worth_5 : decode cX9_worth 5 = .ok (.iload_n 2, 1) := by decide +kernel
theorem dX9_worth_6 : decode cX9_worth 6 = .ok (.invokevirtual 256, 3) := by decide +kernel
theorem dX9_worth_9 : decode cX9_worth 9 = .ok (.ifCond .ne 9, 3) := by decide +kernel
theorem dX9_worth_12 : decode cX9_worth 12 = .ok (.aload_n 0, 1) := by decide +kernel
theorem dX9_worth_13 : decode cX9_worth 13 = .ok (.iconst 1, 1) := by decide +kernel
theorem dX9_worth_14 : decode cX9_worth 14 = .ok (.invokevirtual 111, 3) := by decide +kernel
theorem dX9_worth_17 : decode cX9_worth 17 = .ok (.ireturn, 1) := by decide +kernel
theorem dX9_worth_18 : decode cX9_worth 18 = .ok (.aload_n 0, 1) := by decide +kernel
theorem dX9_worth_19 : decode cX9_worth 19 = .ok (.getfield 43, 3) := by decide +kernel
theorem dX9_worth_22 : decode cX9_worth 22 = .ok (.invokevirtual 260, 3) := by decide +kernel
theorem dX9_worth_25 : decode cX9_worth 25 = .ok (.aload_n 0, 1) := by decide +kernel
theorem dX9_worth_26 : decode cX9_worth 26 = .ok (.aload_n 0, 1) := by decide +kernel
theorem dX9_worth_27 : decode cX9_worth 27 = .ok (.getfield 43, 3) := by decide +kernel
theorem dX9_worth_30 : decode cX9_worth 30 = .ok (.iload_n 1, 1) := by decide +kernel
theorem dX9_worth_31 : decode cX9_worth 31 = .ok (.iload_n 2, 1) := by decide +kernel
theorem dX9_worth_32 : decode cX9_worth 32 = .ok (.invokevirtual 284, 3) := by decide +kernel
theorem dX9_worth_35 : decode cX9_worth 35 = .ok (.aload_n 0, 1) := by decide +kernel
theorem dX9_worth_36 : decode cX9_worth 36 = .ok (.getfield 43, 3) := by decide +kernel
theorem dX9_worth_39 : decode cX9_worth 39 = .ok (.invokevirtual 276, 3) := by decide +kernel
theorem dX9_worth_42 : decode cX9_worth 42 = .ok (.invokevirtual 280, 3) := by decide +kernel
theorem dX9_worth_45 : decode cX9_worth 45 = .ok (.ireturn, 1) := by decide +kernel
theorem dX9_best_0 : decode cX9_best 0 = .ok (.aload_n 0, 1) := by decide +kernel
theorem dX9_best_1 : decode cX9_best 1 = .ok (.iload_n 1, 1) := by decide +kernel
theorem dX9_best_2 : decode cX9_best 2 = .ok (.iload_n 2, 1) := by decide +kernel
theorem dX9_best_3 : decode cX9_best 3 = .ok (.invokevirtual 288, 3) := by decide +kernel
theorem dX9_best_6 : decode cX9_best 6 = .ok (.istore_n 3, 1) := by decide +kernel
theorem dX9_best_7 : decode cX9_best 7 = .ok (.iload_n 3, 1) := by decide +kernel
theorem dX9_best_8 : decode cX9_best 8 = .ok (.ifCond .eq 9, 3) := by decide +kernel
theorem dX9_best_11 : decode cX9_best 11 = .ok (.aload_n 0, 1) := by decide +kernel
theorem dX9_best_12 : decode cX9_best 12 = .ok (.iload_n 3, 1) := by decide +kernel
theorem dX9_best_13 : decode cX9_best 13 = .ok (.invokevirtual 130, 3) := by decide +kernel
theorem dX9_best_16 : decode cX9_best 16 = .ok (.ireturn, 1) := by decide +kernel
theorem dX9_best_17 : decode cX9_best 17 = .ok (.aload_n 0, 1) := by decide +kernel
theorem dX9_best_18 : decode cX9_best 18 = .ok (.getfield 43, 3) := by decide +kernel
theorem dX9_best_21 : decode cX9_best 21 = .ok (.invokevirtual 260, 3) := by decide +kernel
theorem dX9_best_24 : decode cX9_best 24 = .ok (.aload_n 0, 1) := by decide +kernel
theorem dX9_best_25 : decode cX9_best 25 = .ok (.getfield 52, 3) := by decide +kernel
theorem dX9_best_28 : decode cX9_best 28 = .ok (.iload_n 1, 1) := by decide +kernel
theorem dX9_best_29 : decode cX9_best 29 = .ok (.iload_n 2, 1) := by decide +kernel
theorem dX9_best_30 : decode cX9_best 30 = .ok (.invokevirtual 291, 3) := by decide +kernel
theorem dX9_best_33 : decode cX9_best 33 = .ok (.aload_n 0, 1) := by decide +kernel
theorem dX9_best_34 : decode cX9_best 34 = .ok (.getfield 52, 3) := by decide +kernel
theorem dX9_best_37 : decode cX9_best 37 = .ok (.aload_n 0, 1) := by decide +kernel
theorem dX9_best_38 : decode cX9_best 38 = .ok (.getfield 10, 3) := by decide +kernel
theorem dX9_best_41 : decode cX9_best 41 = .ok (.getfield 243, 3) := by decide +kernel
theorem dX9_best_44 : decode cX9_best 44 = .ok (.invokevirtual 295, 3) := by decide +kernel
theorem dX9_best_47 : decode cX9_best 47 = .ok (.istore 4, 2) := by decide +kernel
theorem dX9_best_49 : decode cX9_best 49 = .ok (.aload_n 0, 1) := by decide +kernel
theorem dX9_best_50 : decode cX9_best 50 = .ok (.aload_n 0, 1) := by decide +kernel
theorem dX9_best_51 : decode cX9_best 51 = .ok (.getfield 52, 3) := by decide +kernel
theorem dX9_best_54 : decode cX9_best 54 = .ok (.iload 4, 2) := by decide +kernel
theorem dX9_best_56 : decode cX9_best 56 = .ok (.aload_n 0, 1) := by decide +kernel
theorem dX9_best_57 : decode cX9_best 57 = .ok (.getfield 10, 3) := by decide +kernel
theorem dX9_best_60 : decode cX9_best 60 = .ok (.getfield 243, 3) := by decide +kernel
theorem dX9_best_63 : decode cX9_best 63 = .ok (.invokevirtual 298, 3) := by decide +kernel
theorem dX9_best_66 : decode cX9_best 66 = .ok (.aload_n 0, 1) := by decide +kernel
theorem dX9_best_67 : decode cX9_best 67 = .ok (.getfield 43, 3) := by decide +kernel
theorem dX9_best_70 : decode cX9_best 70 = .ok (.invokevirtual 276, 3) := by decide +kernel
theorem dX9_best_73 : decode cX9_best 73 = .ok (.invokevirtual 280, 3) := by decide +kernel
theorem dX9_best_76 : decode cX9_best 76 = .ok (.pop, 1) := by decide +kernel
theorem dX9_best_77 : decode cX9_best 77 = .ok (.aload_n 0, 1) := by decide +kernel
theorem dX9_best_78 : decode cX9_best 78 = .ok (.getfield 52, 3) := by decide +kernel
theorem dX9_best_81 : decode cX9_best 81 = .ok (.getfield 301, 3) := by decide +kernel
theorem dX9_best_84 : decode cX9_best 84 = .ok (.iload 4, 2) := by decide +kernel
theorem dX9_best_86 : decode cX9_best 86 = .ok (.iaload, 1) := by decide +kernel
theorem dX9_best_87 : decode cX9_best 87 = .ok (.ireturn, 1) := by decide +kernel
theorem dX9_climb_0 : decode cX9_climb 0 = .ok (.aload_n 0, 1) := by decide +kernel
theorem dX9_climb_1 : decode cX9_climb 1 = .ok (.getfield 10, 3) := by decide +kernel
theorem dX9_climb_4 : decode cX9_climb 4 = .ok (.iload_n 1, 1) := by decide +kernel
theorem dX9_climb_5 : decode cX9_climb 5 = .ok (.invokevirtual 222, 3) := by decide +kernel
theorem dX9_climb_8 : decode cX9_climb 8 = .ok (.ifCond .ne 9, 3) := by decide +kernel
theorem dX9_climb_11 : decode cX9_climb 11 = .ok (.aload_n 0, 1) := by decide +kernel
theorem dX9_climb_12 : decode cX9_climb 12 = .ok (.iconst 1, 1) := by decide +kernel
theorem dX9_climb_13 : decode cX9_climb 13 = .ok (.invokevirtual 130, 3) := by decide +kernel
theorem dX9_climb_16 : decode cX9_climb 16 = .ok (.ireturn, 1) := by decide +kernel
theorem dX9_climb_17 : decode cX9_climb 17 = .ok (.aload_n 0, 1) := by decide +kernel
theorem dX9_climb_18 : decode cX9_climb 18 = .ok (.getfield 43, 3) := by decide +kernel
theorem dX9_climb_21 : decode cX9_climb 21 = .ok (.invokevirtual 260, 3) := by decide +kernel
theorem dX9_climb_24 : decode cX9_climb 24 = .ok (.aload_n 0, 1) := by decide +kernel
theorem dX9_climb_25 : decode cX9_climb 25 = .ok (.getfield 52, 3) := by decide +kernel
theorem dX9_climb_28 : decode cX9_climb 28 = .ok (.iload_n 1, 1) := by decide +kernel
theorem dX9_climb_29 : decode cX9_climb 29 = .ok (.invokevirtual 304, 3) := by decide +kernel
theorem dX9_climb_32 : decode cX9_climb 32 = .ok (.istore_n 2, 1) := by decide +kernel
theorem dX9_climb_33 : decode cX9_climb 33 = .ok (.aload_n 0, 1) := by decide +kernel
theorem dX9_climb_34 : decode cX9_climb 34 = .ok (.aload_n 0, 1) := by decide +kernel
theorem dX9_climb_35 : decode cX9_climb 35 = .ok (.getfield 52, 3) := by decide +kernel
theorem dX9_climb_38 : decode cX9_climb 38 = .ok (.getfield 307, 3) := by decide +kernel
theorem dX9_climb_41 : decode cX9_climb 41 = .ok (.putfield 100, 3) := by decide +kernel
theorem dX9_climb_44 : decode cX9_climb 44 = .ok (.aload_n 0, 1) := by decide +kernel
theorem dX9_climb_45 : decode cX9_climb 45 = .ok (.aload_n 0, 1) := by decide +kernel
theorem dX9_climb_46 : decode cX9_climb 46 = .ok (.getfield 43, 3) := by decide +kernel
theorem dX9_climb_49 : decode cX9_climb 49 = .ok (.iload_n 1, 1) := by decide +kernel
theorem dX9_climb_50 : decode cX9_climb 50 = .ok (.iload_n 2, 1) := by decide +kernel
theorem dX9_climb_51 : decode cX9_climb 51 = .ok (.invokevirtual 284, 3) := by decide +kernel
theorem dX9_climb_54 : decode cX9_climb 54 = .ok (.aload_n 0, 1) := by decide +kernel
theorem dX9_climb_55 : decode cX9_climb 55 = .ok (.getfield 43, 3) := by decide +kernel
theorem dX9_climb_58 : decode cX9_climb 58 = .ok (.invokevirtual 276, 3) := by decide +kernel
theorem dX9_climb_61 : decode cX9_climb 61 = .ok (.invokevirtual 280, 3) := by decide +kernel
theorem dX9_climb_64 : decode cX9_climb 64 = .ok (.pop, 1) := by decide +kernel
theorem dX9_climb_65 : decode cX9_climb 65 = .ok (.iload_n 2, 1) := by decide +kernel
theorem dX9_climb_66 : decode cX9_climb 66 = .ok (.ireturn, 1) := by decide +kernel
theorem dX9_climbed_0 : decode cX9_climbed 0 = .ok (.aload_n 0, 1) := by decide +kernel
theorem dX9_climbed_1 : decode cX9_climbed 1 = .ok (.getfield 100, 3) := by decide +kernel
theorem dX9_climbed_4 : decode cX9_climbed 4 = .ok (.iconst (-1), 1) := by decide +kernel
theorem dX9_climbed_5 : decode cX9_climbed 5 = .ok (.if_icmp .ne 12, 3) := by decide +kernel
theorem dX9_climbed_8 : decode cX9_climbed 8 = .ok (.aload_n 0, 1) := by decide +kernel
theorem dX9_climbed_9 : decode cX9_climbed 9 = .ok (.bipush 6, 2) := by decide +kernel
theorem dX9_climbed_11 : decode cX9_climbed 11 = .ok (.invokevirtual 130, 3) := by decide +kernel
theorem dX9_climbed_14 : decode cX9_climbed 14 = .ok (.goto 11, 3) := by decide +kernel
theorem dX9_climbed_17 : decode cX9_climbed 17 = .ok (.aload_n 0, 1) := by decide +kernel
theorem dX9_climbed_18 : decode cX9_climbed 18 = .ok (.aload_n 0, 1) := by decide +kernel
theorem dX9_climbed_19 : decode cX9_climbed 19 = .ok (.getfield 100, 3) := by decide +kernel
theorem dX9_climbed_22 : decode cX9_climbed 22 = .ok (.invokevirtual 180, 3) := by decide +kernel
theorem dX9_climbed_25 : decode cX9_climbed 25 = .ok (.ireturn, 1) := by decide +kernel
theorem dX9_edge_0 : decode cX9_edge 0 = .ok (.aload_n 0, 1) := by decide +kernel
theorem dX9_edge_1 : decode cX9_edge 1 = .ok (.iload_n 1, 1) := by decide +kernel
theorem dX9_edge_2 : decode cX9_edge 2 = .ok (.iload_n 2, 1) := by decide +kernel
theorem dX9_edge_3 : decode cX9_edge 3 = .ok (.invokevirtual 288, 3) := by decide +kernel
theorem dX9_edge_6 : decode cX9_edge 6 = .ok (.istore_n 3, 1) := by decide +kernel
theorem dX9_edge_7 : decode cX9_edge 7 = .ok (.iload_n 3, 1) := by decide +kernel
theorem dX9_edge_8 : decode cX9_edge 8 = .ok (.ifCond .eq 9, 3) := by decide +kernel
theorem dX9_edge_11 : decode cX9_edge 11 = .ok (.aload_n 0, 1) := by decide +kernel
theorem dX9_edge_12 : decode cX9_edge 12 = .ok (.iload_n 3, 1) := by decide +kernel
theorem dX9_edge_13 : decode cX9_edge 13 = .ok (.invokevirtual 130, 3) := by decide +kernel
theorem dX9_edge_16 : decode cX9_edge 16 = .ok (.ireturn, 1) := by decide +kernel
theorem dX9_edge_17 : decode cX9_edge 17 = .ok (.aload_n 0, 1) := by decide +kernel
theorem dX9_edge_18 : decode cX9_edge 18 = .ok (.getfield 43, 3) := by decide +kernel
theorem dX9_edge_21 : decode cX9_edge 21 = .ok (.invokevirtual 260, 3) := by decide +kernel
theorem dX9_edge_24 : decode cX9_edge 24 = .ok (.aload_n 0, 1) := by decide +kernel
theorem dX9_edge_25 : decode cX9_edge 25 = .ok (.getfield 52, 3) := by decide +kernel
theorem dX9_edge_28 : decode cX9_edge 28 = .ok (.iload_n 1, 1) := by decide +kernel
theorem dX9_edge_29 : decode cX9_edge 29 = .ok (.iload_n 2, 1) := by decide +kernel
theorem dX9_edge_30 : decode cX9_edge 30 = .ok (.invokevirtual 291, 3) := by decide +kernel
theorem dX9_edge_33 : decode cX9_edge 33 = .ok (.aload_n 0, 1) := by decide +kernel
theorem dX9_edge_34 : decode cX9_edge 34 = .ok (.getfield 52, 3) := by decide +kernel
theorem dX9_edge_37 : decode cX9_edge 37 = .ok (.invokevirtual 310, 3) := by decide +kernel
theorem dX9_edge_40 : decode cX9_edge 40 = .ok (.istore 4, 2) := by decide +kernel
theorem dX9_edge_42 : decode cX9_edge 42 = .ok (.iload 4, 2) := by decide +kernel
theorem dX9_edge_44 : decode cX9_edge 44 = .ok (.iconst (-1), 1) := by decide +kernel
theorem dX9_edge_45 : decode cX9_edge 45 = .ok (.if_icmp .ne 12, 3) := by decide +kernel
theorem dX9_edge_48 : decode cX9_edge 48 = .ok (.aload_n 0, 1) := by decide +kernel
theorem dX9_edge_49 : decode cX9_edge 49 = .ok (.bipush 6, 2) := by decide +kernel
theorem dX9_edge_51 : decode cX9_edge 51 = .ok (.invokevirtual 130, 3) := by decide +kernel
theorem dX9_edge_54 : decode cX9_edge 54 = .ok (.goto 9, 3) := by decide +kernel
theorem dX9_edge_57 : decode cX9_edge 57 = .ok (.aload_n 0, 1) := by decide +kernel
theorem dX9_edge_58 : decode cX9_edge 58 = .ok (.iload 4, 2) := by decide +kernel
theorem dX9_edge_60 : decode cX9_edge 60 = .ok (.invokevirtual 180, 3) := by decide +kernel
theorem dX9_edge_63 : decode cX9_edge 63 = .ok (.ireturn, 1) := by decide +kernel
theorem dX9_change_0 : decode cX9_change 0 = .ok (.aload_n 0, 1) := by decide +kernel
theorem dX9_change_1 : decode cX9_change 1 = .ok (.getfield 10, 3) := by decide +kernel
theorem dX9_change_4 : decode cX9_change 4 = .ok (.iload_n 3, 1) := by decide +kernel
theorem dX9_change_5 : decode cX9_change 5 = .ok (.invokevirtual 207, 3) := by decide +kernel
theorem dX9_change_8 : decode cX9_change 8 = .ok (.ifCond .eq 14, 3) := by decide +kernel
theorem dX9_change_11 : decode cX9_change 11 = .ok (.iload 4, 2) := by decide +kernel
theorem dX9_change_13 : decode cX9_change 13 = .ok (.iconst 0, 1) := by decide +kernel
theorem dX9_change_14 : decode cX9_change 14 = .ok (.bipush 16, 2) := by decide +kernel
theorem dX9_change_16 : decode cX9_change 16 = .ok (.invokestatic 107, 3) := by decide +kernel
theorem dX9_change_19 : decode cX9_change 19 = .ok (.ifCond .ne 9, 3) := by decide +kernel
theorem dX9_change_22 : decode cX9_change 22 = .ok (.aload_n 0, 1) := by decide +kernel
theorem dX9_change_23 : decode cX9_change 23 = .ok (.iconst 1, 1) := by decide +kernel
theorem dX9_change_24 : decode cX9_change 24 = .ok (.invokevirtual 130, 3) := by decide +kernel
theorem dX9_change_27 : decode cX9_change 27 = .ok (.ireturn, 1) := by decide +kernel
theorem dX9_change_28 : decode cX9_change 28 = .ok (.aload_n 0, 1) := by decide +kernel
theorem dX9_change_29 : decode cX9_change 29 = .ok (.iload_n 1, 1) := by decide +kernel
theorem dX9_change_30 : decode cX9_change 30 = .ok (.iload_n 2, 1) := by decide +kernel
theorem dX9_change_31 : decode cX9_change 31 = .ok (.invokevirtual 288, 3) := by decide +kernel
theorem dX9_change_34 : decode cX9_change 34 = .ok (.istore 5, 2) := by decide +kernel
theorem dX9_change_36 : decode cX9_change 36 = .ok (.iload 5, 2) := by decide +kernel
theorem dX9_change_38 : decode cX9_change 38 = .ok (.ifCond .eq 10, 3) := by decide +kernel
theorem dX9_change_41 : decode cX9_change 41 = .ok (.aload_n 0, 1) := by decide +kernel
theorem dX9_change_42 : decode cX9_change 42 = .ok (.iload 5, 2) := by decide +kernel
theorem dX9_change_44 : decode cX9_change 44 = .ok (.invokevirtual 130, 3) := by decide +kernel
theorem dX9_change_47 : decode cX9_change 47 = .ok (.ireturn, 1) := by decide +kernel
theorem dX9_change_48 : decode cX9_change 48 = .ok (.aload_n 0, 1) := by decide +kernel
theorem dX9_change_49 : decode cX9_change 49 = .ok (.getfield 43, 3) := by decide +kernel
theorem dX9_change_52 : decode cX9_change 52 = .ok (.invokevirtual 260, 3) := by decide +kernel
theorem dX9_change_55 : decode cX9_change 55 = .ok (.aload_n 0, 1) := by decide +kernel
theorem dX9_change_56 : decode cX9_change 56 = .ok (.getfield 52, 3) := by decide +kernel
theorem dX9_change_59 : decode cX9_change 59 = .ok (.iload_n 1, 1) := by decide +kernel
theorem dX9_change_60 : decode cX9_change 60 = .ok (.iload_n 2, 1) := by decide +kernel
theorem dX9_change_61 : decode cX9_change 61 = .ok (.invokevirtual 291, 3) := by decide +kernel
theorem dX9_change_64 : decode cX9_change 64 = .ok (.aload_n 0, 1) := by decide +kernel
theorem dX9_change_65 : decode cX9_change 65 = .ok (.getfield 52, 3) := by decide +kernel
theorem dX9_change_68 : decode cX9_change 68 = .ok (.aload_n 0, 1) := by decide +kernel
theorem dX9_change_69 : decode cX9_change 69 = .ok (.getfield 10, 3) := by decide +kernel
theorem dX9_change_72 : decode cX9_change 72 = .ok (.getfield 243, 3) := by decide +kernel
theorem dX9_change_75 : decode cX9_change 75 = .ok (.invokevirtual 295, 3) := by decide +kernel
theorem dX9_change_78 : decode cX9_change 78 = .ok (.istore 6, 2) := by decide +kernel
theorem dX9_change_80 : decode cX9_change 80 = .ok (.aload_n 0, 1) := by decide +kernel
theorem dX9_change_81 : decode cX9_change 81 = .ok (.getfield 43, 3) := by decide +kernel
theorem dX9_change_84 : decode cX9_change 84 = .ok (.iload_n 3, 1) := by decide +kernel
theorem dX9_change_85 : decode cX9_change 85 = .ok (.iload 4, 2) := by decide +kernel
theorem dX9_change_87 : decode cX9_change 87 = .ok (.invokevirtual 314, 3) := by decide +kernel
theorem dX9_change_90 : decode cX9_change 90 = .ok (.aload_n 0, 1) := by decide +kernel
theorem dX9_change_91 : decode cX9_change 91 = .ok (.getfield 52, 3) := by decide +kernel
theorem dX9_change_94 : decode cX9_change 94 = .ok (.iload_n 1, 1) := by decide +kernel
theorem dX9_change_95 : decode cX9_change 95 = .ok (.iload_n 2, 1) := by decide +kernel
theorem dX9_change_96 : decode cX9_change 96 = .ok (.invokevirtual 291, 3) := by decide +kernel
theorem dX9_change_99 : decode cX9_change 99 = .ok (.aload_n 0, 1) := by decide +kernel
theorem dX9_change_100 : decode cX9_change 100 = .ok (.getfield 52, 3) := by decide +kernel
theorem dX9_change_103 : decode cX9_change 103 = .ok (.aload_n 0, 1) := by decide +kernel
theorem dX9_change_104 : decode cX9_change 104 = .ok (.getfield 10, 3) := by decide +kernel
theorem dX9_change_107 : decode cX9_change 107 = .ok (.getfield 243, 3) := by decide +kernel
theorem dX9_change_110 : decode cX9_change 110 = .ok (.invokevirtual 295, 3) := by decide +kernel
theorem dX9_change_113 : decode cX9_change 113 = .ok (.istore 7, 2) := by decide +kernel
theorem dX9_change_115 : decode cX9_change 115 = .ok (.aload_n 0, 1) := by decide +kernel
theorem dX9_change_116 : decode cX9_change 116 = .ok (.iload 6, 2) := by decide +kernel
theorem dX9_change_118 : decode cX9_change 118 = .ok (.iload 7, 2) := by decide +kernel
theorem dX9_change_120 : decode cX9_change 120 = .ok (.if_icmp .ne 7, 3) := by decide +kernel
theorem dX9_change_123 : decode cX9_change 123 = .ok (.iconst 0, 1) := by decide +kernel
theorem dX9_change_124 : decode cX9_change 124 = .ok (.goto 4, 3) := by decide +kernel
theorem dX9_change_127 : decode cX9_change 127 = .ok (.iconst 1, 1) := by decide +kernel
theorem dX9_change_128 : decode cX9_change 128 = .ok (.invokevirtual 180, 3) := by decide +kernel
theorem dX9_change_131 : decode cX9_change 131 = .ok (.ireturn, 1) := by decide +kernel
theorem dX9_beside_0 : decode cX9_beside 0 = .ok (.aload_n 0, 1) := by decide +kernel
theorem dX9_beside_1 : decode cX9_beside 1 = .ok (.getfield 10, 3) := by decide +kernel
theorem dX9_beside_4 : decode cX9_beside 4 = .ok (.iload_n 1, 1) := by decide +kernel
theorem dX9_beside_5 : decode cX9_beside 5 = .ok (.invokevirtual 222, 3) := by decide +kernel
theorem dX9_beside_8 : decode cX9_beside 8 = .ok (.ifCond .eq 19, 3) := by decide +kernel
theorem dX9_beside_11 : decode cX9_beside 11 = .ok (.aload_n 0, 1) := by decide +kernel
theorem dX9_beside_12 : decode cX9_beside 12 = .ok (.getfield 10, 3) := by decide +kernel
theorem dX9_beside_15 : decode cX9_beside 15 = .ok (.iload_n 3, 1) := by decide +kernel
theorem dX9_beside_16 : decode cX9_beside 16 = .ok (.invokevirtual 237, 3) := by decide +kernel
theorem dX9_beside_19 : decode cX9_beside 19 = .ok (.ifCond .eq 8, 3) := by decide +kernel
theorem dX9_beside_22 : decode cX9_beside 22 = .ok (.iload_n 3, 1) := by decide +kernel
theorem dX9_beside_23 : decode cX9_beside 23 = .ok (.iload_n 1, 1) := by decide +kernel
theorem dX9_beside_24 : decode cX9_beside 24 = .ok (.if_icmp .ne 9, 3) := by decide +kernel
theorem dX9_beside_27 : decode cX9_beside 27 = .ok (.aload_n 0, 1) := by decide +kernel
theorem dX9_beside_28 : decode cX9_beside 28 = .ok (.iconst 1, 1) := by decide +kernel
theorem dX9_beside_29 : decode cX9_beside 29 = .ok (.invokevirtual 111, 3) := by decide +kernel
theorem dX9_beside_32 : decode cX9_beside 32 = .ok (.ireturn, 1) := by decide +kernel
theorem dX9_beside_33 : decode cX9_beside 33 = .ok (.iload 4, 2) := by decide +kernel
theorem dX9_beside_35 : decode cX9_beside 35 = .ok (.iconst (-1), 1) := by decide +kernel
theorem dX9_beside_36 : decode cX9_beside 36 = .ok (.if_icmp .eq 21, 3) := by decide +kernel
theorem dX9_beside_39 : decode cX9_beside 39 = .ok (.aload_n 0, 1) := by decide +kernel
theorem dX9_beside_40 : decode cX9_beside 40 = .ok (.getfield 10, 3) := by decide +kernel
theorem dX9_beside_43 : decode cX9_beside 43 = .ok (.iload 4, 2) := by decide +kernel
theorem dX9_beside_45 : decode cX9_beside 45 = .ok (.invokevirtual 207, 3) := by decide +kernel
theorem dX9_beside_48 : decode cX9_beside 48 = .ok (.ifCond .ne 9, 3) := by decide +kernel
theorem dX9_beside_51 : decode cX9_beside 51 = .ok (.aload_n 0, 1) := by decide +kernel
theorem dX9_beside_52 : decode cX9_beside 52 = .ok (.iconst 1, 1) := by decide +kernel
theorem dX9_beside_53 : decode cX9_beside 53 = .ok (.invokevirtual 111, 3) := by decide +kernel
theorem dX9_beside_56 : decode cX9_beside 56 = .ok (.ireturn, 1) := by decide +kernel
theorem dX9_beside_57 : decode cX9_beside 57 = .ok (.iload_n 2, 1) := by decide +kernel
theorem dX9_beside_58 : decode cX9_beside 58 = .ok (.iconst 0, 1) := by decide +kernel
theorem dX9_beside_59 : decode cX9_beside 59 = .ok (.sipush 999, 3) := by decide +kernel
theorem dX9_beside_62 : decode cX9_beside 62 = .ok (.invokestatic 107, 3) := by decide +kernel
theorem dX9_beside_65 : decode cX9_beside 65 = .ok (.ifCond .eq 25, 3) := by decide +kernel
theorem dX9_beside_68 : decode cX9_beside 68 = .ok (.iload 5, 2) := by decide +kernel
theorem dX9_beside_70 : decode cX9_beside 70 = .ok (.iconst 0, 1) := by decide +kernel
theorem dX9_beside_71 : decode cX9_beside 71 = .ok (.bipush 99, 2) := by decide +kernel
theorem dX9_beside_73 : decode cX9_beside 73 = .ok (.invokestatic 107, 3) := by decide +kernel
theorem dX9_beside_76 : decode cX9_beside 76 = .ok (.ifCond .eq 14, 3) := by decide +kernel
theorem dX9_beside_79 : decode cX9_beside 79 = .ok (.iload 6, 2) := by decide +kernel
theorem dX9_beside_81 : decode cX9_beside 81 = .ok (.iconst 0, 1) := by decide +kernel
theorem dX9_beside_82 : decode cX9_beside 82 = .ok (.bipush 99, 2) := by decide +kernel
theorem dX9_beside_84 : decode cX9_beside 84 = .ok (.invokestatic 107, 3) := by decide +kernel
theorem dX9_beside_87 : decode cX9_beside 87 = .ok (.ifCond .ne 9, 3) := by decide +kernel
theorem dX9_beside_90 : decode cX9_beside 90 = .ok (.aload_n 0, 1) := by decide +kernel
theorem dX9_beside_91 : decode cX9_beside 91 = .ok (.iconst 1, 1) := by decide +kernel
theorem dX9_beside_92 : decode cX9_beside 92 = .ok (.invokevirtual 111, 3) := by decide +kernel
theorem dX9_beside_95 : decode cX9_beside 95 = .ok (.ireturn, 1) := by decide +kernel
theorem dX9_beside_96 : decode cX9_beside 96 = .ok (.aload_n 0, 1) := by decide +kernel
theorem dX9_beside_97 : decode cX9_beside 97 = .ok (.getfield 43, 3) := by decide +kernel
theorem dX9_beside_100 : decode cX9_beside 100 = .ok (.invokevirtual 260, 3) := by decide +kernel
theorem dX9_beside_103 : decode cX9_beside 103 = .ok (.aload_n 0, 1) := by decide +kernel
theorem dX9_beside_104 : decode cX9_beside 104 = .ok (.getfield 59, 3) := by decide +kernel
theorem dX9_beside_107 : decode cX9_beside 107 = .ok (.iload_n 1, 1) := by decide +kernel
theorem dX9_beside_108 : decode cX9_beside 108 = .ok (.iload 4, 2) := by decide +kernel
theorem dX9_beside_110 : decode cX9_beside 110 = .ok (.iload 5, 2) := by decide +kernel
theorem dX9_beside_112 : decode cX9_beside 112 = .ok (.iload 6, 2) := by decide +kernel
theorem dX9_beside_114 : decode cX9_beside 114 = .ok (.invokevirtual 317, 3) := by decide +kernel
theorem dX9_beside_117 : decode cX9_beside 117 = .ok (.aload_n 0, 1) := by decide +kernel
theorem dX9_beside_118 : decode cX9_beside 118 = .ok (.getfield 59, 3) := by decide +kernel
theorem dX9_beside_121 : decode cX9_beside 121 = .ok (.iload_n 3, 1) := by decide +kernel
theorem dX9_beside_122 : decode cX9_beside 122 = .ok (.invokevirtual 321, 3) := by decide +kernel
theorem dX9_beside_125 : decode cX9_beside 125 = .ok (.aload_n 0, 1) := by decide +kernel
theorem dX9_beside_126 : decode cX9_beside 126 = .ok (.getfield 43, 3) := by decide +kernel
theorem dX9_beside_129 : decode cX9_beside 129 = .ok (.invokevirtual 276, 3) := by decide +kernel
theorem dX9_beside_132 : decode cX9_beside 132 = .ok (.lstore 7, 2) := by decide +kernel
theorem dX9_beside_134 : decode cX9_beside 134 = .ok (.aload_n 0, 1) := by decide +kernel
theorem dX9_beside_135 : decode cX9_beside 135 = .ok (.aload_n 0, 1) := by decide +kernel
theorem dX9_beside_136 : decode cX9_beside 136 = .ok (.getfield 59, 3) := by decide +kernel
theorem dX9_beside_139 : decode cX9_beside 139 = .ok (.iload_n 1, 1) := by decide +kernel
theorem dX9_beside_140 : decode cX9_beside 140 = .ok (.iload_n 2, 1) := by decide +kernel
theorem dX9_beside_141 : decode cX9_beside 141 = .ok (.invokevirtual 324, 3) := by decide +kernel
theorem dX9_beside_144 : decode cX9_beside 144 = .ok (.lload 7, 2) := by decide +kernel
theorem dX9_beside_146 : decode cX9_beside 146 = .ok (.lload 7, 2) := by decide +kernel
theorem dX9_beside_148 : decode cX9_beside 148 = .ok (.lmul, 1) := by decide +kernel
theorem dX9_beside_149 : decode cX9_beside 149 = .ok (.invokevirtual 280, 3) := by decide +kernel
theorem dX9_beside_152 : decode cX9_beside 152 = .ok (.ireturn, 1) := by decide +kernel
theorem dX9_swaps_0 : decode cX9_swaps 0 = .ok (.aload_n 0, 1) := by decide +kernel
theorem dX9_swaps_1 : decode cX9_swaps 1 = .ok (.iload_n 1, 1) := by decide +kernel
theorem dX9_swaps_2 : decode cX9_swaps 2 = .ok (.iload_n 2, 1) := by decide +kernel
theorem dX9_swaps_3 : decode cX9_swaps 3 = .ok (.invokevirtual 327, 3) := by decide +kernel
theorem dX9_swaps_6 : decode cX9_swaps 6 = .ok (.ifCond .ne 9, 3) := by decide +kernel
theorem dX9_swaps_9 : decode cX9_swaps 9 = .ok (.aload_n 0, 1) := by decide +kernel
theorem dX9_swaps_10 : decode cX9_swaps 10 = .ok (.iconst 1, 1) := by decide +kernel
theorem dX9_swaps_11 : decode cX9_swaps 11 = .ok (.invokevirtual 130, 3) := by decide +kernel
theorem dX9_swaps_14 : decode cX9_swaps 14 = .ok (.ireturn, 1) := by decide +kernel
theorem dX9_swaps_15 : decode cX9_swaps 15 = .ok (.aload_n 0, 1) := by decide +kernel
theorem dX9_swaps_16 : decode cX9_swaps 16 = .ok (.getfield 43, 3) := by decide +kernel
theorem dX9_swaps_19 : decode cX9_swaps 19 = .ok (.invokevirtual 260, 3) := by decide +kernel
theorem dX9_swaps_22 : decode cX9_swaps 22 = .ok (.aload_n 0, 1) := by decide +kernel
theorem dX9_swaps_23 : decode cX9_swaps 23 = .ok (.aload_n 0, 1) := by decide +kernel
theorem dX9_swaps_24 : decode cX9_swaps 24 = .ok (.getfield 66, 3) := by decide +kernel
theorem dX9_swaps_27 : decode cX9_swaps 27 = .ok (.iload_n 1, 1) := by decide +kernel
theorem dX9_swaps_28 : decode cX9_swaps 28 = .ok (.iload_n 2, 1) := by decide +kernel
theorem dX9_swaps_29 : decode cX9_swaps 29 = .ok (.ldc_w 330, 3) := by decide +kernel
theorem dX9_swaps_32 : decode cX9_swaps 32 = .ok (.invokevirtual 331, 3) := by decide +kernel
theorem dX9_swaps_35 : decode cX9_swaps 35 = .ok (.invokevirtual 180, 3) := by decide +kernel
theorem dX9_swaps_38 : decode cX9_swaps 38 = .ok (.ireturn, 1) := by decide +kernel
theorem dX9_swap_0 : decode cX9_swap 0 = .ok (.aload_n 0, 1) := by decide +kernel
theorem dX9_swap_1 : decode cX9_swap 1 = .ok (.iload_n 1, 1) := by decide +kernel
theorem dX9_swap_2 : decode cX9_swap 2 = .ok (.iload_n 2, 1) := by decide +kernel
theorem dX9_swap_3 : decode cX9_swap 3 = .ok (.invokevirtual 327, 3) := by decide +kernel
theorem dX9_swap_6 : decode cX9_swap 6 = .ok (.ifCond .eq 17, 3) := by decide +kernel
theorem dX9_swap_9 : decode cX9_swap 9 = .ok (.iload_n 3, 1) := by decide +kernel
theorem dX9_swap_10 : decode cX9_swap 10 = .ok (.ifCond .lt 13, 3) := by decide +kernel
theorem dX9_swap_13 : decode cX9_swap 13 = .ok (.iload 4, 2) := by decide +kernel
theorem dX9_swap_15 : decode cX9_swap 15 = .ok (.iconst 0, 1) := by decide +kernel
theorem dX9_swap_16 : decode cX9_swap 16 = .ok (.iconst 1, 1) := by decide +kernel
theorem dX9_swap_17 : decode cX9_swap 17 = .ok (.invokestatic 107, 3) := by decide +kernel
theorem dX9_swap_20 : decode cX9_swap 20 = .ok (.ifCond .ne 9, 3) := by decide +kernel
theorem dX9_swap_23 : decode cX9_swap 23 = .ok (.aload_n 0, 1) := by decide +kernel
theorem dX9_swap_24 : decode cX9_swap 24 = .ok (.iconst 1, 1) := by decide +kernel
theorem dX9_swap_25 : decode cX9_swap 25 = .ok (.invokevirtual 130, 3) := by decide +kernel
theorem dX9_swap_28 : decode cX9_swap 28 = .ok (.ireturn, 1) := by decide +kernel
theorem dX9_swap_29 : decode cX9_swap 29 = .ok (.aload_n 0, 1) := by decide +kernel
theorem dX9_swap_30 : decode cX9_swap 30 = .ok (.getfield 43, 3) := by decide +kernel
theorem dX9_swap_33 : decode cX9_swap 33 = .ok (.invokevirtual 260, 3) := by decide +kernel
theorem dX9_swap_36 : decode cX9_swap 36 = .ok (.aload_n 0, 1) := by decide +kernel
theorem dX9_swap_37 : decode cX9_swap 37 = .ok (.getfield 66, 3) := by decide +kernel
theorem dX9_swap_40 : decode cX9_swap 40 = .ok (.iload_n 1, 1) := by decide +kernel
theorem dX9_swap_41 : decode cX9_swap 41 = .ok (.iload_n 2, 1) := by decide +kernel
theorem dX9_swap_42 : decode cX9_swap 42 = .ok (.iload_n 3, 1) := by decide +kernel
theorem dX9_swap_43 : decode cX9_swap 43 = .ok (.invokevirtual 331, 3) := by decide +kernel
theorem dX9_swap_46 : decode cX9_swap 46 = .ok (.iload_n 3, 1) := by decide +kernel
theorem dX9_swap_47 : decode cX9_swap 47 = .ok (.if_icmp .gt 10, 3) := by decide +kernel
theorem dX9_swap_50 : decode cX9_swap 50 = .ok (.aload_n 0, 1) := by decide +kernel
theorem dX9_swap_51 : decode cX9_swap 51 = .ok (.bipush 6, 2) := by decide +kernel
theorem dX9_swap_53 : decode cX9_swap 53 = .ok (.invokevirtual 130, 3) := by decide +kernel
theorem dX9_swap_56 : decode cX9_swap 56 = .ok (.ireturn, 1) := by decide +kernel
theorem dX9_swap_57 : decode cX9_swap 57 = .ok (.aload_n 0, 1) := by decide +kernel
theorem dX9_swap_58 : decode cX9_swap 58 = .ok (.aload_n 0, 1) := by decide +kernel
theorem dX9_swap_59 : decode cX9_swap 59 = .ok (.getfield 66, 3) := by decide +kernel
theorem dX9_swap_62 : decode cX9_swap 62 = .ok (.getfield 335, 3) := by decide +kernel
theorem dX9_swap_65 : decode cX9_swap 65 = .ok (.iload 4, 2) := by decide +kernel
theorem dX9_swap_67 : decode cX9_swap 67 = .ok (.iaload, 1) := by decide +kernel
theorem dX9_swap_68 : decode cX9_swap 68 = .ok (.invokevirtual 180, 3) := by decide +kernel
theorem dX9_swap_71 : decode cX9_swap 71 = .ok (.ireturn, 1) := by decide +kernel
theorem dX9_ring_0 : decode cX9_ring 0 = .ok (.aload_n 0, 1) := by decide +kernel
theorem dX9_ring_1 : decode cX9_ring 1 = .ok (.iload_n 1, 1) := by decide +kernel
theorem dX9_ring_2 : decode cX9_ring 2 = .ok (.iload_n 2, 1) := by decide +kernel
theorem dX9_ring_3 : decode cX9_ring 3 = .ok (.invokevirtual 327, 3) := by decide +kernel
theorem dX9_ring_6 : decode cX9_ring 6 = .ok (.ifCond .eq 27, 3) := by decide +kernel
theorem dX9_ring_9 : decode cX9_ring 9 = .ok (.aload_n 0, 1) := by decide +kernel
theorem dX9_ring_10 : decode cX9_ring 10 = .ok (.iload_n 2, 1) := by decide +kernel
theorem dX9_ring_11 : decode cX9_ring 11 = .ok (.iload_n 3, 1) := by decide +kernel
theorem dX9_ring_12 : decode cX9_ring 12 = .ok (.invokevirtual 327, 3) := by decide +kernel
theorem dX9_ring_15 : decode cX9_ring 15 = .ok (.ifCond .eq 18, 3) := by decide +kernel
theorem dX9_ring_18 : decode cX9_ring 18 = .ok (.iload_n 1, 1) := by decide +kernel
theorem dX9_ring_19 : decode cX9_ring 19 = .ok (.iload_n 3, 1) := by decide +kernel
theorem dX9_ring_20 : decode cX9_ring 20 = .ok (.if_icmp .eq 13, 3) := by decide +kernel
theorem dX9_ring_23 : decode cX9_ring 23 = .ok (.iload 4, 2) := by decide +kernel
theorem dX9_ring_25 : decode cX9_ring 25 = .ok (.iconst 0, 1) := by decide +kernel
theorem dX9_ring_26 : decode cX9_ring 26 = .ok (.iconst 2, 1) := by decide +kernel
theorem dX9_ring_27 : decode cX9_ring 27 = .ok (.invokestatic 107, 3) := by decide +kernel
theorem dX9_ring_30 : decode cX9_ring 30 = .ok (.ifCond .ne 9, 3) := by decide +kernel
theorem dX9_ring_33 : decode cX9_ring 33 = .ok (.aload_n 0, 1) := by decide +kernel
theorem dX9_ring_34 : decode cX9_ring 34 = .ok (.iconst 1, 1) := by decide +kernel
theorem dX9_ring_35 : decode cX9_ring 35 = .ok (.invokevirtual 130, 3) := by decide +kernel
theorem dX9_ring_38 : decode cX9_ring 38 = .ok (.ireturn, 1) := by decide +kernel
theorem dX9_ring_39 : decode cX9_ring 39 = .ok (.aload_n 0, 1) := by decide +kernel
theorem dX9_ring_40 : decode cX9_ring 40 = .ok (.getfield 43, 3) := by decide +kernel
theorem dX9_ring_43 : decode cX9_ring 43 = .ok (.invokevirtual 260, 3) := by decide +kernel
theorem dX9_ring_46 : decode cX9_ring 46 = .ok (.aload_n 0, 1) := by decide +kernel
theorem dX9_ring_47 : decode cX9_ring 47 = .ok (.getfield 66, 3) := by decide +kernel
theorem dX9_ring_50 : decode cX9_ring 50 = .ok (.iload_n 1, 1) := by decide +kernel
theorem dX9_ring_51 : decode cX9_ring 51 = .ok (.iload_n 2, 1) := by decide +kernel
theorem dX9_ring_52 : decode cX9_ring 52 = .ok (.iload_n 3, 1) := by decide +kernel
theorem dX9_ring_53 : decode cX9_ring 53 = .ok (.invokevirtual 338, 3) := by decide +kernel
theorem dX9_ring_56 : decode cX9_ring 56 = .ok (.ifCond .eq 20, 3) := by decide +kernel
theorem dX9_ring_59 : decode cX9_ring 59 = .ok (.aload_n 0, 1) := by decide +kernel
theorem dX9_ring_60 : decode cX9_ring 60 = .ok (.aload_n 0, 1) := by decide +kernel
theorem dX9_ring_61 : decode cX9_ring 61 = .ok (.getfield 66, 3) := by decide +kernel
theorem dX9_ring_64 : decode cX9_ring 64 = .ok (.getfield 335, 3) := by decide +kernel
theorem dX9_ring_67 : decode cX9_ring 67 = .ok (.iload 4, 2) := by decide +kernel
theorem dX9_ring_69 : decode cX9_ring 69 = .ok (.iaload, 1) := by decide +kernel
theorem dX9_ring_70 : decode cX9_ring 70 = .ok (.invokevirtual 180, 3) := by decide +kernel
theorem dX9_ring_73 : decode cX9_ring 73 = .ok (.goto 9, 3) := by decide +kernel
theorem dX9_ring_76 : decode cX9_ring 76 = .ok (.aload_n 0, 1) := by decide +kernel
theorem dX9_ring_77 : decode cX9_ring 77 = .ok (.bipush 6, 2) := by decide +kernel
theorem dX9_ring_79 : decode cX9_ring 79 = .ok (.invokevirtual 130, 3) := by decide +kernel
theorem dX9_ring_82 : decode cX9_ring 82 = .ok (.ireturn, 1) := by decide +kernel
theorem dX9_settle_0 : decode cX9_settle 0 = .ok (.aload_n 0, 1) := by decide +kernel
theorem dX9_settle_1 : decode cX9_settle 1 = .ok (.getfield 43, 3) := by decide +kernel
theorem dX9_settle_4 : decode cX9_settle 4 = .ok (.invokevirtual 260, 3) := by decide +kernel
theorem dX9_settle_7 : decode cX9_settle 7 = .ok (.iconst 0, 1) := by decide +kernel
theorem dX9_settle_8 : decode cX9_settle 8 = .ok (.istore_n 1, 1) := by decide +kernel
theorem dX9_settle_9 : decode cX9_settle 9 = .ok (.iload_n 1, 1) := by decide +kernel
theorem dX9_settle_10 : decode cX9_settle 10 = .ok (.bipush 100, 2) := by decide +kernel
theorem dX9_settle_12 : decode cX9_settle 12 = .ok (.if_icmp .ge 19, 3) := by decide +kernel
theorem dX9_settle_15 : decode cX9_settle 15 = .ok (.aload_n 0, 1) := by decide +kernel
theorem dX9_settle_16 : decode cX9_settle 16 = .ok (.getfield 66, 3) := by decide +kernel
theorem dX9_settle_19 : decode cX9_settle 19 = .ok (.invokevirtual 341, 3) := by decide +kernel
theorem dX9_settle_22 : decode cX9_settle 22 = .ok (.ifCond .eq 9, 3) := by decide +kernel
theorem dX9_settle_25 : decode cX9_settle 25 = .ok (.iinc 1 1, 3) := by decide +kernel
theorem dX9_settle_28 : decode cX9_settle 28 = .ok (.goto (-19), 3) := by decide +kernel
theorem dX9_settle_31 : decode cX9_settle 31 = .ok (.aload_n 0, 1) := by decide +kernel
theorem dX9_settle_32 : decode cX9_settle 32 = .ok (.iload_n 1, 1) := by decide +kernel
theorem dX9_settle_33 : decode cX9_settle 33 = .ok (.invokevirtual 180, 3) := by decide +kernel
theorem dX9_settle_36 : decode cX9_settle 36 = .ok (.ireturn, 1) := by decide +kernel
theorem dX9_give_0 : decode cX9_give 0 = .ok (.iload_n 1, 1) := by decide +kernel
theorem dX9_give_1 : decode cX9_give 1 = .ok (.iconst 0, 1) := by decide +kernel
theorem dX9_give_2 : decode cX9_give 2 = .ok (.iconst 1, 1) := by decide +kernel
theorem dX9_give_3 : decode cX9_give 3 = .ok (.invokestatic 107, 3) := by decide +kernel
theorem dX9_give_6 : decode cX9_give 6 = .ok (.ifCond .ne 9, 3) := by decide +kernel
theorem dX9_give_9 : decode cX9_give 9 = .ok (.aload_n 0, 1) := by decide +kernel
theorem dX9_give_10 : decode cX9_give 10 = .ok (.iconst 1, 1) := by decide +kernel
theorem dX9_give_11 : decode cX9_give 11 = .ok (.invokevirtual 111, 3) := by decide +kernel
theorem dX9_give_14 : decode cX9_give 14 = .ok (.ireturn, 1) := by decide +kernel
theorem dX9_give_15 : decode cX9_give 15 = .ok (.aload_n 0, 1) := by decide +kernel
theorem dX9_give_16 : decode cX9_give 16 = .ok (.getfield 73, 3) := by decide +kernel
theorem dX9_give_19 : decode cX9_give 19 = .ok (.invokevirtual 344, 3) := by decide +kernel
theorem dX9_give_22 : decode cX9_give 22 = .ok (.ifCond .ne 9, 3) := by decide +kernel
theorem dX9_give_25 : decode cX9_give 25 = .ok (.aload_n 0, 1) := by decide +kernel
theorem dX9_give_26 : decode cX9_give 26 = .ok (.iconst 4, 1) := by decide +kernel
theorem dX9_give_27 : decode cX9_give 27 = .ok (.invokevirtual 111, 3) := by decide +kernel
theorem dX9_give_30 : decode cX9_give 30 = .ok (.ireturn, 1) := by decide +kernel
theorem dX9_give_31 : decode cX9_give 31 = .ok (.aload_n 0, 1) := by decide +kernel
theorem dX9_give_32 : decode cX9_give 32 = .ok (.getfield 10, 3) := by decide +kernel
theorem dX9_give_35 : decode cX9_give 35 = .ok (.getfield 186, 3) := by decide +kernel
theorem dX9_give_38 : decode cX9_give 38 = .ok (.ifCond .ne 10, 3) := by decide +kernel
theorem dX9_give_41 : decode cX9_give 41 = .ok (.aload_n 0, 1) := by decide +kernel
theorem dX9_give_42 : decode cX9_give 42 = .ok (.bipush 6, 2) := by decide +kernel
theorem dX9_give_44 : decode cX9_give 44 = .ok (.invokevirtual 111, 3) := by decide +kernel
theorem dX9_give_47 : decode cX9_give 47 = .ok (.ireturn, 1) := by decide +kernel
theorem dX9_give_48 : decode cX9_give 48 = .ok (.aload_n 0, 1) := by decide +kernel
theorem dX9_give_49 : decode cX9_give 49 = .ok (.getfield 43, 3) := by decide +kernel
theorem dX9_give_52 : decode cX9_give 52 = .ok (.invokevirtual 260, 3) := by decide +kernel
theorem dX9_give_55 : decode cX9_give 55 = .ok (.aload_n 0, 1) := by decide +kernel
theorem dX9_give_56 : decode cX9_give 56 = .ok (.getfield 73, 3) := by decide +kernel
theorem dX9_give_59 : decode cX9_give 59 = .ok (.iload_n 1, 1) := by decide +kernel
theorem dX9_give_60 : decode cX9_give 60 = .ok (.invokevirtual 347, 3) := by decide +kernel
theorem dX9_give_63 : decode cX9_give 63 = .ok (.lstore_n 2, 1) := by decide +kernel
theorem dX9_give_64 : decode cX9_give 64 = .ok (.aload_n 0, 1) := by decide +kernel
theorem dX9_give_65 : decode cX9_give 65 = .ok (.lload_n 2, 1) := by decide +kernel
theorem dX9_give_66 : decode cX9_give 66 = .ok (.iload_n 1, 1) := by decide +kernel
theorem dX9_give_67 : decode cX9_give 67 = .ok (.ifCond .ne 13, 3) := by decide +kernel
theorem dX9_give_70 : decode cX9_give 70 = .ok (.aload_n 0, 1) := by decide +kernel
theorem dX9_give_71 : decode cX9_give 71 = .ok (.getfield 43, 3) := by decide +kernel
theorem dX9_give_74 : decode cX9_give 74 = .ok (.invokevirtual 276, 3) := by decide +kernel
theorem dX9_give_77 : decode cX9_give 77 = .ok (.goto 4, 3) := by decide +kernel
theorem dX9_give_80 : decode cX9_give 80 = .ok (.lconst 1, 1) := by decide +kernel
theorem dX9_give_81 : decode cX9_give 81 = .ok (.invokevirtual 280, 3) := by decide +kernel
theorem dX9_give_84 : decode cX9_give 84 = .ok (.ireturn, 1) := by decide +kernel
theorem dX9_given_0 : decode cX9_given 0 = .ok (.aload_n 0, 1) := by decide +kernel
theorem dX9_given_1 : decode cX9_given 1 = .ok (.getfield 73, 3) := by decide +kernel
theorem dX9_given_4 : decode cX9_given 4 = .ok (.getfield 350, 3) := by decide +kernel
theorem dX9_given_7 : decode cX9_given 7 = .ok (.iconst (-1), 1) := by decide +kernel
theorem dX9_given_8 : decode cX9_given 8 = .ok (.if_icmp .ne 10, 3) := by decide +kernel
theorem dX9_given_11 : decode cX9_given 11 = .ok (.aload_n 0, 1) := by decide +kernel
theorem dX9_given_12 : decode cX9_given 12 = .ok (.bipush 6, 2) := by decide +kernel
theorem dX9_given_14 : decode cX9_given 14 = .ok (.invokevirtual 130, 3) := by decide +kernel
theorem dX9_given_17 : decode cX9_given 17 = .ok (.ireturn, 1) := by decide +kernel
theorem dX9_given_18 : decode cX9_given 18 = .ok (.iload_n 1, 1) := by decide +kernel
theorem dX9_given_19 : decode cX9_given 19 = .ok (.ifCond .lt 14, 3) := by decide +kernel
theorem dX9_given_22 : decode cX9_given 22 = .ok (.iload_n 1, 1) := by decide +kernel
theorem dX9_given_23 : decode cX9_given 23 = .ok (.aload_n 0, 1) := by decide +kernel
theorem dX9_given_24 : decode cX9_given 24 = .ok (.getfield 73, 3) := by decide +kernel
theorem dX9_given_27 : decode cX9_given 27 = .ok (.getfield 350, 3) := by decide +kernel
theorem dX9_given_30 : decode cX9_given 30 = .ok (.if_icmp .lt 9, 3) := by decide +kernel
theorem dX9_given_33 : decode cX9_given 33 = .ok (.aload_n 0, 1) := by decide +kernel
theorem dX9_given_34 : decode cX9_given 34 = .ok (.iconst 1, 1) := by decide +kernel
theorem dX9_given_35 : decode cX9_given 35 = .ok (.invokevirtual 130, 3) := by decide +kernel
theorem dX9_given_38 : decode cX9_given 38 = .ok (.ireturn, 1) := by decide +kernel
theorem dX9_given_39 : decode cX9_given 39 = .ok (.aload_n 0, 1) := by decide +kernel
theorem dX9_given_40 : decode cX9_given 40 = .ok (.aload_n 0, 1) := by decide +kernel
theorem dX9_given_41 : decode cX9_given 41 = .ok (.getfield 73, 3) := by decide +kernel
theorem dX9_given_44 : decode cX9_given 44 = .ok (.getfield 353, 3) := by decide +kernel
theorem dX9_given_47 : decode cX9_given 47 = .ok (.iload_n 1, 1) := by decide +kernel
theorem dX9_given_48 : decode cX9_given 48 = .ok (.iaload, 1) := by decide +kernel
theorem dX9_given_49 : decode cX9_given 49 = .ok (.invokevirtual 180, 3) := by decide +kernel
theorem dX9_given_52 : decode cX9_given 52 = .ok (.ireturn, 1) := by decide +kernel
theorem dX9_narrow_0 : decode cX9_narrow 0 = .ok (.aload_n 0, 1) := by decide +kernel
theorem dX9_narrow_1 : decode cX9_narrow 1 = .ok (.getfield 10, 3) := by decide +kernel
theorem dX9_narrow_4 : decode cX9_narrow 4 = .ok (.iload_n 1, 1) := by decide +kernel
theorem dX9_narrow_5 : decode cX9_narrow 5 = .ok (.invokevirtual 222, 3) := by decide +kernel
theorem dX9_narrow_8 : decode cX9_narrow 8 = .ok (.ifCond .eq 13, 3) := by decide +kernel
theorem dX9_narrow_11 : decode cX9_narrow 11 = .ok (.iload_n 2, 1) := by decide +kernel
theorem dX9_narrow_12 : decode cX9_narrow 12 = .ok (.iconst 1, 1) := by decide +kernel
theorem dX9_narrow_13 : decode cX9_narrow 13 = .ok (.bipush 16, 2) := by decide +kernel
theorem dX9_narrow_15 : decode cX9_narrow 15 = .ok (.invokestatic 107, 3) := by decide +kernel
theorem dX9_narrow_18 : decode cX9_narrow 18 = .ok (.ifCond .ne 9, 3) := by decide +kernel
theorem dX9_narrow_21 : decode cX9_narrow 21 = .ok (.aload_n 0, 1) := by decide +kernel
theorem dX9_narrow_22 : decode cX9_narrow 22 = .ok (.iconst 1, 1) := by decide +kernel
theorem dX9_narrow_23 : decode cX9_narrow 23 = .ok (.invokevirtual 130, 3) := by decide +kernel
theorem dX9_narrow_26 : decode cX9_narrow 26 = .ok (.ireturn, 1) := by decide +kernel
theorem dX9_narrow_27 : decode cX9_narrow 27 = .ok (.aload_n 0, 1) := by decide +kernel
theorem dX9_narrow_28 : decode cX9_narrow 28 = .ok (.getfield 43, 3) := by decide +kernel
theorem dX9_narrow_31 : decode cX9_narrow 31 = .ok (.invokevirtual 260, 3) := by decide +kernel
theorem dX9_narrow_34 : decode cX9_narrow 34 = .ok (.aload_n 0, 1) := by decide +kernel
theorem dX9_narrow_35 : decode cX9_narrow 35 = .ok (.getfield 43, 3) := by decide +kernel
theorem dX9_narrow_38 : decode cX9_narrow 38 = .ok (.iload_n 1, 1) := by decide +kernel
theorem dX9_narrow_39 : decode cX9_narrow 39 = .ok (.iload_n 2, 1) := by decide +kernel
theorem dX9_narrow_40 : decode cX9_narrow 40 = .ok (.invokevirtual 356, 3) := by decide +kernel
theorem dX9_narrow_43 : decode cX9_narrow 43 = .ok (.istore_n 3, 1) := by decide +kernel
theorem dX9_narrow_44 : decode cX9_narrow 44 = .ok (.iload_n 3, 1) := by decide +kernel
theorem dX9_narrow_45 : decode cX9_narrow 45 = .ok (.iconst (-1), 1) := by decide +kernel
theorem dX9_narrow_46 : decode cX9_narrow 46 = .ok (.if_icmp .ne 12, 3) := by decide +kernel
theorem dX9_narrow_49 : decode cX9_narrow 49 = .ok (.aload_n 0, 1) := by decide +kernel
theorem dX9_narrow_50 : decode cX9_narrow 50 = .ok (.bipush 6, 2) := by decide +kernel
theorem dX9_narrow_52 : decode cX9_narrow 52 = .ok (.invokevirtual 130, 3) := by decide +kernel
theorem dX9_narrow_55 : decode cX9_narrow 55 = .ok (.goto 8, 3) := by decide +kernel
theorem dX9_narrow_58 : decode cX9_narrow 58 = .ok (.aload_n 0, 1) := by decide +kernel
theorem dX9_narrow_59 : decode cX9_narrow 59 = .ok (.iload_n 3, 1) := by decide +kernel
theorem dX9_narrow_60 : decode cX9_narrow 60 = .ok (.invokevirtual 180, 3) := by decide +kernel
theorem dX9_narrow_63 : decode cX9_narrow 63 = .ok (.ireturn, 1) := by decide +kernel
theorem dX9_together_0 : decode cX9_together 0 = .ok (.aload_n 0, 1) := by decide +kernel
theorem dX9_together_1 : decode cX9_together 1 = .ok (.getfield 43, 3) := by decide +kernel
theorem dX9_together_4 : decode cX9_together 4 = .ok (.invokevirtual 260, 3) := by decide +kernel
theorem dX9_together_7 : decode cX9_together 7 = .ok (.aload_n 0, 1) := by decide +kernel
theorem dX9_together_8 : decode cX9_together 8 = .ok (.aload_n 0, 1) := by decide +kernel
theorem dX9_together_9 : decode cX9_together 9 = .ok (.getfield 80, 3) := by decide +kernel
theorem dX9_together_12 : decode cX9_together 12 = .ok (.invokevirtual 359, 3) := by decide +kernel
theorem dX9_together_15 : decode cX9_together 15 = .ok (.invokevirtual 180, 3) := by decide +kernel
theorem dX9_together_18 : decode cX9_together 18 = .ok (.ireturn, 1) := by decide +kernel
theorem dX9_starved_0 : decode cX9_starved 0 = .ok (.aload_n 0, 1) := by decide +kernel
theorem dX9_starved_1 : decode cX9_starved 1 = .ok (.iload_n 1, 1) := by decide +kernel
theorem dX9_starved_2 : decode cX9_starved 2 = .ok (.iload_n 2, 1) := by decide +kernel
theorem dX9_starved_3 : decode cX9_starved 3 = .ok (.iload_n 3, 1) := by decide +kernel
theorem dX9_starved_4 : decode cX9_starved 4 = .ok (.invokevirtual 362, 3) := by decide +kernel
theorem dX9_starved_7 : decode cX9_starved 7 = .ok (.istore 4, 2) := by decide +kernel
theorem dX9_starved_9 : decode cX9_starved 9 = .ok (.iload 4, 2) := by decide +kernel
theorem dX9_starved_11 : decode cX9_starved 11 = .ok (.ifCond .eq 10, 3) := by decide +kernel
theorem dX9_starved_14 : decode cX9_starved 14 = .ok (.aload_n 0, 1) := by decide +kernel
theorem dX9_starved_15 : decode cX9_starved 15 = .ok (.iload 4, 2) := by decide +kernel
theorem dX9_starved_17 : decode cX9_starved 17 = .ok (.invokevirtual 130, 3) := by decide +kernel
theorem dX9_starved_20 : decode cX9_starved 20 = .ok (.ireturn, 1) := by decide +kernel
theorem dX9_starved_21 : decode cX9_starved 21 = .ok (.aload_n 0, 1) := by decide +kernel
theorem dX9_starved_22 : decode cX9_starved 22 = .ok (.getfield 43, 3) := by decide +kernel
theorem dX9_starved_25 : decode cX9_starved 25 = .ok (.invokevirtual 260, 3) := by decide +kernel
theorem dX9_starved_28 : decode cX9_starved 28 = .ok (.aload_n 0, 1) := by decide +kernel
theorem dX9_starved_29 : decode cX9_starved 29 = .ok (.aload_n 0, 1) := by decide +kernel
theorem dX9_starved_30 : decode cX9_starved 30 = .ok (.getfield 43, 3) := by decide +kernel
theorem dX9_starved_33 : decode cX9_starved 33 = .ok (.iload_n 1, 1) := by decide +kernel
theorem dX9_starved_34 : decode cX9_starved 34 = .ok (.aload_n 0, 1) := by decide +kernel
theorem dX9_starved_35 : decode cX9_starved 35 = .ok (.getfield 10, 3) := by decide +kernel
theorem dX9_starved_38 : decode cX9_starved 38 = .ok (.iload_n 1, 1) := by decide +kernel
theorem dX9_starved_39 : decode cX9_starved 39 = .ok (.invokevirtual 234, 3) := by decide +kernel
theorem dX9_starved_42 : decode cX9_starved 42 = .ok (.aload_n 0, 1) := by decide +kernel
theorem dX9_starved_43 : decode cX9_starved 43 = .ok (.getfield 27, 3) := by decide +kernel
theorem dX9_starved_46 : decode cX9_starved 46 = .ok (.getfield 134, 3) := by decide +kernel
theorem dX9_starved_49 : decode cX9_starved 49 = .ok (.iload_n 2, 1) := by decide +kernel
theorem dX9_starved_50 : decode cX9_starved 50 = .ok (.aaload, 1) := by decide +kernel
theorem dX9_starved_51 : decode cX9_starved 51 = .ok (.iload_n 3, 1) := by decide +kernel
theorem dX9_starved_52 : decode cX9_starved 52 = .ok (.invokevirtual 365, 3) := by decide +kernel
theorem dX9_starved_55 : decode cX9_starved 55 = .ok (.invokevirtual 180, 3) := by decide +kernel
theorem dX9_starved_58 : decode cX9_starved 58 = .ok (.ireturn, 1) := by decide +kernel
theorem dX9_luck_0 : decode cX9_luck 0 = .ok (.iload 4, 2) := by decide +kernel
theorem dX9_luck_2 : decode cX9_luck 2 = .ok (.iconst 0, 1) := by decide +kernel
theorem dX9_luck_3 : decode cX9_luck 3 = .ok (.sipush 9999, 3) := by decide +kernel
theorem dX9_luck_6 : decode cX9_luck 6 = .ok (.invokestatic 107, 3) := by decide +kernel
theorem dX9_luck_9 : decode cX9_luck 9 = .ok (.ifCond .eq 14, 3) := by decide +kernel
theorem dX9_luck_12 : decode cX9_luck 12 = .ok (.iload 5, 2) := by decide +kernel
theorem dX9_luck_14 : decode cX9_luck 14 = .ok (.iconst 1, 1) := by decide +kernel
theorem dX9_luck_15 : decode cX9_luck 15 = .ok (.bipush 100, 2) := by decide +kernel
theorem dX9_luck_17 : decode cX9_luck 17 = .ok (.invokestatic 107, 3) := by decide +kernel
theorem dX9_luck_20 : decode cX9_luck 20 = .ok (.ifCond .ne 9, 3) := by decide +kernel
theorem dX9_luck_23 : decode cX9_luck 23 = .ok (.aload_n 0, 1) := by decide +kernel
theorem dX9_luck_24 : decode cX9_luck 24 = .ok (.iconst 1, 1) := by decide +kernel
theorem dX9_luck_25 : decode cX9_luck 25 = .ok (.invokevirtual 130, 3) := by decide +kernel
theorem dX9_luck_28 : decode cX9_luck 28 = .ok (.ireturn, 1) := by decide +kernel
theorem dX9_luck_29 : decode cX9_luck 29 = .ok (.aload_n 0, 1) := by decide +kernel
theorem dX9_luck_30 : decode cX9_luck 30 = .ok (.iload_n 1, 1) := by decide +kernel
theorem dX9_luck_31 : decode cX9_luck 31 = .ok (.iload_n 2, 1) := by decide +kernel
theorem dX9_luck_32 : decode cX9_luck 32 = .ok (.iload_n 3, 1) := by decide +kernel
theorem dX9_luck_33 : decode cX9_luck 33 = .ok (.invokevirtual 362, 3) := by decide +kernel
theorem dX9_luck_36 : decode cX9_luck 36 = .ok (.istore 6, 2) := by decide +kernel
theorem dX9_luck_38 : decode cX9_luck 38 = .ok (.iload 6, 2) := by decide +kernel
theorem dX9_luck_40 : decode cX9_luck 40 = .ok (.ifCond .eq 10, 3) := by decide +kernel
theorem dX9_luck_43 : decode cX9_luck 43 = .ok (.aload_n 0, 1) := by decide +kernel
theorem dX9_luck_44 : decode cX9_luck 44 = .ok (.iload 6, 2) := by decide +kernel
theorem dX9_luck_46 : decode cX9_luck 46 = .ok (.invokevirtual 130, 3) := by decide +kernel
theorem dX9_luck_49 : decode cX9_luck 49 = .ok (.ireturn, 1) := by decide +kernel
theorem dX9_luck_50 : decode cX9_luck 50 = .ok (.aload_n 0, 1) := by decide +kernel
theorem dX9_luck_51 : decode cX9_luck 51 = .ok (.getfield 43, 3) := by decide +kernel
theorem dX9_luck_54 : decode cX9_luck 54 = .ok (.invokevirtual 260, 3) := by decide +kernel
theorem dX9_luck_57 : decode cX9_luck 57 = .ok (.aload_n 0, 1) := by decide +kernel
theorem dX9_luck_58 : decode cX9_luck 58 = .ok (.getfield 80, 3) := by decide +kernel
theorem dX9_luck_61 : decode cX9_luck 61 = .ok (.iload 4, 2) := by decide +kernel
theorem dX9_luck_63 : decode cX9_luck 63 = .ok (.invokevirtual 369, 3) := by decide +kernel
theorem dX9_luck_66 : decode cX9_luck 66 = .ok (.aload_n 0, 1) := by decide +kernel
theorem dX9_luck_67 : decode cX9_luck 67 = .ok (.aload_n 0, 1) := by decide +kernel
theorem dX9_luck_68 : decode cX9_luck 68 = .ok (.getfield 80, 3) := by decide +kernel
theorem dX9_luck_71 : decode cX9_luck 71 = .ok (.iload_n 1, 1) := by decide +kernel
theorem dX9_luck_72 : decode cX9_luck 72 = .ok (.aload_n 0, 1) := by decide +kernel
theorem dX9_luck_73 : decode cX9_luck 73 = .ok (.getfield 27, 3) := by decide +kernel
theorem dX9_luck_76 : decode cX9_luck 76 = .ok (.getfield 134, 3) := by decide +kernel
theorem dX9_luck_79 : decode cX9_luck 79 = .ok (.iload_n 2, 1) := by decide +kernel
theorem dX9_luck_80 : decode cX9_luck 80 = .ok (.aaload, 1) := by decide +kernel
theorem dX9_luck_81 : decode cX9_luck 81 = .ok (.iload_n 3, 1) := by decide +kernel
theorem dX9_luck_82 : decode cX9_luck 82 = .ok (.iload 5, 2) := by decide +kernel
theorem dX9_luck_84 : decode cX9_luck 84 = .ok (.invokevirtual 372, 3) := by decide +kernel
theorem dX9_luck_87 : decode cX9_luck 87 = .ok (.invokevirtual 180, 3) := by decide +kernel
theorem dX9_luck_90 : decode cX9_luck 90 = .ok (.ireturn, 1) := by decide +kernel
theorem dX9_mark_0 : decode cX9_mark 0 = .ok (.aload_n 0, 1) := by decide +kernel
theorem dX9_mark_1 : decode cX9_mark 1 = .ok (.getfield 20, 3) := by decide +kernel
theorem dX9_mark_4 : decode cX9_mark 4 = .ok (.iconst 3, 1) := by decide +kernel
theorem dX9_mark_5 : decode cX9_mark 5 = .ok (.if_icmp .lt 9, 3) := by decide +kernel
theorem dX9_mark_8 : decode cX9_mark 8 = .ok (.aload_n 0, 1) := by decide +kernel
theorem dX9_mark_9 : decode cX9_mark 9 = .ok (.iconst 4, 1) := by decide +kernel
theorem dX9_mark_10 : decode cX9_mark 10 = .ok (.invokevirtual 130, 3) := by decide +kernel
theorem dX9_mark_13 : decode cX9_mark 13 = .ok (.ireturn, 1) := by decide +kernel
theorem dX9_mark_14 : decode cX9_mark 14 = .ok (.aload_n 0, 1) := by decide +kernel
theorem dX9_mark_15 : decode cX9_mark 15 = .ok (.getfield 16, 3) := by decide +kernel
theorem dX9_mark_18 : decode cX9_mark 18 = .ok (.aload_n 0, 1) := by decide +kernel
theorem dX9_mark_19 : decode cX9_mark 19 = .ok (.getfield 20, 3) := by decide +kernel
theorem dX9_mark_22 : decode cX9_mark 22 = .ok (.aaload, 1) := by decide +kernel
theorem dX9_mark_23 : decode cX9_mark 23 = .ok (.aload_n 0, 1) := by decide +kernel
theorem dX9_mark_24 : decode cX9_mark 24 = .ok (.getfield 10, 3) := by decide +kernel
theorem dX9_mark_27 : decode cX9_mark 27 = .ok (.invokevirtual 376, 3) := by decide +kernel
theorem dX9_mark_30 : decode cX9_mark 30 = .ok (.aload_n 0, 1) := by decide +kernel
theorem dX9_mark_31 : decode cX9_mark 31 = .ok (.dup, 1) := by decide +kernel
theorem dX9_mark_32 : decode cX9_mark 32 = .ok (.getfield 20, 3) := by decide +kernel
theorem dX9_mark_35 : decode cX9_mark 35 = .ok (.iconst 1, 1) := by decide +kernel
theorem dX9_mark_36 : decode cX9_mark 36 = .ok (.iadd, 1) := by decide +kernel
theorem dX9_mark_37 : decode cX9_mark 37 = .ok (.putfield 20, 3) := by decide +kernel
theorem dX9_mark_40 : decode cX9_mark 40 = .ok (.aload_n 0, 1) := by decide +kernel
theorem dX9_mark_41 : decode cX9_mark 41 = .ok (.aload_n 0, 1) := by decide +kernel
theorem dX9_mark_42 : decode cX9_mark 42 = .ok (.getfield 20, 3) := by decide +kernel
theorem dX9_mark_45 : decode cX9_mark 45 = .ok (.invokevirtual 180, 3) := by decide +kernel
theorem dX9_mark_48 : decode cX9_mark 48 = .ok (.ireturn, 1) := by decide +kernel
theorem dX9_back_0 : decode cX9_back 0 = .ok (.aload_n 0, 1) := by decide +kernel
theorem dX9_back_1 : decode cX9_back 1 = .ok (.getfield 20, 3) := by decide +kernel
theorem dX9_back_4 : decode cX9_back 4 = .ok (.ifCond .gt 10, 3) := by decide +kernel
theorem dX9_back_7 : decode cX9_back 7 = .ok (.aload_n 0, 1) := by decide +kernel
theorem dX9_back_8 : decode cX9_back 8 = .ok (.bipush 6, 2) := by decide +kernel
theorem dX9_back_10 : decode cX9_back 10 = .ok (.invokevirtual 130, 3) := by decide +kernel
theorem dX9_back_13 : decode cX9_back 13 = .ok (.ireturn, 1) := by decide +kernel
theorem dX9_back_14 : decode cX9_back 14 = .ok (.aload_n 0, 1) := by decide +kernel
theorem dX9_back_15 : decode cX9_back 15 = .ok (.dup, 1) := by decide +kernel
theorem dX9_back_16 : decode cX9_back 16 = .ok (.getfield 20, 3) := by decide +kernel
theorem dX9_back_19 : decode cX9_back 19 = .ok (.iconst 1, 1) := by decide +kernel
theorem dX9_back_20 : decode cX9_back 20 = .ok (.isub, 1) := by decide +kernel
theorem dX9_back_21 : decode cX9_back 21 = .ok (.putfield 20, 3) := by decide +kernel
theorem dX9_back_24 : decode cX9_back 24 = .ok (.aload_n 0, 1) := by decide +kernel
theorem dX9_back_25 : decode cX9_back 25 = .ok (.getfield 10, 3) := by decide +kernel
theorem dX9_back_28 : decode cX9_back 28 = .ok (.aload_n 0, 1) := by decide +kernel
theorem dX9_back_29 : decode cX9_back 29 = .ok (.getfield 16, 3) := by decide +kernel
theorem dX9_back_32 : decode cX9_back 32 = .ok (.aload_n 0, 1) := by decide +kernel
theorem dX9_back_33 : decode cX9_back 33 = .ok (.getfield 20, 3) := by decide +kernel
theorem dX9_back_36 : decode cX9_back 36 = .ok (.aaload, 1) := by decide +kernel
theorem dX9_back_37 : decode cX9_back 37 = .ok (.invokevirtual 376, 3) := by decide +kernel
theorem dX9_back_40 : decode cX9_back 40 = .ok (.aload_n 0, 1) := by decide +kernel
theorem dX9_back_41 : decode cX9_back 41 = .ok (.getfield 43, 3) := by decide +kernel
theorem dX9_back_44 : decode cX9_back 44 = .ok (.invokevirtual 174, 3) := by decide +kernel
theorem dX9_back_47 : decode cX9_back 47 = .ok (.aload_n 0, 1) := by decide +kernel
theorem dX9_back_48 : decode cX9_back 48 = .ok (.aload_n 0, 1) := by decide +kernel
theorem dX9_back_49 : decode cX9_back 49 = .ok (.getfield 20, 3) := by decide +kernel
theorem dX9_back_52 : decode cX9_back 52 = .ok (.invokevirtual 180, 3) := by decide +kernel
theorem dX9_back_55 : decode cX9_back 55 = .ok (.ireturn, 1) := by decide +kernel
theorem dX9_answer_0 : decode cX9_answer 0 = .ok (.aload_n 0, 1) := by decide +kernel
theorem dX9_answer_1 : decode cX9_answer 1 = .ok (.iconst 0, 1) := by decide +kernel
theorem dX9_answer_2 : decode cX9_answer 2 = .ok (.putfield 84, 3) := by decide +kernel
theorem dX9_answer_5 : decode cX9_answer 5 = .ok (.iload_n 1, 1) := by decide +kernel
theorem dX9_answer_6 : decode cX9_answer 6 = .ok (.ireturn, 1) := by decide +kernel
theorem dX9_agree_0 : decode cX9_agree 0 = .ok (.aload_n 0, 1) := by decide +kernel
theorem dX9_agree_1 : decode cX9_agree 1 = .ok (.iconst 0, 1) := by decide +kernel
theorem dX9_agree_2 : decode cX9_agree 2 = .ok (.putfield 84, 3) := by decide +kernel
theorem dX9_agree_5 : decode cX9_agree 5 = .ok (.iconst 1, 1) := by decide +kernel
theorem dX9_agree_6 : decode cX9_agree 6 = .ok (.ireturn, 1) := by decide +kernel
theorem dX9_none_0 : decode cX9_none 0 = .ok (.aload_n 0, 1) := by decide +kernel
theorem dX9_none_1 : decode cX9_none 1 = .ok (.iload_n 1, 1) := by decide +kernel
theorem dX9_none_2 : decode cX9_none 2 = .ok (.putfield 84, 3) := by decide +kernel
theorem dX9_none_5 : decode cX9_none 5 = .ok (.iconst (-1), 1) := by decide +kernel
theorem dX9_none_6 : decode cX9_none 6 = .ok (.ireturn, 1) := by decide +kernel
theorem dX9_refuse_0 : decode cX9_refuse 0 = .ok (.aload_n 0, 1) := by decide +kernel
theorem dX9_refuse_1 : decode cX9_refuse 1 = .ok (.iload_n 1, 1) := by decide +kernel
theorem dX9_refuse_2 : decode cX9_refuse 2 = .ok (.putfield 84, 3) := by decide +kernel
theorem dX9_refuse_5 : decode cX9_refuse 5 = .ok (.iconst 0, 1) := by decide +kernel
theorem dX9_refuse_6 : decode cX9_refuse 6 = .ok (.ireturn, 1) := by decide +kernel
theorem dX9_tell_0 : decode cX9_tell 0 = .ok (.lload_n 1, 1) := by decide +kernel
theorem dX9_tell_1 : decode cX9_tell 1 = .ok (.invokestatic 379, 3) := by decide +kernel
theorem dX9_tell_4 : decode cX9_tell 4 = .ok (.lload_n 3, 1) := by decide +kernel
theorem dX9_tell_5 : decode cX9_tell 5 = .ok (.invokestatic 385, 3) := by decide +kernel
theorem dX9_tell_8 : decode cX9_tell 8 = .ok (.lstore 5, 2) := by decide +kernel
theorem dX9_tell_10 : decode cX9_tell 10 = .ok (.lload 5, 2) := by decide +kernel
theorem dX9_tell_12 : decode cX9_tell 12 = .ok (.lconst 1, 1) := by decide +kernel
theorem dX9_tell_13 : decode cX9_tell 13 = .ok (.lcmp, 1) := by decide +kernel
theorem dX9_tell_14 : decode cX9_tell 14 = .ok (.ifCond .ge 6, 3) := by decide +kernel
theorem dX9_tell_17 : decode cX9_tell 17 = .ok (.lconst 1, 1) := by decide +kernel
theorem dX9_tell_18 : decode cX9_tell 18 = .ok (.lstore 5, 2) := by decide +kernel
theorem dX9_tell_20 : decode cX9_tell 20 = .ok (.aload_n 0, 1) := by decide +kernel
theorem dX9_tell_21 : decode cX9_tell 21 = .ok (.lload_n 1, 1) := by decide +kernel
theorem dX9_tell_22 : decode cX9_tell 22 = .ok (.lload 5, 2) := by decide +kernel
theorem dX9_tell_24 : decode cX9_tell 24 = .ok (.ldiv, 1) := by decide +kernel
theorem dX9_tell_25 : decode cX9_tell 25 = .ok (.putfield 87, 3) := by decide +kernel
theorem dX9_tell_28 : decode cX9_tell 28 = .ok (.aload_n 0, 1) := by decide +kernel
theorem dX9_tell_29 : decode cX9_tell 29 = .ok (.lload_n 3, 1) := by decide +kernel
theorem dX9_tell_30 : decode cX9_tell 30 = .ok (.lload 5, 2) := by decide +kernel
theorem dX9_tell_32 : decode cX9_tell 32 = .ok (.ldiv, 1) := by decide +kernel
theorem dX9_tell_33 : decode cX9_tell 33 = .ok (.putfield 91, 3) := by decide +kernel
theorem dX9_tell_36 : decode cX9_tell 36 = .ok (.aload_n 0, 1) := by decide +kernel
theorem dX9_tell_37 : decode cX9_tell 37 = .ok (.invokevirtual 118, 3) := by decide +kernel
theorem dX9_tell_40 : decode cX9_tell 40 = .ok (.ireturn, 1) := by decide +kernel
theorem dX9_commonDivisor_0 : decode cX9_commonDivisor 0 = .ok (.iconst 0, 1) := by decide +kernel
theorem dX9_commonDivisor_1 : decode cX9_commonDivisor 1 = .ok (.istore 4, 2) := by decide +kernel
theorem dX9_commonDivisor_3 : decode cX9_commonDivisor 3 = .ok (.iload 4, 2) := by decide +kernel
theorem dX9_commonDivisor_5 : decode cX9_commonDivisor 5 = .ok (.sipush 200, 3) := by decide +kernel
theorem dX9_commonDivisor_8 : decode cX9_commonDivisor 8 = .ok (.if_icmp .ge 25, 3) := by decide +kernel
theorem dX9_commonDivisor_11 : decode cX9_commonDivisor 11 = .ok (.lload_n 2, 1) := by decide +kernel
theorem dX9_commonDivisor_12 : decode cX9_commonDivisor 12 = .ok (.lconst 0, 1) := by decide +kernel
theorem dX9_commonDivisor_13 : decode cX9_commonDivisor 13 = .ok (.lcmp, 1) := by decide +kernel
theorem dX9_commonDivisor_14 : decode cX9_commonDivisor 14 = .ok (.ifCond .eq 19, 3) := by decide +kernel
theorem dX9_commonDivisor_17 : decode cX9_commonDivisor 17 = .ok (.lload_n 0, 1) := by decide +kernel
theorem dX9_commonDivisor_18 : decode cX9_commonDivisor 18 = .ok (.lload_n 2, 1) := by decide +kernel
theorem dX9_commonDivisor_19 : decode cX9_commonDivisor 19 = .ok (.lrem, 1) := by decide +kernel
theorem dX9_commonDivisor_20 : decode cX9_commonDivisor 20 = .ok (.lstore 5, 2) := by decide +kernel
theorem dX9_commonDivisor_22 : decode cX9_commonDivisor 22 = .ok (.lload_n 2, 1) := by decide +kernel
theorem dX9_commonDivisor_23 : decode cX9_commonDivisor 23 = .ok (.lstore_n 0, 1) := by decide +kernel
theorem dX9_commonDivisor_24 : decode cX9_commonDivisor 24 = .ok (.lload 5, 2) := by decide +kernel
theorem dX9_commonDivisor_26 : decode cX9_commonDivisor 26 = .ok (.lstore_n 2, 1) := by decide +kernel
theorem dX9_commonDivisor_27 : decode cX9_commonDivisor 27 = .ok (.iinc 4 1, 3) := by decide +kernel
theorem dX9_commonDivisor_30 : decode cX9_commonDivisor 30 = .ok (.goto (-27), 3) := by decide +kernel
theorem dX9_commonDivisor_33 : decode cX9_commonDivisor 33 = .ok (.lload_n 0, 1) := by decide +kernel
theorem dX9_commonDivisor_34 : decode cX9_commonDivisor 34 = .ok (.lreturn, 1) := by decide +kernel
theorem dX9_isWithin_0 : decode cX9_isWithin 0 = .ok (.iload_n 0, 1) := by decide +kernel
theorem dX9_isWithin_1 : decode cX9_isWithin 1 = .ok (.iload_n 1, 1) := by decide +kernel
theorem dX9_isWithin_2 : decode cX9_isWithin 2 = .ok (.if_icmp .lt 12, 3) := by decide +kernel
theorem dX9_isWithin_5 : decode cX9_isWithin 5 = .ok (.iload_n 0, 1) := by decide +kernel
theorem dX9_isWithin_6 : decode cX9_isWithin 6 = .ok (.iload_n 2, 1) := by decide +kernel
theorem dX9_isWithin_7 : decode cX9_isWithin 7 = .ok (.if_icmp .gt 7, 3) := by decide +kernel
theorem dX9_isWithin_10 : decode cX9_isWithin 10 = .ok (.iconst 1, 1) := by decide +kernel
theorem dX9_isWithin_11 : decode cX9_isWithin 11 = .ok (.goto 4, 3) := by decide +kernel
theorem dX9_isWithin_14 : decode cX9_isWithin 14 = .ok (.iconst 0, 1) := by decide +kernel
theorem dX9_isWithin_15 : decode cX9_isWithin 15 = .ok (.ireturn, 1) := by decide +kernel
theorem dX9_isTray_0 : decode cX9_isTray 0 = .ok (.iload_n 0, 1) := by decide +kernel
theorem dX9_isTray_1 : decode cX9_isTray 1 = .ok (.iconst 0, 1) := by decide +kernel
theorem dX9_isTray_2 : decode cX9_isTray 2 = .ok (.iconst 3, 1) := by decide +kernel
theorem dX9_isTray_3 : decode cX9_isTray 3 = .ok (.invokestatic 107, 3) := by decide +kernel
theorem dX9_isTray_6 : decode cX9_isTray 6 = .ok (.ireturn, 1) := by decide +kernel
theorem dX9_isCouple_0 : decode cX9_isCouple 0 = .ok (.aload_n 0, 1) := by decide +kernel
theorem dX9_isCouple_1 : decode cX9_isCouple 1 = .ok (.getfield 10, 3) := by decide +kernel
theorem dX9_isCouple_4 : decode cX9_isCouple 4 = .ok (.iload_n 1, 1) := by decide +kernel
theorem dX9_isCouple_5 : decode cX9_isCouple 5 = .ok (.invokevirtual 222, 3) := by decide +kernel
theorem dX9_isCouple_8 : decode cX9_isCouple 8 = .ok (.ifCond .eq 23, 3) := by decide +kernel
theorem dX9_isCouple_11 : decode cX9_isCouple 11 = .ok (.aload_n 0, 1) := by decide +kernel
theorem dX9_isCouple_12 : decode cX9_isCouple 12 = .ok (.getfield 10, 3) := by decide +kernel
theorem dX9_isCouple_15 : decode cX9_isCouple 15 = .ok (.iload_n 2, 1) := by decide +kernel
theorem dX9_isCouple_16 : decode cX9_isCouple 16 = .ok (.invokevirtual 222, 3) := by decide +kernel
theorem dX9_isCouple_19 : decode cX9_isCouple 19 = .ok (.ifCond .eq 12, 3) := by decide +kernel
theorem dX9_isCouple_22 : decode cX9_isCouple 22 = .ok (.iload_n 1, 1) := by decide +kernel
theorem dX9_isCouple_23 : decode cX9_isCouple 23 = .ok (.iload_n 2, 1) := by decide +kernel
theorem dX9_isCouple_24 : decode cX9_isCouple 24 = .ok (.if_icmp .eq 7, 3) := by decide +kernel
theorem dX9_isCouple_27 : decode cX9_isCouple 27 = .ok (.iconst 1, 1) := by decide +kernel
theorem dX9_isCouple_28 : decode cX9_isCouple 28 = .ok (.goto 4, 3) := by decide +kernel
theorem dX9_isCouple_31 : decode cX9_isCouple 31 = .ok (.iconst 0, 1) := by decide +kernel
theorem dX9_isCouple_32 : decode cX9_isCouple 32 = .ok (.ireturn, 1) := by decide +kernel
theorem dX9_whyNoPlace_0 : decode cX9_whyNoPlace 0 = .ok (.iload_n 1, 1) := by decide +kernel
theorem dX9_whyNoPlace_1 : decode cX9_whyNoPlace 1 = .ok (.invokestatic 103, 3) := by decide +kernel
theorem dX9_whyNoPlace_4 : decode cX9_whyNoPlace 4 = .ok (.ifCond .ne 5, 3) := by decide +kernel
theorem dX9_whyNoPlace_7 : decode cX9_whyNoPlace 7 = .ok (.iconst 1, 1) := by decide +kernel
theorem dX9_whyNoPlace_8 : decode cX9_whyNoPlace 8 = .ok (.ireturn, 1) := by decide +kernel
theorem dX9_whyNoPlace_9 : decode cX9_whyNoPlace 9 = .ok (.aload_n 0, 1) := by decide +kernel
theorem dX9_whyNoPlace_10 : decode cX9_whyNoPlace 10 = .ok (.getfield 27, 3) := by decide +kernel
theorem dX9_whyNoPlace_13 : decode cX9_whyNoPlace 13 = .ok (.iload_n 1, 1) := by decide +kernel
theorem dX9_whyNoPlace_14 : decode cX9_whyNoPlace 14 = .ok (.invokevirtual 138, 3) := by decide +kernel
theorem dX9_whyNoPlace_17 : decode cX9_whyNoPlace 17 = .ok (.ifCond .eq 5, 3) := by decide +kernel
theorem dX9_whyNoPlace_20 : decode cX9_whyNoPlace 20 = .ok (.iconst 2, 1) := by decide +kernel
theorem dX9_whyNoPlace_21 : decode cX9_whyNoPlace 21 = .ok (.ireturn, 1) := by decide +kernel
theorem dX9_whyNoPlace_22 : decode cX9_whyNoPlace 22 = .ok (.iload_n 2, 1) := by decide +kernel
theorem dX9_whyNoPlace_23 : decode cX9_whyNoPlace 23 = .ok (.ifCond .lt 16, 3) := by decide +kernel
theorem dX9_whyNoPlace_26 : decode cX9_whyNoPlace 26 = .ok (.iload_n 2, 1) := by decide +kernel
theorem dX9_whyNoPlace_27 : decode cX9_whyNoPlace 27 = .ok (.aload_n 0, 1) := by decide +kernel
theorem dX9_whyNoPlace_28 : decode cX9_whyNoPlace 28 = .ok (.getfield 27, 3) := by decide +kernel
theorem dX9_whyNoPlace_31 : decode cX9_whyNoPlace 31 = .ok (.getfield 389, 3) := by decide +kernel
theorem dX9_whyNoPlace_34 : decode cX9_whyNoPlace 34 = .ok (.iload_n 1, 1) := by decide +kernel
theorem dX9_whyNoPlace_35 : decode cX9_whyNoPlace 35 = .ok (.iaload, 1) := by decide +kernel
theorem dX9_whyNoPlace_36 : decode cX9_whyNoPlace 36 = .ok (.if_icmp .lt 7, 3) := by decide +kernel
theorem dX9_whyNoPlace_39 : decode cX9_whyNoPlace 39 = .ok (.iconst 3, 1) := by decide +kernel
theorem dX9_whyNoPlace_40 : decode cX9_whyNoPlace 40 = .ok (.goto 4, 3) := by decide +kernel
theorem dX9_whyNoPlace_43 : decode cX9_whyNoPlace 43 = .ok (.iconst 0, 1) := by decide +kernel
theorem dX9_whyNoPlace_44 : decode cX9_whyNoPlace 44 = .ok (.ireturn, 1) := by decide +kernel
theorem dX9_whyNoBest_0 : decode cX9_whyNoBest 0 = .ok (.aload_n 0, 1) := by decide +kernel
theorem dX9_whyNoBest_1 : decode cX9_whyNoBest 1 = .ok (.getfield 10, 3) := by decide +kernel
theorem dX9_whyNoBest_4 : decode cX9_whyNoBest 4 = .ok (.iload_n 1, 1) := by decide +kernel
theorem dX9_whyNoBest_5 : decode cX9_whyNoBest 5 = .ok (.invokevirtual 222, 3) := by decide +kernel
theorem dX9_whyNoBest_8 : decode cX9_whyNoBest 8 = .ok (.ifCond .eq 13, 3) := by decide +kernel
theorem dX9_whyNoBest_11 : decode cX9_whyNoBest 11 = .ok (.iload_n 2, 1) := by decide +kernel
theorem dX9_whyNoBest_12 : decode cX9_whyNoBest 12 = .ok (.iconst 1, 1) := by decide +kernel
theorem dX9_whyNoBest_13 : decode cX9_whyNoBest 13 = .ok (.bipush 6, 2) := by decide +kernel
theorem dX9_whyNoBest_15 : decode cX9_whyNoBest 15 = .ok (.invokestatic 107, 3) := by decide +kernel
theorem dX9_whyNoBest_18 : decode cX9_whyNoBest 18 = .ok (.ifCond .ne 5, 3) := by decide +kernel
theorem dX9_whyNoBest_21 : decode cX9_whyNoBest 21 = .ok (.iconst 1, 1) := by decide +kernel
theorem dX9_whyNoBest_22 : decode cX9_whyNoBest 22 = .ok (.ireturn, 1) := by decide +kernel
theorem dX9_whyNoBest_23 : decode cX9_whyNoBest 23 = .ok (.aload_n 0, 1) := by decide +kernel
theorem dX9_whyNoBest_24 : decode cX9_whyNoBest 24 = .ok (.getfield 10, 3) := by decide +kernel
theorem dX9_whyNoBest_27 : decode cX9_whyNoBest 27 = .ok (.iload_n 1, 1) := by decide +kernel
theorem dX9_whyNoBest_28 : decode cX9_whyNoBest 28 = .ok (.invokevirtual 392, 3) := by decide +kernel
theorem dX9_whyNoBest_31 : decode cX9_whyNoBest 31 = .ok (.invokestatic 395, 3) := by decide +kernel
theorem dX9_whyNoBest_34 : decode cX9_whyNoBest 34 = .ok (.iload_n 2, 1) := by decide +kernel
theorem dX9_whyNoBest_35 : decode cX9_whyNoBest 35 = .ok (.if_icmp .ge 8, 3) := by decide +kernel
theorem dX9_whyNoBest_38 : decode cX9_whyNoBest 38 = .ok (.bipush 6, 2) := by decide +kernel
theorem dX9_whyNoBest_40 : decode cX9_whyNoBest 40 = .ok (.goto 4, 3) := by decide +kernel
theorem dX9_whyNoBest_43 : decode cX9_whyNoBest 43 = .ok (.iconst 0, 1) := by decide +kernel
theorem dX9_whyNoBest_44 : decode cX9_whyNoBest 44 = .ok (.ireturn, 1) := by decide +kernel
theorem dX9_whyNoYears_0 : decode cX9_whyNoYears 0 = .ok (.aload_n 0, 1) := by decide +kernel
theorem dX9_whyNoYears_1 : decode cX9_whyNoYears 1 = .ok (.getfield 10, 3) := by decide +kernel
theorem dX9_whyNoYears_4 : decode cX9_whyNoYears 4 = .ok (.iload_n 1, 1) := by decide +kernel
theorem dX9_whyNoYears_5 : decode cX9_whyNoYears 5 = .ok (.invokevirtual 222, 3) := by decide +kernel
theorem dX9_whyNoYears_8 : decode cX9_whyNoYears 8 = .ok (.ifCond .eq 20, 3) := by decide +kernel
theorem dX9_whyNoYears_11 : decode cX9_whyNoYears 11 = .ok (.iload_n 2, 1) := by decide +kernel
theorem dX9_whyNoYears_12 : decode cX9_whyNoYears 12 = .ok (.invokestatic 103, 3) := by decide +kernel
theorem dX9_whyNoYears_15 : decode cX9_whyNoYears 15 = .ok (.ifCond .eq 13, 3) := by decide +kernel
theorem dX9_whyNoYears_18 : decode cX9_whyNoYears 18 = .ok (.iload_n 3, 1) := by decide +kernel
theorem dX9_whyNoYears_19 : decode cX9_whyNoYears 19 = .ok (.iconst 1, 1) := by decide +kernel
theorem dX9_whyNoYears_20 : decode cX9_whyNoYears 20 = .ok (.bipush 60, 2) := by decide +kernel
theorem dX9_whyNoYears_22 : decode cX9_whyNoYears 22 = .ok (.invokestatic 107, 3) := by decide +kernel
theorem dX9_whyNoYears_25 : decode cX9_whyNoYears 25 = .ok (.ifCond .ne 5, 3) := by decide +kernel
theorem dX9_whyNoYears_28 : decode cX9_whyNoYears 28 = .ok (.iconst 1, 1) := by decide +kernel
theorem dX9_whyNoYears_29 : decode cX9_whyNoYears 29 = .ok (.ireturn, 1) := by decide +kernel
theorem dX9_whyNoYears_30 : decode cX9_whyNoYears 30 = .ok (.aload_n 0, 1) := by decide +kernel
theorem dX9_whyNoYears_31 : decode cX9_whyNoYears 31 = .ok (.getfield 27, 3) := by decide +kernel
theorem dX9_whyNoYears_34 : decode cX9_whyNoYears 34 = .ok (.iload_n 2, 1) := by decide +kernel
theorem dX9_whyNoYears_35 : decode cX9_whyNoYears 35 = .ok (.invokevirtual 138, 3) := by decide +kernel
theorem dX9_whyNoYears_38 : decode cX9_whyNoYears 38 = .ok (.ifCond .eq 5, 3) := by decide +kernel
theorem dX9_whyNoYears_41 : decode cX9_whyNoYears 41 = .ok (.iconst 2, 1) := by decide +kernel
theorem dX9_whyNoYears_42 : decode cX9_whyNoYears 42 = .ok (.ireturn, 1) := by decide +kernel
theorem dX9_whyNoYears_43 : decode cX9_whyNoYears 43 = .ok (.aload_n 0, 1) := by decide +kernel
theorem dX9_whyNoYears_44 : decode cX9_whyNoYears 44 = .ok (.getfield 27, 3) := by decide +kernel
theorem dX9_whyNoYears_47 : decode cX9_whyNoYears 47 = .ok (.iload_n 2, 1) := by decide +kernel
theorem dX9_whyNoYears_48 : decode cX9_whyNoYears 48 = .ok (.iconst 0, 1) := by decide +kernel
theorem dX9_whyNoYears_49 : decode cX9_whyNoYears 49 = .ok (.iload_n 3, 1) := by decide +kernel
theorem dX9_whyNoYears_50 : decode cX9_whyNoYears 50 = .ok (.invokevirtual 145, 3) := by decide +kernel
theorem dX9_whyNoYears_53 : decode cX9_whyNoYears 53 = .ok (.ifCond .ne 5, 3) := by decide +kernel
theorem dX9_whyNoYears_56 : decode cX9_whyNoYears 56 = .ok (.iconst 3, 1) := by decide +kernel
theorem dX9_whyNoYears_57 : decode cX9_whyNoYears 57 = .ok (.ireturn, 1) := by decide +kernel
theorem dX9_whyNoYears_58 : decode cX9_whyNoYears 58 = .ok (.iconst 0, 1) := by decide +kernel
theorem dX9_whyNoYears_59 : decode cX9_whyNoYears 59 = .ok (.istore 4, 2) := by decide +kernel
theorem dX9_whyNoYears_61 : decode cX9_whyNoYears 61 = .ok (.iload 4, 2) := by decide +kernel
theorem dX9_whyNoYears_63 : decode cX9_whyNoYears 63 = .ok (.iload_n 3, 1) := by decide +kernel
theorem dX9_whyNoYears_64 : decode cX9_whyNoYears 64 = .ok (.if_icmp .ge 46, 3) := by decide +kernel
theorem dX9_whyNoYears_67 : decode cX9_whyNoYears 67 = .ok (.aload_n 0, 1) := by decide +kernel
theorem dX9_whyNoYears_68 : decode cX9_whyNoYears 68 = .ok (.getfield 27, 3) := by decide +kernel
theorem dX9_whyNoYears_71 : decode cX9_whyNoYears 71 = .ok (.getfield 134, 3) := by decide +kernel
theorem dX9_whyNoYears_74 : decode cX9_whyNoYears 74 = .ok (.iload_n 2, 1) := by decide +kernel
theorem dX9_whyNoYears_75 : decode cX9_whyNoYears 75 = .ok (.aaload, 1) := by decide +kernel
theorem dX9_whyNoYears_76 : decode cX9_whyNoYears 76 = .ok (.iload 4, 2) := by decide +kernel
theorem dX9_whyNoYears_78 : decode cX9_whyNoYears 78 = .ok (.laload, 1) := by decide +kernel
theorem dX9_whyNoYears_79 : decode cX9_whyNoYears 79 = .ok (.lstore 5, 2) := by decide +kernel
theorem dX9_whyNoYears_81 : decode cX9_whyNoYears 81 = .ok (.lload 5, 2) := by decide +kernel
theorem dX9_whyNoYears_83 : decode cX9_whyNoYears 83 = .ok (.lconst 0, 1) := by decide +kernel
theorem dX9_whyNoYears_84 : decode cX9_whyNoYears 84 = .ok (.lcmp, 1) := by decide +kernel
theorem dX9_whyNoYears_85 : decode cX9_whyNoYears 85 = .ok (.ifCond .lt 17, 3) := by decide +kernel
theorem dX9_whyNoYears_88 : decode cX9_whyNoYears 88 = .ok (.lload 5, 2) := by decide +kernel
theorem dX9_whyNoYears_90 : decode cX9_whyNoYears 90 = .ok (.aload_n 0, 1) := by decide +kernel
theorem dX9_whyNoYears_91 : decode cX9_whyNoYears 91 = .ok (.getfield 10, 3) := by decide +kernel
theorem dX9_whyNoYears_94 : decode cX9_whyNoYears 94 = .ok (.invokevirtual 400, 3) := by decide +kernel
theorem dX9_whyNoYears_97 : decode cX9_whyNoYears 97 = .ok (.i2l, 1) := by decide +kernel
theorem dX9_whyNoYears_98 : decode cX9_whyNoYears 98 = .ok (.lcmp, 1) := by decide +kernel
theorem dX9_whyNoYears_99 : decode cX9_whyNoYears 99 = .ok (.ifCond .lt 5, 3) := by decide +kernel
theorem dX9_whyNoYears_102 : decode cX9_whyNoYears 102 = .ok (.iconst 1, 1) := by decide +kernel
theorem dX9_whyNoYears_103 : decode cX9_whyNoYears 103 = .ok (.ireturn, 1) := by decide +kernel
theorem dX9_whyNoYears_104 : decode cX9_whyNoYears 104 = .ok (.iinc 4 1, 3) := by decide +kernel
theorem dX9_whyNoYears_107 : decode cX9_whyNoYears 107 = .ok (.goto (-46), 3) := by decide +kernel
theorem dX9_whyNoYears_110 : decode cX9_whyNoYears 110 = .ok (.iconst 0, 1) := by decide +kernel
theorem dX9_whyNoYears_111 : decode cX9_whyNoYears 111 = .ok (.ireturn, 1) := by decide +kernel
theorem dX10_init_0 : decode cX10_init 0 = .ok (.aload_n 0, 1) := by decide +kernel
theorem dX10_init_1 : decode cX10_init 1 = .ok (.invokespecial 1, 3) := by decide +kernel
theorem dX10_init_4 : decode cX10_init 4 = .ok (.aload_n 0, 1) := by decide +kernel
theorem dX10_init_5 : decode cX10_init 5 = .ok (.sipush 500, 3) := by decide +kernel
theorem dX10_init_8 : decode cX10_init 8 = .ok (.newarray .int, 2) := by decide +kernel
theorem dX10_init_10 : decode cX10_init 10 = .ok (.putfield 7, 3) := by decide +kernel
theorem dX10_init_13 : decode cX10_init 13 = .ok (.aload_n 0, 1) := by decide +kernel
theorem dX10_init_14 : decode cX10_init 14 = .ok (.lconst 1, 1) := by decide +kernel
theorem dX10_init_15 : decode cX10_init 15 = .ok (.putfield 13, 3) := by decide +kernel
theorem dX10_init_18 : decode cX10_init 18 = .ok (.aload_n 0, 1) := by decide +kernel
theorem dX10_init_19 : decode cX10_init 19 = .ok (.iconst 4, 1) := by decide +kernel
theorem dX10_init_20 : decode cX10_init 20 = .ok (.newarray .int, 2) := by decide +kernel
theorem dX10_init_22 : decode cX10_init 22 = .ok (.putfield 17, 3) := by decide +kernel
theorem dX10_init_25 : decode cX10_init 25 = .ok (.aload_n 0, 1) := by decide +kernel
theorem dX10_init_26 : decode cX10_init 26 = .ok (.iconst 4, 1) := by decide +kernel
theorem dX10_init_27 : decode cX10_init 27 = .ok (.newarray .int, 2) := by decide +kernel
theorem dX10_init_29 : decode cX10_init 29 = .ok (.dup, 1) := by decide +kernel
theorem dX10_init_30 : decode cX10_init 30 = .ok (.iconst 0, 1) := by decide +kernel
theorem dX10_init_31 : decode cX10_init 31 = .ok (.iconst (-1), 1) := by decide +kernel
theorem dX10_init_32 : decode cX10_init 32 = .ok (.iastore, 1) := by decide +kernel
theorem dX10_init_33 : decode cX10_init 33 = .ok (.dup, 1) := by decide +kernel
theorem dX10_init_34 : decode cX10_init 34 = .ok (.iconst 1, 1) := by decide +kernel
theorem dX10_init_35 : decode cX10_init 35 = .ok (.iconst (-1), 1) := by decide +kernel
theorem dX10_init_36 : decode cX10_init 36 = .ok (.iastore, 1) := by decide +kernel
theorem dX10_init_37 : decode cX10_init 37 = .ok (.dup, 1) := by decide +kernel
theorem dX10_init_38 : decode cX10_init 38 = .ok (.iconst 2, 1) := by decide +kernel
theorem dX10_init_39 : decode cX10_init 39 = .ok (.iconst (-1), 1) := by decide +kernel
theorem dX10_init_40 : decode cX10_init 40 = .ok (.iastore, 1) := by decide +kernel
theorem dX10_init_41 : decode cX10_init 41 = .ok (.dup, 1) := by decide +kernel
theorem dX10_init_42 : decode cX10_init 42 = .ok (.iconst 3, 1) := by decide +kernel
theorem dX10_init_43 : decode cX10_init 43 = .ok (.iconst (-1), 1) := by decide +kernel
theorem dX10_init_44 : decode cX10_init 44 = .ok (.iastore, 1) := by decide +kernel
theorem dX10_init_45 : decode cX10_init 45 = .ok (.putfield 20, 3) := by decide +kernel
theorem dX10_init_48 : decode cX10_init 48 = .ok (.aload_n 0, 1) := by decide +kernel
theorem dX10_init_49 : decode cX10_init 49 = .ok (.sipush 240, 3) := by decide +kernel
theorem dX10_init_52 : decode cX10_init 52 = .ok (.newarray .long, 2) := by decide +kernel
theorem dX10_init_54 : decode cX10_init 54 = .ok (.putfield 23, 3) := by decide +kernel
theorem dX10_init_57 : decode cX10_init 57 = .ok (.aload_n 0, 1) := by decide +kernel
theorem dX10_init_58 : decode cX10_init 58 = .ok (.sipush 600, 3) := by decide +kernel
theorem dX10_init_61 : decode cX10_init 61 = .ok (.newarray .byte, 2) := by decide +kernel
theorem dX10_init_63 : decode cX10_init 63 = .ok (.putfield 27, 3) := by decide +kernel
theorem dX10_init_66 : decode cX10_init 66 = .ok (.aload_n 0, 1) := by decide +kernel
theorem dX10_init_67 : decode cX10_init 67 = .ok (.sipush 600, 3) := by decide +kernel
theorem dX10_init_70 : decode cX10_init 70 = .ok (.newarray .byte, 2) := by decide +kernel
theorem dX10_init_72 : decode cX10_init 72 = .ok (.putfield 31, 3) := by decide +kernel
theorem dX10_init_75 : decode cX10_init 75 = .ok (.aload_n 0, 1) := by decide +kernel
theorem dX10_init_76 : decode cX10_init 76 = .ok (.iconst (-1), 1) := by decide +kernel
theorem dX10_init_77 : decode cX10_init 77 = .ok (.putfield 34, 3) := by decide +kernel
theorem dX10_init_80 : decode cX10_init 80 = .ok (.aload_n 0, 1) := by decide +kernel
theorem dX10_init_81 : decode cX10_init 81 = .ok (.iconst (-1), 1) := by decide +kernel
theorem dX10_init_82 : decode cX10_init 82 = .ok (.putfield 38, 3) := by decide +kernel
theorem dX10_init_85 : decode cX10_init 85 = .ok (.aload_n 0, 1) := by decide +kernel
theorem dX10_init_86 : decode cX10_init 86 = .ok (.bipush 10, 2) := by decide +kernel
theorem dX10_init_88 : decode cX10_init 88 = .ok (.newarray .long, 2) := by decide +kernel
theorem dX10_init_90 : decode cX10_init 90 = .ok (.putfield 41, 3) := by decide +kernel
theorem dX10_init_93 : decode cX10_init 93 = .ok (.aload_n 0, 1) := by decide +kernel
theorem dX10_init_94 : decode cX10_init 94 = .ok (.iconst 4, 1) := by decide +kernel
theorem dX10_init_95 : decode cX10_init 95 = .ok (.newarray .long, 2) := by decide +kernel
theorem dX10_init_97 : decode cX10_init 97 = .ok (.putfield 44, 3) := by decide +kernel
theorem dX10_init_100 : decode cX10_init 100 = .ok (.aload_n 0, 1) := by decide +kernel
theorem dX10_init_101 : decode cX10_init 101 = .ok (.sipush 10240, 3) := by decide +kernel
theorem dX10_init_104 : decode cX10_init 104 = .ok (.newarray .int, 2) := by decide +kernel
theorem dX10_init_106 : decode cX10_init 106 = .ok (.putfield 47, 3) := by decide +kernel
theorem dX10_init_109 : decode cX10_init 109 = .ok (.aload_n 0, 1) := by decide +kernel
theorem dX10_init_110 : decode cX10_init 110 = .ok (.iconst (-1), 1) := by decide +kernel
theorem dX10_init_111 : decode cX10_init 111 = .ok (.putfield 50, 3) := by decide +kernel
theorem dX10_init_114 : decode cX10_init 114 = .ok (.aload_n 0, 1) := by decide +kernel
theorem dX10_init_115 : decode cX10_init 115 = .ok (.bipush 64, 2) := by decide +kernel
theorem dX10_init_117 : decode cX10_init 117 = .ok (.newarray .int, 2) := by decide +kernel
theorem dX10_init_119 : decode cX10_init 119 = .ok (.putfield 53, 3) := by decide +kernel
theorem dX10_init_122 : decode cX10_init 122 = .ok (.aload_n 0, 1) := by decide +kernel
theorem dX10_init_123 : decode cX10_init 123 = .ok (.bipush 64, 2) := by decide +kernel
theorem dX10_init_125 : decode cX10_init 125 = .ok (.newarray .int, 2) := by decide +kernel
theorem dX10_init_127 : decode cX10_init 127 = .ok (.putfield 56, 3) := by decide +kernel
theorem dX10_init_130 : decode cX10_init 130 = .ok (.aload_n 0, 1) := by decide +kernel
theorem dX10_init_131 : decode cX10_init 131 = .ok (.ldc 59, 2) := by decide +kernel
theorem dX10_init_133 : decode cX10_init 133 = .ok (.newarray .boolean, 2) := by decide +kernel
theorem dX10_init_135 : decode cX10_init 135 = .ok (.putfield 60, 3) := by decide +kernel
theorem dX10_init_138 : decode cX10_init 138 = .ok (.aload_n 0, 1) := by decide +kernel
theorem dX10_init_139 : decode cX10_init 139 = .ok (.bipush 10, 2) := by decide +kernel
theorem dX10_init_141 : decode cX10_init 141 = .ok (.newarray .int, 2) := by decide +kernel
theorem dX10_init_143 : decode cX10_init 143 = .ok (.putfield 64, 3) := by decide +kernel
theorem dX10_init_146 : decode cX10_init 146 = .ok (.aload_n 0, 1) := by decide +kernel
theorem dX10_init_147 : decode cX10_init 147 = .ok (.bipush 10, 2) := by decide +kernel
theorem dX10_init_149 : decode cX10_init 149 = .ok (.newarray .int, 2) := by decide +kernel
theorem dX10_init_151 : decode cX10_init 151 = .ok (.putfield 67, 3) := by decide +kernel
theorem dX10_init_154 : decode cX10_init 154 = .ok (.aload_n 0, 1) := by decide +kernel
theorem dX10_init_155 : decode cX10_init 155 = .ok (.iconst 4, 1) := by decide +kernel
theorem dX10_init_156 : decode cX10_init 156 = .ok (.newarray .int, 2) := by decide +kernel
theorem dX10_init_158 : decode cX10_init 158 = .ok (.putfield 70, 3) := by decide +kernel
theorem dX10_init_161 : decode cX10_init 161 = .ok (.aload_n 0, 1) := by decide +kernel
theorem dX10_init_162 : decode cX10_init 162 = .ok (.iconst (-1), 1) := by decide +kernel
theorem dX10_init_163 : decode cX10_init 163 = .ok (.putfield 73, 3) := by decide +kernel
theorem dX10_init_166 : decode cX10_init 166 = .ok (.aload_n 0, 1) := by decide +kernel
theorem dX10_init_167 : decode cX10_init 167 = .ok (.bipush 10, 2) := by decide +kernel
theorem dX10_init_169 : decode cX10_init 169 = .ok (.newarray .int, 2) := by decide +kernel
theorem dX10_init_171 : decode cX10_init 171 = .ok (.putfield 76, 3) := by decide +kernel
theorem dX10_init_174 : decode cX10_init 174 = .ok (.aload_n 0, 1) := by decide +kernel
theorem dX10_init_175 : decode cX10_init 175 = .ok (.iconst 4, 1) := by decide +kernel
theorem dX10_init_176 : decode cX10_init 176 = .ok (.newarray .int, 2) := by decide +kernel
theorem dX10_init_178 : decode cX10_init 178 = .ok (.putfield 79, 3) := by decide +kernel
theorem dX10_init_181 : decode cX10_init 181 = .ok (.aload_n 0, 1) := by decide +kernel
theorem dX10_init_182 : decode cX10_init 182 = .ok (.getfield 7, 3) := by decide +kernel
theorem dX10_init_185 : decode cX10_init 185 = .ok (.iconst 3, 1) := by decide +kernel
theorem dX10_init_186 : decode cX10_init 186 = .ok (.bipush 10, 2) := by decide +kernel
theorem dX10_init_188 : decode cX10_init 188 = .ok (.iastore, 1) := by decide +kernel
theorem dX10_init_189 : decode cX10_init 189 = .ok (.aload_n 0, 1) := by decide +kernel
theorem dX10_init_190 : decode cX10_init 190 = .ok (.getfield 7, 3) := by decide +kernel
theorem dX10_init_193 : decode cX10_init 193 = .ok (.iconst 4, 1) := by decide +kernel
theorem dX10_init_194 : decode cX10_init 194 = .ok (.iconst 1, 1) := by decide +kernel
theorem dX10_init_195 : decode cX10_init 195 = .ok (.iastore, 1) := by decide +kernel
theorem dX10_init_196 : decode cX10_init 196 = .ok (.return_, 1) := by decide +kernel
theorem dX10_status_0 : decode cX10_status 0 = .ok (.aload_n 0, 1) := by decide +kernel
theorem dX10_status_1 : decode cX10_status 1 = .ok (.getfield 82, 3) := by decide +kernel
theorem dX10_status_4 : decode cX10_status 4 = .ok (.ireturn, 1) := by decide +kernel
theorem dX10_top_0 : decode cX10_top 0 = .ok (.aload_n 0, 1) := by decide +kernel
theorem dX10_top_1 : decode cX10_top 1 = .ok (.getfield 85, 3) := by decide +kernel
theorem dX10_top_4 : decode cX10_top 4 = .ok (.lreturn, 1) := by decide +kernel
theorem dX10_bottom_0 : decode cX10_bottom 0 = .ok (.aload_n 0, 1) := by decide +kernel
theorem dX10_bottom_1 : decode cX10_bottom 1 = .ok (.getfield 13, 3) := by decide +kernel
theorem dX10_bottom_4 : decode cX10_bottom 4 = .ok (.lreturn, 1) := by decide +kernel
theorem dX10_is_0 : decode cX10_is 0 = .ok (.aload_n 0, 1) := by decide +kernel
theorem dX10_is_1 : decode cX10_is 1 = .ok (.iload_n 1, 1) := by decide +kernel
theorem dX10_is_2 : decode cX10_is 2 = .ok (.putfield 82, 3) := by decide +kernel
theorem dX10_is_5 : decode cX10_is 5 = .ok (.iload_n 1, 1) := by decide +kernel
theorem dX10_is_6 : decode cX10_is 6 = .ok (.ifCond .ne 7, 3) := by decide +kernel
theorem dX10_is_9 : decode cX10_is 9 = .ok (.iconst 1, 1) := by decide +kernel
theorem dX10_is_10 : decode cX10_is 10 = .ok (.goto 4, 3) := by decide +kernel
theorem dX10_is_13 : decode cX10_is 13 = .ok (.iconst 0, 1) := by decide +kernel
theorem dX10_is_14 : decode cX10_is 14 = .ok (.ireturn, 1) := by decide +kernel
theorem dX10_refuse_0 : decode cX10_refuse 0 = .ok (.aload_n 0, 1) := by decide +kernel
theorem dX10_refuse_1 : decode cX10_refuse 1 = .ok (.iload_n 1, 1) := by decide +kernel
theorem dX10_refuse_2 : decode cX10_refuse 2 = .ok (.putfield 82, 3) := by decide +kernel
theorem dX10_refuse_5 : decode cX10_refuse 5 = .ok (.iconst (-1), 1) := by decide +kernel
theorem dX10_refuse_6 : decode cX10_refuse 6 = .ok (.ireturn, 1) := by decide +kernel
theorem dX10_gives_0 : decode cX10_gives 0 = .ok (.aload_n 0, 1) := by decide +kernel
theorem dX10_gives_1 : decode cX10_gives 1 = .ok (.iconst 0, 1) := by decide +kernel
theorem dX10_gives_2 : decode cX10_gives 2 = .ok (.putfield 82, 3) := by decide +kernel
theorem dX10_gives_5 : decode cX10_gives 5 = .ok (.iload_n 1, 1) := by decide +kernel
theorem dX10_gives_6 : decode cX10_gives 6 = .ok (.ireturn, 1) := by decide +kernel
theorem dX10_givesLong_0 : decode cX10_givesLong 0 = .ok (.aload_n 0, 1) := by decide +kernel
theorem dX10_givesLong_1 : decode cX10_givesLong 1 = .ok (.iconst 0, 1) := by decide +kernel
theorem dX10_givesLong_2 : decode cX10_givesLong 2 = .ok (.putfield 82, 3) := by decide +kernel
theorem dX10_givesLong_5 : decode cX10_givesLong 5 = .ok (.lload_n 1, 1) := by decide +kernel
theorem dX10_givesLong_6 : decode cX10_givesLong 6 = .ok (.lreturn, 1) := by decide +kernel
theorem dX10_tells_0 : decode cX10_tells 0 = .ok (.lload_n 1, 1) := by decide +kernel
theorem dX10_tells_1 : decode cX10_tells 1 = .ok (.lconst 0, 1) := by decide +kernel
theorem dX10_tells_2 : decode cX10_tells 2 = .ok (.lcmp, 1) := by decide +kernel
theorem dX10_tells_3 : decode cX10_tells 3 = .ok (.ifCond .ge 8, 3) := by decide +kernel
theorem dX10_tells_6 : decode cX10_tells 6 = .ok (.lload_n 1, 1) := by decide +kernel
theorem dX10_tells_7 : decode cX10_tells 7 = .ok (.lneg, 1) := by decide +kernel
theorem dX10_tells_8 : decode cX10_tells 8 = .ok (.goto 4, 3) := by decide +kernel
theorem dX10_tells_11 : decode cX10_tells 11 = .ok (.lload_n 1, 1) := by decide +kernel
theorem dX10_tells_12 : decode cX10_tells 12 = .ok (.lstore 5, 2) := by decide +kernel
theorem dX10_tells_14 : decode cX10_tells 14 = .ok (.lload_n 3, 1) := by decide +kernel
theorem dX10_tells_15 : decode cX10_tells 15 = .ok (.lstore 7, 2) := by decide +kernel
theorem dX10_tells_17 : decode cX10_tells 17 = .ok (.lload 7, 2) := by decide +kernel
theorem dX10_tells_19 : decode cX10_tells 19 = .ok (.lconst 0, 1) := by decide +kernel
theorem dX10_tells_20 : decode cX10_tells 20 = .ok (.lcmp, 1) := by decide +kernel
theorem dX10_tells_21 : decode cX10_tells 21 = .ok (.ifCond .eq 21, 3) := by decide +kernel
theorem dX10_tells_24 : decode cX10_tells 24 = .ok (.lload 5, 2) := by decide +kernel
theorem dX10_tells_26 : decode cX10_tells 26 = .ok (.lload 7, 2) := by decide +kernel
theorem dX10_tells_28 : decode cX10_tells 28 = .ok (.lrem, 1) := by decide +kernel
theorem dX10_tells_29 : decode cX10_tells 29 = .ok (.lstore 9, 2) := by decide +kernel
theorem dX10_tells_31 : decode cX10_tells 31 = .ok (.lload 7, 2) := by decide +kernel
theorem dX10_tells_33 : decode cX10_tells 33 = .ok (.lstore 5, 2) := by decide +kernel
theorem dX10_tells_35 : decode cX10_tells 35 = .ok (.lload 9, 2) := by decide +kernel
theorem dX10_tells_37 : decode cX10_tells 37 = .ok (.lstore 7, 2) := by decide +kernel
theorem dX10_tells_39 : decode cX10_tells 39 = .ok (.goto (-22), 3) := by decide +kernel
theorem dX10_tells_42 : decode cX10_tells 42 = .ok (.aload_n 0, 1) := by decide +kernel
theorem dX10_tells_43 : decode cX10_tells 43 = .ok (.lload_n 1, 1) := by decide +kernel
theorem dX10_tells_44 : decode cX10_tells 44 = .ok (.lload 5, 2) := by decide +kernel
theorem dX10_tells_46 : decode cX10_tells 46 = .ok (.ldiv, 1) := by decide +kernel
theorem dX10_tells_47 : decode cX10_tells 47 = .ok (.putfield 85, 3) := by decide +kernel
theorem dX10_tells_50 : decode cX10_tells 50 = .ok (.aload_n 0, 1) := by decide +kernel
theorem dX10_tells_51 : decode cX10_tells 51 = .ok (.lload_n 3, 1) := by decide +kernel
theorem dX10_tells_52 : decode cX10_tells 52 = .ok (.lload 5, 2) := by decide +kernel
theorem dX10_tells_54 : decode cX10_tells 54 = .ok (.ldiv, 1) := by decide +kernel
theorem dX10_tells_55 : decode cX10_tells 55 = .ok (.putfield 13, 3) := by decide +kernel
theorem dX10_tells_58 : decode cX10_tells 58 = .ok (.aload_n 0, 1) := by decide +kernel
theorem dX10_tells_59 : decode cX10_tells 59 = .ok (.iconst 0, 1) := by decide +kernel
theorem dX10_tells_60 : decode cX10_tells 60 = .ok (.invokevirtual 88, 3) := by decide +kernel
theorem dX10_tells_63 : decode cX10_tells 63 = .ok (.ireturn, 1) := by decide +kernel
theorem dX10_isTray_0 : decode cX10_isTray 0 = .ok (.iload_n 0, 1) := by decide +kernel
theorem dX10_isTray_1 : decode cX10_isTray 1 = .ok (.ifCond .lt 12, 3) := by decide +kernel
theorem dX10_isTray_4 : decode cX10_isTray 4 = .ok (.iload_n 0, 1) := by decide +kernel
theorem dX10_isTray_5 : decode cX10_isTray 5 = .ok (.iconst 4, 1) := by decide +kernel
theorem dX10_isTray_6 : decode cX10_isTray 6 = .ok (.if_icmp .ge 7, 3) := by decide +kernel
theorem dX10_isTray_9 : decode cX10_isTray 9 = .ok (.iconst 1, 1) := by decide +kernel
theorem dX10_isTray_10 : decode cX10_isTray 10 = .ok (.goto 4, 3) := by decide +kernel
theorem dX10_isTray_13 : decode cX10_isTray 13 = .ok (.iconst 0, 1) := by decide +kernel
theorem dX10_isTray_14 : decode cX10_isTray 14 = .ok (.ireturn, 1) := by decide +kernel
theorem dX10_cut_0 : decode cX10_cut 0 = .ok (.iload_n 2, 1) := by decide +kernel
theorem dX10_cut_1 : decode cX10_cut 1 = .ok (.ifCond .ne 10, 3) := by decide +kernel
theorem dX10_cut_4 : decode cX10_cut 4 = .ok (.lload_n 0, 1) := by decide +kernel
theorem dX10_cut_5 : decode cX10_cut 5 = .ok (.l2i, 1) := by decide +kernel
theorem dX10_cut_6 : decode cX10_cut 6 = .ok (.i2b, 1) := by decide +kernel
theorem dX10_cut_7 : decode cX10_cut 7 = .ok (.i2l, 1) := by decide +kernel
theorem dX10_cut_8 : decode cX10_cut 8 = .ok (.goto 27, 3) := by decide +kernel
theorem dX10_cut_11 : decode cX10_cut 11 = .ok (.iload_n 2, 1) := by decide +kernel
theorem dX10_cut_12 : decode cX10_cut 12 = .ok (.iconst 1, 1) := by decide +kernel
theorem dX10_cut_13 : decode cX10_cut 13 = .ok (.if_icmp .ne 10, 3) := by decide +kernel
theorem dX10_cut_16 : decode cX10_cut 16 = .ok (.lload_n 0, 1) := by decide +kernel
theorem dX10_cut_17 : decode cX10_cut 17 = .ok (.l2i, 1) := by decide +kernel
theorem dX10_cut_18 : decode cX10_cut 18 = .ok (.i2s, 1) := by decide +kernel
theorem dX10_cut_19 : decode cX10_cut 19 = .ok (.i2l, 1) := by decide +kernel
theorem dX10_cut_20 : decode cX10_cut 20 = .ok (.goto 15, 3) := by decide +kernel
theorem dX10_cut_23 : decode cX10_cut 23 = .ok (.iload_n 2, 1) := by decide +kernel
theorem dX10_cut_24 : decode cX10_cut 24 = .ok (.iconst 2, 1) := by decide +kernel
theorem dX10_cut_25 : decode cX10_cut 25 = .ok (.if_icmp .ne 9, 3) := by decide +kernel
theorem dX10_cut_28 : decode cX10_cut 28 = .ok (.lload_n 0, 1) := by decide +kernel
theorem dX10_cut_29 : decode cX10_cut 29 = .ok (.l2i, 1) := by decide +kernel
theorem dX10_cut_30 : decode cX10_cut 30 = .ok (.i2l, 1) := by decide +kernel
theorem dX10_cut_31 : decode cX10_cut 31 = .ok (.goto 4, 3) := by decide +kernel
theorem dX10_cut_34 : decode cX10_cut 34 = .ok (.lload_n 0, 1) := by decide +kernel
theorem dX10_cut_35 : decode cX10_cut 35 = .ok (.lreturn, 1) := by decide +kernel
theorem dX10_tray_0 : decode cX10_tray 0 = .ok (.iload_n 1, 1) := by decide +kernel
theorem dX10_tray_1 : decode cX10_tray 1 = .ok (.invokestatic 92, 3) := by decide +kernel
theorem dX10_tray_4 : decode cX10_tray 4 = .ok (.ifCond .eq 22, 3) := by decide +kernel
theorem dX10_tray_7 : decode cX10_tray 7 = .ok (.iload_n 2, 1) := by decide +kernel
theorem dX10_tray_8 : decode cX10_tray 8 = .ok (.ifCond .lt 18, 3) := by decide +kernel
theorem dX10_tray_11 : decode cX10_tray 11 = .ok (.iload_n 2, 1) := by decide +kernel
theorem dX10_tray_12 : decode cX10_tray 12 = .ok (.iconst 3, 1) := by decide +kernel
theorem dX10_tray_13 : decode cX10_tray 13 = .ok (.if_icmp .gt 13, 3) := by decide +kernel
theorem dX10_tray_16 : decode cX10_tray 16 = .ok (.iload_n 3, 1) := by decide +kernel
theorem dX10_tray_17 : decode cX10_tray 17 = .ok (.ifCond .lt 9, 3) := by decide +kernel
theorem dX10_tray_20 : decode cX10_tray 20 = .ok (.iload_n 3, 1) := by decide +kernel
theorem dX10_tray_21 : decode cX10_tray 21 = .ok (.bipush 60, 2) := by decide +kernel
theorem dX10_tray_23 : decode cX10_tray 23 = .ok (.if_icmp .le 9, 3) := by decide +kernel
theorem dX10_tray_26 : decode cX10_tray 26 = .ok (.aload_n 0, 1) := by decide +kernel
theorem dX10_tray_27 : decode cX10_tray 27 = .ok (.iconst 1, 1) := by decide +kernel
theorem dX10_tray_28 : decode cX10_tray 28 = .ok (.invokevirtual 88, 3) := by decide +kernel
theorem dX10_tray_31 : decode cX10_tray 31 = .ok (.ireturn, 1) := by decide +kernel
theorem dX10_tray_32 : decode cX10_tray 32 = .ok (.aload_n 0, 1) := by decide +kernel
theorem dX10_tray_33 : decode cX10_tray 33 = .ok (.getfield 17, 3) := by decide +kernel
theorem dX10_tray_36 : decode cX10_tray 36 = .ok (.iload_n 1, 1) := by decide +kernel
theorem dX10_tray_37 : decode cX10_tray 37 = .ok (.iload_n 2, 1) := by decide +kernel
theorem dX10_tray_38 : decode cX10_tray 38 = .ok (.iastore, 1) := by decide +kernel
theorem dX10_tray_39 : decode cX10_tray 39 = .ok (.aload_n 0, 1) := by decide +kernel
theorem dX10_tray_40 : decode cX10_tray 40 = .ok (.getfield 20, 3) := by decide +kernel
theorem dX10_tray_43 : decode cX10_tray 43 = .ok (.iload_n 1, 1) := by decide +kernel
theorem dX10_tray_44 : decode cX10_tray 44 = .ok (.iload_n 3, 1) := by decide +kernel
theorem dX10_tray_45 : decode cX10_tray 45 = .ok (.iastore, 1) := by decide +kernel
theorem dX10_tray_46 : decode cX10_tray 46 = .ok (.iconst 0, 1) := by decide +kernel
theorem dX10_tray_47 : decode cX10_tray 47 = .ok (.istore 4, 2) := by decide +kernel
theorem dX10_tray_49 : decode cX10_tray 49 = .ok (.iload 4, 2) := by decide +kernel
theorem dX10_tray_51 : decode cX10_tray 51 = .ok (.iload_n 3, 1) := by decide +kernel
theorem dX10_tray_52 : decode cX10_tray 52 = .ok (.if_icmp .ge 22, 3) := by decide +kernel
theorem dX10_tray_55 : decode cX10_tray 55 = .ok (.aload_n 0, 1) := by decide +kernel
theorem dX10_tray_56 : decode cX10_tray 56 = .ok (.getfield 23, 3) := by decide +kernel
theorem dX10_tray_59 : decode cX10_tray 59 = .ok (.bipush 60, 2) := by decide +kernel
theorem dX10_tray_61 : decode cX10_tray 61 = .ok (.iload_n 1, 1) := by decide +kernel
theorem dX10_tray_62 : decode cX10_tray 62 = .ok (.imul, 1) := by decide +kernel
theorem dX10_tray_63 : decode cX10_tray 63 = .ok (.iload 4, 2) := by decide +kernel
theorem dX10_tray_65 : decode cX10_tray 65 = .ok (.iadd, 1) := by decide +kernel
theorem dX10_tray_66 : decode cX10_tray 66 = .ok (.lconst 0, 1) := by decide +kernel
theorem dX10_tray_67 : decode cX10_tray 67 = .ok (.lastore, 1) := by decide +kernel
theorem dX10_tray_68 : decode cX10_tray 68 = .ok (.iinc 4 1, 3) := by decide +kernel
theorem dX10_tray_71 : decode cX10_tray 71 = .ok (.goto (-22), 3) := by decide +kernel
theorem dX10_tray_74 : decode cX10_tray 74 = .ok (.aload_n 0, 1) := by decide +kernel
theorem dX10_tray_75 : decode cX10_tray 75 = .ok (.iconst 0, 1) := by decide +kernel
theorem dX10_tray_76 : decode cX10_tray 76 = .ok (.invokevirtual 88, 3) := by decide +kernel
theorem dX10_tray_79 : decode cX10_tray 79 = .ok (.ireturn, 1) := by decide +kernel
theorem dX10_wrongPlace_0 : decode cX10_wrongPlace 0 = .ok (.iload_n 1, 1) := by decide +kernel
theorem dX10_wrongPlace_1 : decode cX10_wrongPlace 1 = .ok (.invokestatic 92, 3) := by decide +kernel
theorem dX10_wrongPlace_4 : decode cX10_wrongPlace 4 = .ok (.ifCond .ne 7, 3) := by decide +kernel
theorem dX10_wrongPlace_7 : decode cX10_wrongPlace 7 = .ok (.iconst 1, 1) := by decide +kernel
theorem dX10_wrongPlace_8 : decode cX10_wrongPlace 8 = .ok (.goto 36, 3) := by decide +kernel
theorem dX10_wrongPlace_11 : decode cX10_wrongPlace 11 = .ok (.aload_n 0, 1) := by decide +kernel
theorem dX10_wrongPlace_12 : decode cX10_wrongPlace 12 = .ok (.getfield 20, 3) := by decide +kernel
theorem dX10_wrongPlace_15 : decode cX10_wrongPlace 15 = .ok (.iload_n 1, 1) := by decide +kernel
theorem dX10_wrongPlace_16 : decode cX10_wrongPlace 16 = .ok (.iaload, 1) := by decide +kernel
theorem dX10_wrongPlace_17 : decode cX10_wrongPlace 17 = .ok (.iconst (-1), 1) := by decide +kernel
theorem dX10_wrongPlace_18 : decode cX10_wrongPlace 18 = .ok (.if_icmp .ne 7, 3) := by decide +kernel
theorem dX10_wrongPlace_21 : decode cX10_wrongPlace 21 = .ok (.iconst 2, 1) := by decide +kernel
theorem dX10_wrongPlace_22 : decode cX10_wrongPlace 22 = .ok (.goto 22, 3) := by decide +kernel
theorem dX10_wrongPlace_25 : decode cX10_wrongPlace 25 = .ok (.iload_n 2, 1) := by decide +kernel
theorem dX10_wrongPlace_26 : decode cX10_wrongPlace 26 = .ok (.ifCond .lt 13, 3) := by decide +kernel
theorem dX10_wrongPlace_29 : decode cX10_wrongPlace 29 = .ok (.iload_n 2, 1) := by decide +kernel
theorem dX10_wrongPlace_30 : decode cX10_wrongPlace 30 = .ok (.aload_n 0, 1) := by decide +kernel
theorem dX10_wrongPlace_31 : decode cX10_wrongPlace 31 = .ok (.getfield 20, 3) := by decide +kernel
theorem dX10_wrongPlace_34 : decode cX10_wrongPlace 34 = .ok (.iload_n 1, 1) := by decide +kernel
theorem dX10_wrongPlace_35 : decode cX10_wrongPlace 35 = .ok (.iaload, 1) := by decide +kernel
theorem dX10_wrongPlace_36 : decode cX10_wrongPlace 36 = .ok (.if_icmp .lt 7, 3) := by decide +kernel
theorem dX10_wrongPlace_39 : decode cX10_wrongPlace 39 = .ok (.iconst 3, 1) := by decide +kernel
theorem dX10_wrongPlace_40 : decode cX10_wrongPlace 40 = .ok (.goto 4, 3) := by decide +kernel
theorem dX10_wrongPlace_43 : decode cX10_wrongPlace 43 = .ok (.iconst 0, 1) := by decide +kernel
theorem dX10_wrongPlace_44 : decode cX10_wrongPlace 44 = .ok (.ireturn, 1) := by decide +kernel
theorem dX10_write_0 : decode cX10_write 0 = .ok (.aload_n 0, 1) := by decide +kernel
theorem dX10_write_1 : decode cX10_write 1 = .ok (.iload_n 1, 1) := by decide +kernel
theorem dX10_write_2 : decode cX10_write 2 = .ok (.iload_n 2, 1) := by decide +kernel
theorem dX10_write_3 : decode cX10_write 3 = .ok (.invokevirtual 95, 3) := by decide +kernel
theorem dX10_write_6 : decode cX10_write 6 = .ok (.istore 5, 2) := by decide +kernel
theorem dX10_write_8 : decode cX10_write 8 = .ok (.iload 5, 2) := by decide +kernel
theorem dX10_write_10 : decode cX10_write 10 = .ok (.ifCond .ne 24, 3) := by decide +kernel
theorem dX10_write_13 : decode cX10_write 13 = .ok (.aload_n 0, 1) := by decide +kernel
theorem dX10_write_14 : decode cX10_write 14 = .ok (.getfield 23, 3) := by decide +kernel
theorem dX10_write_17 : decode cX10_write 17 = .ok (.bipush 60, 2) := by decide +kernel
theorem dX10_write_19 : decode cX10_write 19 = .ok (.iload_n 1, 1) := by decide +kernel
theorem dX10_write_20 : decode cX10_write 20 = .ok (.imul, 1) := by decide +kernel
theorem dX10_write_21 : decode cX10_write 21 = .ok (.iload_n 2, 1) := by decide +kernel
theorem dX10_write_22 : decode cX10_write 22 = .ok (.iadd, 1) := by decide +kernel
theorem dX10_write_23 : decode cX10_write 23 = .ok (.lload_n 3, 1) := by decide +kernel
theorem dX10_write_24 : decode cX10_write 24 = .ok (.aload_n 0, 1) := by decide +kernel
theorem dX10_write_25 : decode cX10_write 25 = .ok (.getfield 17, 3) := by decide +kernel
theorem dX10_write_28 : decode cX10_write 28 = .ok (.iload_n 1, 1) := by decide +kernel
theorem dX10_write_29 : decode cX10_write 29 = .ok (.iaload, 1) := by decide +kernel
theorem dX10_write_30 : decode cX10_write 30 = .ok (.invokestatic 99, 3) := by decide +kernel
theorem dX10_write_33 : decode cX10_write 33 = .ok (.lastore, 1) := by decide +kernel
theorem dX10_write_34 : decode cX10_write 34 = .ok (.aload_n 0, 1) := by decide +kernel
theorem dX10_write_35 : decode cX10_write 35 = .ok (.iload 5, 2) := by decide +kernel
theorem dX10_write_37 : decode cX10_write 37 = .ok (.invokevirtual 88, 3) := by decide +kernel
theorem dX10_write_40 : decode cX10_write 40 = .ok (.ireturn, 1) := by decide +kernel
theorem dX10_read_0 : decode cX10_read 0 = .ok (.aload_n 0, 1) := by decide +kernel
theorem dX10_read_1 : decode cX10_read 1 = .ok (.aload_n 0, 1) := by decide +kernel
theorem dX10_read_2 : decode cX10_read 2 = .ok (.iload_n 1, 1) := by decide +kernel
theorem dX10_read_3 : decode cX10_read 3 = .ok (.iload_n 2, 1) := by decide +kernel
theorem dX10_read_4 : decode cX10_read 4 = .ok (.invokevirtual 95, 3) := by decide +kernel
theorem dX10_read_7 : decode cX10_read 7 = .ok (.putfield 82, 3) := by decide +kernel
theorem dX10_read_10 : decode cX10_read 10 = .ok (.aload_n 0, 1) := by decide +kernel
theorem dX10_read_11 : decode cX10_read 11 = .ok (.getfield 82, 3) := by decide +kernel
theorem dX10_read_14 : decode cX10_read 14 = .ok (.ifCond .le 9, 3) := by decide +kernel
theorem dX10_read_17 : decode cX10_read 17 = .ok (.ldc2_w 103, 3) := by decide +kernel
theorem dX10_read_20 : decode cX10_read 20 = .ok (.goto 14, 3) := by decide +kernel
theorem dX10_read_23 : decode cX10_read 23 = .ok (.aload_n 0, 1) := by decide +kernel
theorem dX10_read_24 : decode cX10_read 24 = .ok (.getfield 23, 3) := by decide +kernel
theorem dX10_read_27 : decode cX10_read 27 = .ok (.bipush 60, 2) := by decide +kernel
theorem dX10_read_29 : decode cX10_read 29 = .ok (.iload_n 1, 1) := by decide +kernel
theorem dX10_read_30 : decode cX10_read 30 = .ok (.imul, 1) := by decide +kernel
theorem dX10_read_31 : decode cX10_read 31 = .ok (.iload_n 2, 1) := by decide +kernel
theorem dX10_read_32 : decode cX10_read 32 = .ok (.iadd, 1) := by decide +kernel
theorem dX10_read_33 : decode cX10_read 33 = .ok (.laload, 1) := by decide +kernel
theorem dX10_read_34 : decode cX10_read 34 = .ok (.lreturn, 1) := by decide +kernel
theorem dX10_pour_0 : decode cX10_pour 0 = .ok (.iload_n 1, 1) := by decide +kernel
theorem dX10_pour_1 : decode cX10_pour 1 = .ok (.invokestatic 92, 3) := by decide +kernel
theorem dX10_pour_4 : decode cX10_pour 4 = .ok (.ifCond .eq 24, 3) := by decide +kernel
theorem dX10_pour_7 : decode cX10_pour 7 = .ok (.iload_n 3, 1) := by decide +kernel
theorem dX10_pour_8 : decode cX10_pour 8 = .ok (.invokestatic 92, 3) := by decide +kernel
theorem dX10_pour_11 : decode cX10_pour 11 = .ok (.ifCond .eq 17, 3) := by decide +kernel
theorem dX10_pour_14 : decode cX10_pour 14 = .ok (.iload_n 2, 1) := by decide +kernel
theorem dX10_pour_15 : decode cX10_pour 15 = .ok (.ifCond .lt 13, 3) := by decide +kernel
theorem dX10_pour_18 : decode cX10_pour 18 = .ok (.iload 4, 2) := by decide +kernel
theorem dX10_pour_20 : decode cX10_pour 20 = .ok (.ifCond .lt 8, 3) := by decide +kernel
theorem dX10_pour_23 : decode cX10_pour 23 = .ok (.iload 5, 2) := by decide +kernel
theorem dX10_pour_25 : decode cX10_pour 25 = .ok (.ifCond .ge 9, 3) := by decide +kernel
theorem dX10_pour_28 : decode cX10_pour 28 = .ok (.aload_n 0, 1) := by decide +kernel
theorem dX10_pour_29 : decode cX10_pour 29 = .ok (.iconst 1, 1) := by decide +kernel
theorem dX10_pour_30 : decode cX10_pour 30 = .ok (.invokevirtual 88, 3) := by decide +kernel
theorem dX10_pour_33 : decode cX10_pour 33 = .ok (.ireturn, 1) := by decide +kernel
theorem dX10_pour_34 : decode cX10_pour 34 = .ok (.aload_n 0, 1) := by decide +kernel
theorem dX10_pour_35 : decode cX10_pour 35 = .ok (.getfield 20, 3) := by decide +kernel
theorem dX10_pour_38 : decode cX10_pour 38 = .ok (.iload_n 1, 1) := by decide +kernel
theorem dX10_pour_39 : decode cX10_pour 39 = .ok (.iaload, 1) := by decide +kernel
theorem dX10_pour_40 : decode cX10_pour 40 = .ok (.iconst (-1), 1) := by decide +kernel
theorem dX10_pour_41 : decode cX10_pour 41 = .ok (.if_icmp .eq 13, 3) := by decide +kernel
theorem dX10_pour_44 : decode cX10_pour 44 = .ok (.aload_n 0, 1) := by decide +kernel
theorem dX10_pour_45 : decode cX10_pour 45 = .ok (.getfield 20, 3) := by decide +kernel
theorem dX10_pour_48 : decode cX10_pour 48 = .ok (.iload_n 3, 1) := by decide +kernel
theorem dX10_pour_49 : decode cX10_pour 49 = .ok (.iaload, 1) := by decide +kernel
theorem dX10_pour_50 : decode cX10_pour 50 = .ok (.iconst (-1), 1) := by decide +kernel
theorem dX10_pour_51 : decode cX10_pour 51 = .ok (.if_icmp .ne 9, 3) := by decide +kernel
theorem dX10_pour_54 : decode cX10_pour 54 = .ok (.aload_n 0, 1) := by decide +kernel
theorem dX10_pour_55 : decode cX10_pour 55 = .ok (.iconst 2, 1) := by decide +kernel
theorem dX10_pour_56 : decode cX10_pour 56 = .ok (.invokevirtual 88, 3) := by decide +kernel
theorem dX10_pour_59 : decode cX10_pour 59 = .ok (.ireturn, 1) := by decide +kernel
theorem dX10_pour_60 : decode cX10_pour 60 = .ok (.aload_n 0, 1) := by decide +kernel
theorem dX10_pour_61 : decode cX10_pour 61 = .ok (.getfield 17, 3) := by decide +kernel
theorem dX10_pour_64 : decode cX10_pour 64 = .ok (.iload_n 1, 1) := by decide +kernel
theorem dX10_pour_65 : decode cX10_pour 65 = .ok (.iaload, 1) := by decide +kernel
theorem dX10_pour_66 : decode cX10_pour 66 = .ok (.aload_n 0, 1) := by decide +kernel
theorem dX10_pour_67 : decode cX10_pour 67 = .ok (.getfield 17, 3) := by decide +kernel
theorem dX10_pour_70 : decode cX10_pour 70 = .ok (.iload_n 3, 1) := by decide +kernel
theorem dX10_pour_71 : decode cX10_pour 71 = .ok (.iaload, 1) := by decide +kernel
theorem dX10_pour_72 : decode cX10_pour 72 = .ok (.if_icmp .eq 10, 3) := by decide +kernel
theorem dX10_pour_75 : decode cX10_pour 75 = .ok (.aload_n 0, 1) := by decide +kernel
theorem dX10_pour_76 : decode cX10_pour 76 = .ok (.bipush 8, 2) := by decide +kernel
theorem dX10_pour_78 : decode cX10_pour 78 = .ok (.invokevirtual 88, 3) := by decide +kernel
theorem dX10_pour_81 : decode cX10_pour 81 = .ok (.ireturn, 1) := by decide +kernel
theorem dX10_pour_82 : decode cX10_pour 82 = .ok (.iload 5, 2) := by decide +kernel
theorem dX10_pour_84 : decode cX10_pour 84 = .ok (.aload_n 0, 1) := by decide +kernel
theorem dX10_pour_85 : decode cX10_pour 85 = .ok (.getfield 20, 3) := by decide +kernel
theorem dX10_pour_88 : decode cX10_pour 88 = .ok (.iload_n 1, 1) := by decide +kernel
theorem dX10_pour_89 : decode cX10_pour 89 = .ok (.iaload, 1) := by decide +kernel
theorem dX10_pour_90 : decode cX10_pour 90 = .ok (.iload_n 2, 1) := by decide +kernel
theorem dX10_pour_91 : decode cX10_pour 91 = .ok (.isub, 1) := by decide +kernel
theorem dX10_pour_92 : decode cX10_pour 92 = .ok (.if_icmp .gt 17, 3) := by decide +kernel
theorem dX10_pour_95 : decode cX10_pour 95 = .ok (.iload 5, 2) := by decide +kernel
theorem dX10_pour_97 : decode cX10_pour 97 = .ok (.aload_n 0, 1) := by decide +kernel
theorem dX10_pour_98 : decode cX10_pour 98 = .ok (.getfield 20, 3) := by decide +kernel
