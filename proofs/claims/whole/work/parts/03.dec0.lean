theorem dX0_init_0 : decode cX0_init 0 = .ok (.aload_n 0, 1) := by decide +kernel
theorem dX0_init_1 : decode cX0_init 1 = .ok (.invokespecial 3, 3) := by decide +kernel
theorem dX0_init_4 : decode cX0_init 4 = .ok (.aload_n 0, 1) := by decide +kernel
theorem dX0_init_5 : decode cX0_init 5 = .ok (.bipush 64, 2) := by decide +kernel
theorem dX0_init_7 : decode cX0_init 7 = .ok (.newarray .int, 2) := by decide +kernel
theorem dX0_init_9 : decode cX0_init 9 = .ok (.putfield 9, 3) := by decide +kernel
theorem dX0_init_12 : decode cX0_init 12 = .ok (.aload_n 0, 1) := by decide +kernel
theorem dX0_init_13 : decode cX0_init 13 = .ok (.bipush 64, 2) := by decide +kernel
theorem dX0_init_15 : decode cX0_init 15 = .ok (.newarray .int, 2) := by decide +kernel
theorem dX0_init_17 : decode cX0_init 17 = .ok (.putfield 15, 3) := by decide +kernel
theorem dX0_init_20 : decode cX0_init 20 = .ok (.aload_n 0, 1) := by decide +kernel
theorem dX0_init_21 : decode cX0_init 21 = .ok (.aload_n 1, 1) := by decide +kernel
theorem dX0_init_22 : decode cX0_init 22 = .ok (.putfield 18, 3) := by decide +kernel
theorem dX0_init_25 : decode cX0_init 25 = .ok (.aload_n 0, 1) := by decide +kernel
theorem dX0_init_26 : decode cX0_init 26 = .ok (.aload_n 2, 1) := by decide +kernel
theorem dX0_init_27 : decode cX0_init 27 = .ok (.putfield 22, 3) := by decide +kernel
theorem dX0_init_30 : decode cX0_init 30 = .ok (.return_, 1) := by decide +kernel
theorem dX0_fillOwn_0 : decode cX0_fillOwn 0 = .ok (.aload_n 0, 1) := by decide +kernel
theorem dX0_fillOwn_1 : decode cX0_fillOwn 1 = .ok (.getfield 22, 3) := by decide +kernel
theorem dX0_fillOwn_4 : decode cX0_fillOwn 4 = .ok (.iload_n 1, 1) := by decide +kernel
theorem dX0_fillOwn_5 : decode cX0_fillOwn 5 = .ok (.aload_n 0, 1) := by decide +kernel
theorem dX0_fillOwn_6 : decode cX0_fillOwn 6 = .ok (.getfield 18, 3) := by decide +kernel
theorem dX0_fillOwn_9 : decode cX0_fillOwn 9 = .ok (.iload_n 1, 1) := by decide +kernel
theorem dX0_fillOwn_10 : decode cX0_fillOwn 10 = .ok (.invokevirtual 26, 3) := by decide +kernel
theorem dX0_fillOwn_13 : decode cX0_fillOwn 13 = .ok (.iconst 0, 1) := by decide +kernel
theorem dX0_fillOwn_14 : decode cX0_fillOwn 14 = .ok (.invokevirtual 32, 3) := by decide +kernel
theorem dX0_fillOwn_17 : decode cX0_fillOwn 17 = .ok (.iconst 0, 1) := by decide +kernel
theorem dX0_fillOwn_18 : decode cX0_fillOwn 18 = .ok (.istore 5, 2) := by decide +kernel
theorem dX0_fillOwn_20 : decode cX0_fillOwn 20 = .ok (.iload 5, 2) := by decide +kernel
theorem dX0_fillOwn_22 : decode cX0_fillOwn 22 = .ok (.aload_n 0, 1) := by decide +kernel
theorem dX0_fillOwn_23 : decode cX0_fillOwn 23 = .ok (.getfield 18, 3) := by decide +kernel
theorem dX0_fillOwn_26 : decode cX0_fillOwn 26 = .ok (.invokevirtual 38, 3) := by decide +kernel
theorem dX0_fillOwn_29 : decode cX0_fillOwn 29 = .ok (.if_icmp .ge 76, 3) := by decide +kernel
theorem dX0_fillOwn_32 : decode cX0_fillOwn 32 = .ok (.aload_n 0, 1) := by decide +kernel
theorem dX0_fillOwn_33 : decode cX0_fillOwn 33 = .ok (.getfield 9, 3) := by decide +kernel
theorem dX0_fillOwn_36 : decode cX0_fillOwn 36 = .ok (.iload 5, 2) := by decide +kernel
theorem dX0_fillOwn_38 : decode cX0_fillOwn 38 = .ok (.aload_n 0, 1) := by decide +kernel
theorem dX0_fillOwn_39 : decode cX0_fillOwn 39 = .ok (.getfield 22, 3) := by decide +kernel
theorem dX0_fillOwn_42 : decode cX0_fillOwn 42 = .ok (.getfield 42, 3) := by decide +kernel
theorem dX0_fillOwn_45 : decode cX0_fillOwn 45 = .ok (.iload 5, 2) := by decide +kernel
theorem dX0_fillOwn_47 : decode cX0_fillOwn 47 = .ok (.iaload, 1) := by decide +kernel
theorem dX0_fillOwn_48 : decode cX0_fillOwn 48 = .ok (.iastore, 1) := by decide +kernel
theorem dX0_fillOwn_49 : decode cX0_fillOwn 49 = .ok (.iload_n 2, 1) := by decide +kernel
theorem dX0_fillOwn_50 : decode cX0_fillOwn 50 = .ok (.iconst (-1), 1) := by decide +kernel
theorem dX0_fillOwn_51 : decode cX0_fillOwn 51 = .ok (.if_icmp .eq 48, 3) := by decide +kernel
theorem dX0_fillOwn_54 : decode cX0_fillOwn 54 = .ok (.aload_n 0, 1) := by decide +kernel
theorem dX0_fillOwn_55 : decode cX0_fillOwn 55 = .ok (.getfield 9, 3) := by decide +kernel
theorem dX0_fillOwn_58 : decode cX0_fillOwn 58 = .ok (.iload 5, 2) := by decide +kernel
theorem dX0_fillOwn_60 : decode cX0_fillOwn 60 = .ok (.iconst 0, 1) := by decide +kernel
theorem dX0_fillOwn_61 : decode cX0_fillOwn 61 = .ok (.aload_n 0, 1) := by decide +kernel
theorem dX0_fillOwn_62 : decode cX0_fillOwn 62 = .ok (.getfield 9, 3) := by decide +kernel
theorem dX0_fillOwn_65 : decode cX0_fillOwn 65 = .ok (.iload 5, 2) := by decide +kernel
theorem dX0_fillOwn_67 : decode cX0_fillOwn 67 = .ok (.iaload, 1) := by decide +kernel
theorem dX0_fillOwn_68 : decode cX0_fillOwn 68 = .ok (.iload_n 3, 1) := by decide +kernel
theorem dX0_fillOwn_69 : decode cX0_fillOwn 69 = .ok (.isub, 1) := by decide +kernel
theorem dX0_fillOwn_70 : decode cX0_fillOwn 70 = .ok (.invokestatic 45, 3) := by decide +kernel
theorem dX0_fillOwn_73 : decode cX0_fillOwn 73 = .ok (.iastore, 1) := by decide +kernel
theorem dX0_fillOwn_74 : decode cX0_fillOwn 74 = .ok (.aload_n 0, 1) := by decide +kernel
theorem dX0_fillOwn_75 : decode cX0_fillOwn 75 = .ok (.getfield 9, 3) := by decide +kernel
theorem dX0_fillOwn_78 : decode cX0_fillOwn 78 = .ok (.iload 5, 2) := by decide +kernel
theorem dX0_fillOwn_80 : decode cX0_fillOwn 80 = .ok (.dup2, 1) := by decide +kernel
theorem dX0_fillOwn_81 : decode cX0_fillOwn 81 = .ok (.iaload, 1) := by decide +kernel
theorem dX0_fillOwn_82 : decode cX0_fillOwn 82 = .ok (.iload 5, 2) := by decide +kernel
theorem dX0_fillOwn_84 : decode cX0_fillOwn 84 = .ok (.iload_n 2, 1) := by decide +kernel
theorem dX0_fillOwn_85 : decode cX0_fillOwn 85 = .ok (.ishr, 1) := by decide +kernel
theorem dX0_fillOwn_86 : decode cX0_fillOwn 86 = .ok (.iconst 1, 1) := by decide +kernel
theorem dX0_fillOwn_87 : decode cX0_fillOwn 87 = .ok (.iand, 1) := by decide +kernel
theorem dX0_fillOwn_88 : decode cX0_fillOwn 88 = .ok (.ifCond .eq 8, 3) := by decide +kernel
theorem dX0_fillOwn_91 : decode cX0_fillOwn 91 = .ok (.iload 4, 2) := by decide +kernel
theorem dX0_fillOwn_93 : decode cX0_fillOwn 93 = .ok (.goto 4, 3) := by decide +kernel
theorem dX0_fillOwn_96 : decode cX0_fillOwn 96 = .ok (.iconst 0, 1) := by decide +kernel
theorem dX0_fillOwn_97 : decode cX0_fillOwn 97 = .ok (.iadd, 1) := by decide +kernel
theorem dX0_fillOwn_98 : decode cX0_fillOwn 98 = .ok (.iastore, 1) := by decide +kernel
theorem dX0_fillOwn_99 : decode cX0_fillOwn 99 = .ok (.iinc 5 1, 3) := by decide +kernel
theorem dX0_fillOwn_102 : decode cX0_fillOwn 102 = .ok (.goto (-82), 3) := by decide +kernel
theorem dX0_fillOwn_105 : decode cX0_fillOwn 105 = .ok (.return_, 1) := by decide +kernel
theorem dX0_fillGifts_0 : decode cX0_fillGifts 0 = .ok (.iload_n 1, 1) := by decide +kernel
theorem dX0_fillGifts_1 : decode cX0_fillGifts 1 = .ok (.iconst (-1), 1) := by decide +kernel
theorem dX0_fillGifts_2 : decode cX0_fillGifts 2 = .ok (.if_icmp .eq 20, 3) := by decide +kernel
theorem dX0_fillGifts_5 : decode cX0_fillGifts 5 = .ok (.aload_n 0, 1) := by decide +kernel
theorem dX0_fillGifts_6 : decode cX0_fillGifts 6 = .ok (.getfield 22, 3) := by decide +kernel
theorem dX0_fillGifts_9 : decode cX0_fillGifts 9 = .ok (.iload_n 1, 1) := by decide +kernel
theorem dX0_fillGifts_10 : decode cX0_fillGifts 10 = .ok (.aload_n 0, 1) := by decide +kernel
theorem dX0_fillGifts_11 : decode cX0_fillGifts 11 = .ok (.getfield 18, 3) := by decide +kernel
theorem dX0_fillGifts_14 : decode cX0_fillGifts 14 = .ok (.iload_n 1, 1) := by decide +kernel
theorem dX0_fillGifts_15 : decode cX0_fillGifts 15 = .ok (.invokevirtual 26, 3) := by decide +kernel
theorem dX0_fillGifts_18 : decode cX0_fillGifts 18 = .ok (.iconst 0, 1) := by decide +kernel
theorem dX0_fillGifts_19 : decode cX0_fillGifts 19 = .ok (.invokevirtual 32, 3) := by decide +kernel
theorem dX0_fillGifts_22 : decode cX0_fillGifts 22 = .ok (.iconst 0, 1) := by decide +kernel
theorem dX0_fillGifts_23 : decode cX0_fillGifts 23 = .ok (.istore_n 2, 1) := by decide +kernel
theorem dX0_fillGifts_24 : decode cX0_fillGifts 24 = .ok (.iload_n 2, 1) := by decide +kernel
theorem dX0_fillGifts_25 : decode cX0_fillGifts 25 = .ok (.aload_n 0, 1) := by decide +kernel
theorem dX0_fillGifts_26 : decode cX0_fillGifts 26 = .ok (.getfield 18, 3) := by decide +kernel
theorem dX0_fillGifts_29 : decode cX0_fillGifts 29 = .ok (.invokevirtual 38, 3) := by decide +kernel
theorem dX0_fillGifts_32 : decode cX0_fillGifts 32 = .ok (.if_icmp .ge 47, 3) := by decide +kernel
theorem dX0_fillGifts_35 : decode cX0_fillGifts 35 = .ok (.aload_n 0, 1) := by decide +kernel
theorem dX0_fillGifts_36 : decode cX0_fillGifts 36 = .ok (.getfield 15, 3) := by decide +kernel
theorem dX0_fillGifts_39 : decode cX0_fillGifts 39 = .ok (.iload_n 2, 1) := by decide +kernel
theorem dX0_fillGifts_40 : decode cX0_fillGifts 40 = .ok (.iload_n 1, 1) := by decide +kernel
theorem dX0_fillGifts_41 : decode cX0_fillGifts 41 = .ok (.iconst (-1), 1) := by decide +kernel
theorem dX0_fillGifts_42 : decode cX0_fillGifts 42 = .ok (.if_icmp .ne 7, 3) := by decide +kernel
theorem dX0_fillGifts_45 : decode cX0_fillGifts 45 = .ok (.iconst 0, 1) := by decide +kernel
theorem dX0_fillGifts_46 : decode cX0_fillGifts 46 = .ok (.goto 26, 3) := by decide +kernel
theorem dX0_fillGifts_49 : decode cX0_fillGifts 49 = .ok (.iconst 0, 1) := by decide +kernel
theorem dX0_fillGifts_50 : decode cX0_fillGifts 50 = .ok (.aload_n 0, 1) := by decide +kernel
theorem dX0_fillGifts_51 : decode cX0_fillGifts 51 = .ok (.getfield 22, 3) := by decide +kernel
theorem dX0_fillGifts_54 : decode cX0_fillGifts 54 = .ok (.getfield 42, 3) := by decide +kernel
theorem dX0_fillGifts_57 : decode cX0_fillGifts 57 = .ok (.iload_n 2, 1) := by decide +kernel
theorem dX0_fillGifts_58 : decode cX0_fillGifts 58 = .ok (.iaload, 1) := by decide +kernel
theorem dX0_fillGifts_59 : decode cX0_fillGifts 59 = .ok (.aload_n 0, 1) := by decide +kernel
theorem dX0_fillGifts_60 : decode cX0_fillGifts 60 = .ok (.getfield 18, 3) := by decide +kernel
theorem dX0_fillGifts_63 : decode cX0_fillGifts 63 = .ok (.getfield 51, 3) := by decide +kernel
theorem dX0_fillGifts_66 : decode cX0_fillGifts 66 = .ok (.iload_n 1, 1) := by decide +kernel
theorem dX0_fillGifts_67 : decode cX0_fillGifts 67 = .ok (.iaload, 1) := by decide +kernel
theorem dX0_fillGifts_68 : decode cX0_fillGifts 68 = .ok (.isub, 1) := by decide +kernel
theorem dX0_fillGifts_69 : decode cX0_fillGifts 69 = .ok (.invokestatic 45, 3) := by decide +kernel
theorem dX0_fillGifts_72 : decode cX0_fillGifts 72 = .ok (.iastore, 1) := by decide +kernel
theorem dX0_fillGifts_73 : decode cX0_fillGifts 73 = .ok (.iinc 2 1, 3) := by decide +kernel
theorem dX0_fillGifts_76 : decode cX0_fillGifts 76 = .ok (.goto (-52), 3) := by decide +kernel
theorem dX0_fillGifts_79 : decode cX0_fillGifts 79 = .ok (.return_, 1) := by decide +kernel
theorem dX0_hungryWeight_0 : decode cX0_hungryWeight 0 = .ok (.aload_n 0, 1) := by decide +kernel
theorem dX0_hungryWeight_1 : decode cX0_hungryWeight 1 = .ok (.getfield 18, 3) := by decide +kernel
theorem dX0_hungryWeight_4 : decode cX0_hungryWeight 4 = .ok (.getfield 51, 3) := by decide +kernel
theorem dX0_hungryWeight_7 : decode cX0_hungryWeight 7 = .ok (.iload_n 1, 1) := by decide +kernel
theorem dX0_hungryWeight_8 : decode cX0_hungryWeight 8 = .ok (.iaload, 1) := by decide +kernel
theorem dX0_hungryWeight_9 : decode cX0_hungryWeight 9 = .ok (.istore_n 3, 1) := by decide +kernel
theorem dX0_hungryWeight_10 : decode cX0_hungryWeight 10 = .ok (.aload_n 0, 1) := by decide +kernel
theorem dX0_hungryWeight_11 : decode cX0_hungryWeight 11 = .ok (.getfield 18, 3) := by decide +kernel
theorem dX0_hungryWeight_14 : decode cX0_hungryWeight 14 = .ok (.invokevirtual 38, 3) := by decide +kernel
theorem dX0_hungryWeight_17 : decode cX0_hungryWeight 17 = .ok (.istore 4, 2) := by decide +kernel
theorem dX0_hungryWeight_19 : decode cX0_hungryWeight 19 = .ok (.lconst 0, 1) := by decide +kernel
theorem dX0_hungryWeight_20 : decode cX0_hungryWeight 20 = .ok (.lstore 5, 2) := by decide +kernel
theorem dX0_hungryWeight_22 : decode cX0_hungryWeight 22 = .ok (.iconst 0, 1) := by decide +kernel
theorem dX0_hungryWeight_23 : decode cX0_hungryWeight 23 = .ok (.istore 7, 2) := by decide +kernel
theorem dX0_hungryWeight_25 : decode cX0_hungryWeight 25 = .ok (.iload 7, 2) := by decide +kernel
theorem dX0_hungryWeight_27 : decode cX0_hungryWeight 27 = .ok (.iload 4, 2) := by decide +kernel
theorem dX0_hungryWeight_29 : decode cX0_hungryWeight 29 = .ok (.if_icmp .ge 113, 3) := by decide +kernel
theorem dX0_hungryWeight_32 : decode cX0_hungryWeight 32 = .ok (.iload_n 2, 1) := by decide +kernel
theorem dX0_hungryWeight_33 : decode cX0_hungryWeight 33 = .ok (.iconst 0, 1) := by decide +kernel
theorem dX0_hungryWeight_34 : decode cX0_hungryWeight 34 = .ok (.aload_n 0, 1) := by decide +kernel
theorem dX0_hungryWeight_35 : decode cX0_hungryWeight 35 = .ok (.getfield 9, 3) := by decide +kernel
theorem dX0_hungryWeight_38 : decode cX0_hungryWeight 38 = .ok (.iload 7, 2) := by decide +kernel
theorem dX0_hungryWeight_40 : decode cX0_hungryWeight 40 = .ok (.iaload, 1) := by decide +kernel
theorem dX0_hungryWeight_41 : decode cX0_hungryWeight 41 = .ok (.iload_n 3, 1) := by decide +kernel
theorem dX0_hungryWeight_42 : decode cX0_hungryWeight 42 = .ok (.isub, 1) := by decide +kernel
theorem dX0_hungryWeight_43 : decode cX0_hungryWeight 43 = .ok (.invokestatic 45, 3) := by decide +kernel
theorem dX0_hungryWeight_46 : decode cX0_hungryWeight 46 = .ok (.invokestatic 54, 3) := by decide +kernel
theorem dX0_hungryWeight_49 : decode cX0_hungryWeight 49 = .ok (.istore 8, 2) := by decide +kernel
theorem dX0_hungryWeight_51 : decode cX0_hungryWeight 51 = .ok (.iload 8, 2) := by decide +kernel
theorem dX0_hungryWeight_53 : decode cX0_hungryWeight 53 = .ok (.iload 8, 2) := by decide +kernel
theorem dX0_hungryWeight_55 : decode cX0_hungryWeight 55 = .ok (.iconst 1, 1) := by decide +kernel
theorem dX0_hungryWeight_56 : decode cX0_hungryWeight 56 = .ok (.iadd, 1) := by decide +kernel
theorem dX0_hungryWeight_57 : decode cX0_hungryWeight 57 = .ok (.iconst 2, 1) := by decide +kernel
theorem dX0_hungryWeight_58 : decode cX0_hungryWeight 58 = .ok (.idiv, 1) := by decide +kernel
theorem dX0_hungryWeight_59 : decode cX0_hungryWeight 59 = .ok (.isub, 1) := by decide +kernel
theorem dX0_hungryWeight_60 : decode cX0_hungryWeight 60 = .ok (.istore 9, 2) := by decide +kernel
theorem dX0_hungryWeight_62 : decode cX0_hungryWeight 62 = .ok (.lconst 0, 1) := by decide +kernel
theorem dX0_hungryWeight_63 : decode cX0_hungryWeight 63 = .ok (.lstore 10, 2) := by decide +kernel
theorem dX0_hungryWeight_65 : decode cX0_hungryWeight 65 = .ok (.iconst 0, 1) := by decide +kernel
theorem dX0_hungryWeight_66 : decode cX0_hungryWeight 66 = .ok (.istore 12, 2) := by decide +kernel
theorem dX0_hungryWeight_68 : decode cX0_hungryWeight 68 = .ok (.iload 12, 2) := by decide +kernel
theorem dX0_hungryWeight_70 : decode cX0_hungryWeight 70 = .ok (.iload 4, 2) := by decide +kernel
theorem dX0_hungryWeight_72 : decode cX0_hungryWeight 72 = .ok (.if_icmp .ge 46, 3) := by decide +kernel
theorem dX0_hungryWeight_75 : decode cX0_hungryWeight 75 = .ok (.aload_n 0, 1) := by decide +kernel
theorem dX0_hungryWeight_76 : decode cX0_hungryWeight 76 = .ok (.getfield 9, 3) := by decide +kernel
theorem dX0_hungryWeight_79 : decode cX0_hungryWeight 79 = .ok (.iload 12, 2) := by decide +kernel
theorem dX0_hungryWeight_81 : decode cX0_hungryWeight 81 = .ok (.iaload, 1) := by decide +kernel
theorem dX0_hungryWeight_82 : decode cX0_hungryWeight 82 = .ok (.iload 9, 2) := by decide +kernel
theorem dX0_hungryWeight_84 : decode cX0_hungryWeight 84 = .ok (.iadd, 1) := by decide +kernel
theorem dX0_hungryWeight_85 : decode cX0_hungryWeight 85 = .ok (.aload_n 0, 1) := by decide +kernel
theorem dX0_hungryWeight_86 : decode cX0_hungryWeight 86 = .ok (.getfield 15, 3) := by decide +kernel
theorem dX0_hungryWeight_89 : decode cX0_hungryWeight 89 = .ok (.iload 12, 2) := by decide +kernel
theorem dX0_hungryWeight_91 : decode cX0_hungryWeight 91 = .ok (.iaload, 1) := by decide +kernel
theorem dX0_hungryWeight_92 : decode cX0_hungryWeight 92 = .ok (.iadd, 1) := by decide +kernel
theorem dX0_hungryWeight_93 : decode cX0_hungryWeight 93 = .ok (.iload_n 3, 1) := by decide +kernel
theorem dX0_hungryWeight_94 : decode cX0_hungryWeight 94 = .ok (.if_icmp .ge 18, 3) := by decide +kernel
theorem dX0_hungryWeight_97 : decode cX0_hungryWeight 97 = .ok (.lload 10, 2) := by decide +kernel
theorem dX0_hungryWeight_99 : decode cX0_hungryWeight 99 = .ok (.aload_n 0, 1) := by decide +kernel
theorem dX0_hungryWeight_100 : decode cX0_hungryWeight 100 = .ok (.getfield 22, 3) := by decide +kernel
theorem dX0_hungryWeight_103 : decode cX0_hungryWeight 103 = .ok (.getfield 57, 3) := by decide +kernel
theorem dX0_hungryWeight_106 : decode cX0_hungryWeight 106 = .ok (.iload 12, 2) := by decide +kernel
theorem dX0_hungryWeight_108 : decode cX0_hungryWeight 108 = .ok (.laload, 1) := by decide +kernel
theorem dX0_hungryWeight_109 : decode cX0_hungryWeight 109 = .ok (.ladd, 1) := by decide +kernel
theorem dX0_hungryWeight_110 : decode cX0_hungryWeight 110 = .ok (.lstore 10, 2) := by decide +kernel
theorem dX0_hungryWeight_112 : decode cX0_hungryWeight 112 = .ok (.iinc 12 1, 3) := by decide +kernel
theorem dX0_hungryWeight_115 : decode cX0_hungryWeight 115 = .ok (.goto (-47), 3) := by decide +kernel
theorem dX0_hungryWeight_118 : decode cX0_hungryWeight 118 = .ok (.lload 5, 2) := by decide +kernel
theorem dX0_hungryWeight_120 : decode cX0_hungryWeight 120 = .ok (.aload_n 0, 1) := by decide +kernel
theorem dX0_hungryWeight_121 : decode cX0_hungryWeight 121 = .ok (.getfield 22, 3) := by decide +kernel
theorem dX0_hungryWeight_124 : decode cX0_hungryWeight 124 = .ok (.getfield 57, 3) := by decide +kernel
theorem dX0_hungryWeight_127 : decode cX0_hungryWeight 127 = .ok (.iload 7, 2) := by decide +kernel
theorem dX0_hungryWeight_129 : decode cX0_hungryWeight 129 = .ok (.laload, 1) := by decide +kernel
theorem dX0_hungryWeight_130 : decode cX0_hungryWeight 130 = .ok (.lload 10, 2) := by decide +kernel
theorem dX0_hungryWeight_132 : decode cX0_hungryWeight 132 = .ok (.lmul, 1) := by decide +kernel
theorem dX0_hungryWeight_133 : decode cX0_hungryWeight 133 = .ok (.ladd, 1) := by decide +kernel
theorem dX0_hungryWeight_134 : decode cX0_hungryWeight 134 = .ok (.lstore 5, 2) := by decide +kernel
theorem dX0_hungryWeight_136 : decode cX0_hungryWeight 136 = .ok (.iinc 7 1, 3) := by decide +kernel
theorem dX0_hungryWeight_139 : decode cX0_hungryWeight 139 = .ok (.goto (-114), 3) := by decide +kernel
theorem dX0_hungryWeight_142 : decode cX0_hungryWeight 142 = .ok (.lload 5, 2) := by decide +kernel
theorem dX0_hungryWeight_144 : decode cX0_hungryWeight 144 = .ok (.lreturn, 1) := by decide +kernel
theorem dX1_init_0 : decode cX1_init 0 = .ok (.aload_n 0, 1) := by decide +kernel
theorem dX1_init_1 : decode cX1_init 1 = .ok (.invokespecial 3, 3) := by decide +kernel
theorem dX1_init_4 : decode cX1_init 4 = .ok (.aload_n 0, 1) := by decide +kernel
theorem dX1_init_5 : decode cX1_init 5 = .ok (.sipush 252, 3) := by decide +kernel
theorem dX1_init_8 : decode cX1_init 8 = .ok (.newarray .int, 2) := by decide +kernel
theorem dX1_init_10 : decode cX1_init 10 = .ok (.putfield 11, 3) := by decide +kernel
theorem dX1_init_13 : decode cX1_init 13 = .ok (.aload_n 0, 1) := by decide +kernel
theorem dX1_init_14 : decode cX1_init 14 = .ok (.sipush 252, 3) := by decide +kernel
theorem dX1_init_17 : decode cX1_init 17 = .ok (.newarray .long, 2) := by decide +kernel
theorem dX1_init_19 : decode cX1_init 19 = .ok (.putfield 15, 3) := by decide +kernel
theorem dX1_init_22 : decode cX1_init 22 = .ok (.aload_n 0, 1) := by decide +kernel
theorem dX1_init_23 : decode cX1_init 23 = .ok (.sipush 252, 3) := by decide +kernel
theorem dX1_init_26 : decode cX1_init 26 = .ok (.newarray .long, 2) := by decide +kernel
theorem dX1_init_28 : decode cX1_init 28 = .ok (.putfield 19, 3) := by decide +kernel
theorem dX1_init_31 : decode cX1_init 31 = .ok (.aload_n 0, 1) := by decide +kernel
theorem dX1_init_32 : decode cX1_init 32 = .ok (.iconst 0, 1) := by decide +kernel
theorem dX1_init_33 : decode cX1_init 33 = .ok (.putfield 22, 3) := by decide +kernel
theorem dX1_init_36 : decode cX1_init 36 = .ok (.aload_n 0, 1) := by decide +kernel
theorem dX1_init_37 : decode cX1_init 37 = .ok (.iconst 0, 1) := by decide +kernel
theorem dX1_init_38 : decode cX1_init 38 = .ok (.putfield 26, 3) := by decide +kernel
theorem dX1_init_41 : decode cX1_init 41 = .ok (.aload_n 0, 1) := by decide +kernel
theorem dX1_init_42 : decode cX1_init 42 = .ok (.lconst 0, 1) := by decide +kernel
theorem dX1_init_43 : decode cX1_init 43 = .ok (.putfield 29, 3) := by decide +kernel
theorem dX1_init_46 : decode cX1_init 46 = .ok (.aload_n 0, 1) := by decide +kernel
theorem dX1_init_47 : decode cX1_init 47 = .ok (.aload_n 1, 1) := by decide +kernel
theorem dX1_init_48 : decode cX1_init 48 = .ok (.putfield 33, 3) := by decide +kernel
theorem dX1_init_51 : decode cX1_init 51 = .ok (.aload_n 0, 1) := by decide +kernel
theorem dX1_init_52 : decode cX1_init 52 = .ok (.aload_n 2, 1) := by decide +kernel
theorem dX1_init_53 : decode cX1_init 53 = .ok (.putfield 37, 3) := by decide +kernel
theorem dX1_init_56 : decode cX1_init 56 = .ok (.return_, 1) := by decide +kernel
theorem dX1_listSets_0 : decode cX1_listSets 0 = .ok (.aload_n 0, 1) := by decide +kernel
theorem dX1_listSets_1 : decode cX1_listSets 1 = .ok (.getfield 33, 3) := by decide +kernel
theorem dX1_listSets_4 : decode cX1_listSets 4 = .ok (.iload_n 1, 1) := by decide +kernel
theorem dX1_listSets_5 : decode cX1_listSets 5 = .ok (.invokevirtual 41, 3) := by decide +kernel
theorem dX1_listSets_8 : decode cX1_listSets 8 = .ok (.istore_n 3, 1) := by decide +kernel
theorem dX1_listSets_9 : decode cX1_listSets 9 = .ok (.aload_n 0, 1) := by decide +kernel
theorem dX1_listSets_10 : decode cX1_listSets 10 = .ok (.iconst 0, 1) := by decide +kernel
theorem dX1_listSets_11 : decode cX1_listSets 11 = .ok (.putfield 22, 3) := by decide +kernel
theorem dX1_listSets_14 : decode cX1_listSets 14 = .ok (.iconst 0, 1) := by decide +kernel
theorem dX1_listSets_15 : decode cX1_listSets 15 = .ok (.istore 4, 2) := by decide +kernel
theorem dX1_listSets_17 : decode cX1_listSets 17 = .ok (.iload 4, 2) := by decide +kernel
theorem dX1_listSets_19 : decode cX1_listSets 19 = .ok (.iload_n 3, 1) := by decide +kernel
theorem dX1_listSets_20 : decode cX1_listSets 20 = .ok (.if_icmp .gt 100, 3) := by decide +kernel
theorem dX1_listSets_23 : decode cX1_listSets 23 = .ok (.iload 4, 2) := by decide +kernel
theorem dX1_listSets_25 : decode cX1_listSets 25 = .ok (.iload_n 3, 1) := by decide +kernel
theorem dX1_listSets_26 : decode cX1_listSets 26 = .ok (.iconst (-1), 1) := by decide +kernel
theorem dX1_listSets_27 : decode cX1_listSets 27 = .ok (.ixor, 1) := by decide +kernel
theorem dX1_listSets_28 : decode cX1_listSets 28 = .ok (.iand, 1) := by decide +kernel
theorem dX1_listSets_29 : decode cX1_listSets 29 = .ok (.ifCond .ne 85, 3) := by decide +kernel
theorem dX1_listSets_32 : decode cX1_listSets 32 = .ok (.iload 4, 2) := by decide +kernel
theorem dX1_listSets_34 : decode cX1_listSets 34 = .ok (.invokestatic 47, 3) := by decide +kernel
theorem dX1_listSets_37 : decode cX1_listSets 37 = .ok (.iload_n 2, 1) := by decide +kernel
theorem dX1_listSets_38 : decode cX1_listSets 38 = .ok (.if_icmp .ne 76, 3) := by decide +kernel
theorem dX1_listSets_41 : decode cX1_listSets 41 = .ok (.aload_n 0, 1) := by decide +kernel
theorem dX1_listSets_42 : decode cX1_listSets 42 = .ok (.getfield 22, 3) := by decide +kernel
theorem dX1_listSets_45 : decode cX1_listSets 45 = .ok (.sipush 252, 3) := by decide +kernel
theorem dX1_listSets_48 : decode cX1_listSets 48 = .ok (.if_icmp .ge 66, 3) := by decide +kernel
theorem dX1_listSets_51 : decode cX1_listSets 51 = .ok (.aload_n 0, 1) := by decide +kernel
theorem dX1_listSets_52 : decode cX1_listSets 52 = .ok (.getfield 37, 3) := by decide +kernel
theorem dX1_listSets_55 : decode cX1_listSets 55 = .ok (.iload_n 1, 1) := by decide +kernel
theorem dX1_listSets_56 : decode cX1_listSets 56 = .ok (.iload 4, 2) := by decide +kernel
theorem dX1_listSets_58 : decode cX1_listSets 58 = .ok (.invokevirtual 52, 3) := by decide +kernel
theorem dX1_listSets_61 : decode cX1_listSets 61 = .ok (.aload_n 0, 1) := by decide +kernel
theorem dX1_listSets_62 : decode cX1_listSets 62 = .ok (.getfield 11, 3) := by decide +kernel
theorem dX1_listSets_65 : decode cX1_listSets 65 = .ok (.aload_n 0, 1) := by decide +kernel
theorem dX1_listSets_66 : decode cX1_listSets 66 = .ok (.getfield 22, 3) := by decide +kernel
theorem dX1_listSets_69 : decode cX1_listSets 69 = .ok (.iload 4, 2) := by decide +kernel
theorem dX1_listSets_71 : decode cX1_listSets 71 = .ok (.iastore, 1) := by decide +kernel
theorem dX1_listSets_72 : decode cX1_listSets 72 = .ok (.aload_n 0, 1) := by decide +kernel
theorem dX1_listSets_73 : decode cX1_listSets 73 = .ok (.getfield 15, 3) := by decide +kernel
theorem dX1_listSets_76 : decode cX1_listSets 76 = .ok (.aload_n 0, 1) := by decide +kernel
theorem dX1_listSets_77 : decode cX1_listSets 77 = .ok (.getfield 22, 3) := by decide +kernel
theorem dX1_listSets_80 : decode cX1_listSets 80 = .ok (.aload_n 0, 1) := by decide +kernel
theorem dX1_listSets_81 : decode cX1_listSets 81 = .ok (.getfield 37, 3) := by decide +kernel
theorem dX1_listSets_84 : decode cX1_listSets 84 = .ok (.getfield 58, 3) := by decide +kernel
theorem dX1_listSets_87 : decode cX1_listSets 87 = .ok (.lastore, 1) := by decide +kernel
theorem dX1_listSets_88 : decode cX1_listSets 88 = .ok (.aload_n 0, 1) := by decide +kernel
theorem dX1_listSets_89 : decode cX1_listSets 89 = .ok (.getfield 19, 3) := by decide +kernel
theorem dX1_listSets_92 : decode cX1_listSets 92 = .ok (.aload_n 0, 1) := by decide +kernel
theorem dX1_listSets_93 : decode cX1_listSets 93 = .ok (.getfield 22, 3) := by decide +kernel
theorem dX1_listSets_96 : decode cX1_listSets 96 = .ok (.aload_n 0, 1) := by decide +kernel
theorem dX1_listSets_97 : decode cX1_listSets 97 = .ok (.getfield 37, 3) := by decide +kernel
theorem dX1_listSets_100 : decode cX1_listSets 100 = .ok (.getfield 61, 3) := by decide +kernel
theorem dX1_listSets_103 : decode cX1_listSets 103 = .ok (.lastore, 1) := by decide +kernel
theorem dX1_listSets_104 : decode cX1_listSets 104 = .ok (.aload_n 0, 1) := by decide +kernel
theorem dX1_listSets_105 : decode cX1_listSets 105 = .ok (.dup, 1) := by decide +kernel
theorem dX1_listSets_106 : decode cX1_listSets 106 = .ok (.getfield 22, 3) := by decide +kernel
theorem dX1_listSets_109 : decode cX1_listSets 109 = .ok (.iconst 1, 1) := by decide +kernel
theorem dX1_listSets_110 : decode cX1_listSets 110 = .ok (.iadd, 1) := by decide +kernel
theorem dX1_listSets_111 : decode cX1_listSets 111 = .ok (.putfield 22, 3) := by decide +kernel
theorem dX1_listSets_114 : decode cX1_listSets 114 = .ok (.iinc 4 1, 3) := by decide +kernel
theorem dX1_listSets_117 : decode cX1_listSets 117 = .ok (.goto (-100), 3) := by decide +kernel
theorem dX1_listSets_120 : decode cX1_listSets 120 = .ok (.return_, 1) := by decide +kernel
theorem dX1_worthAt_0 : decode cX1_worthAt 0 = .ok (.aload_n 0, 1) := by decide +kernel
theorem dX1_worthAt_1 : decode cX1_worthAt 1 = .ok (.getfield 15, 3) := by decide +kernel
theorem dX1_worthAt_4 : decode cX1_worthAt 4 = .ok (.iload_n 1, 1) := by decide +kernel
theorem dX1_worthAt_5 : decode cX1_worthAt 5 = .ok (.laload, 1) := by decide +kernel
theorem dX1_worthAt_6 : decode cX1_worthAt 6 = .ok (.iload_n 2, 1) := by decide +kernel
theorem dX1_worthAt_7 : decode cX1_worthAt 7 = .ok (.i2l, 1) := by decide +kernel
theorem dX1_worthAt_8 : decode cX1_worthAt 8 = .ok (.aload_n 0, 1) := by decide +kernel
theorem dX1_worthAt_9 : decode cX1_worthAt 9 = .ok (.getfield 19, 3) := by decide +kernel
theorem dX1_worthAt_12 : decode cX1_worthAt 12 = .ok (.iload_n 1, 1) := by decide +kernel
theorem dX1_worthAt_13 : decode cX1_worthAt 13 = .ok (.laload, 1) := by decide +kernel
theorem dX1_worthAt_14 : decode cX1_worthAt 14 = .ok (.lmul, 1) := by decide +kernel
theorem dX1_worthAt_15 : decode cX1_worthAt 15 = .ok (.lsub, 1) := by decide +kernel
theorem dX1_worthAt_16 : decode cX1_worthAt 16 = .ok (.lreturn, 1) := by decide +kernel
theorem dX1_bestIndex_0 : decode cX1_bestIndex 0 = .ok (.iconst 0, 1) := by decide +kernel
theorem dX1_bestIndex_1 : decode cX1_bestIndex 1 = .ok (.istore_n 2, 1) := by decide +kernel
theorem dX1_bestIndex_2 : decode cX1_bestIndex 2 = .ok (.iconst 1, 1) := by decide +kernel
theorem dX1_bestIndex_3 : decode cX1_bestIndex 3 = .ok (.istore_n 3, 1) := by decide +kernel
theorem dX1_bestIndex_4 : decode cX1_bestIndex 4 = .ok (.iload_n 3, 1) := by decide +kernel
theorem dX1_bestIndex_5 : decode cX1_bestIndex 5 = .ok (.aload_n 0, 1) := by decide +kernel
theorem dX1_bestIndex_6 : decode cX1_bestIndex 6 = .ok (.getfield 22, 3) := by decide +kernel
theorem dX1_bestIndex_9 : decode cX1_bestIndex 9 = .ok (.if_icmp .ge 27, 3) := by decide +kernel
theorem dX1_bestIndex_12 : decode cX1_bestIndex 12 = .ok (.aload_n 0, 1) := by decide +kernel
theorem dX1_bestIndex_13 : decode cX1_bestIndex 13 = .ok (.iload_n 3, 1) := by decide +kernel
theorem dX1_bestIndex_14 : decode cX1_bestIndex 14 = .ok (.iload_n 1, 1) := by decide +kernel
theorem dX1_bestIndex_15 : decode cX1_bestIndex 15 = .ok (.invokevirtual 64, 3) := by decide +kernel
theorem dX1_bestIndex_18 : decode cX1_bestIndex 18 = .ok (.aload_n 0, 1) := by decide +kernel
theorem dX1_bestIndex_19 : decode cX1_bestIndex 19 = .ok (.iload_n 2, 1) := by decide +kernel
theorem dX1_bestIndex_20 : decode cX1_bestIndex 20 = .ok (.iload_n 1, 1) := by decide +kernel
theorem dX1_bestIndex_21 : decode cX1_bestIndex 21 = .ok (.invokevirtual 64, 3) := by decide +kernel
theorem dX1_bestIndex_24 : decode cX1_bestIndex 24 = .ok (.lcmp, 1) := by decide +kernel
theorem dX1_bestIndex_25 : decode cX1_bestIndex 25 = .ok (.ifCond .le 5, 3) := by decide +kernel
theorem dX1_bestIndex_28 : decode cX1_bestIndex 28 = .ok (.iload_n 3, 1) := by decide +kernel
theorem dX1_bestIndex_29 : decode cX1_bestIndex 29 = .ok (.istore_n 2, 1) := by decide +kernel
theorem dX1_bestIndex_30 : decode cX1_bestIndex 30 = .ok (.iinc 3 1, 3) := by decide +kernel
theorem dX1_bestIndex_33 : decode cX1_bestIndex 33 = .ok (.goto (-29), 3) := by decide +kernel
theorem dX1_bestIndex_36 : decode cX1_bestIndex 36 = .ok (.iload_n 2, 1) := by decide +kernel
theorem dX1_bestIndex_37 : decode cX1_bestIndex 37 = .ok (.ireturn, 1) := by decide +kernel
theorem dX1_leastOtherHunger_0 : decode cX1_leastOtherHunger 0 = .ok (.aload_n 0, 1) := by decide +kernel
theorem dX1_leastOtherHunger_1 : decode cX1_leastOtherHunger 1 = .ok (.iconst 0, 1) := by decide +kernel
theorem dX1_leastOtherHunger_2 : decode cX1_leastOtherHunger 2 = .ok (.invokevirtual 68, 3) := by decide +kernel
theorem dX1_leastOtherHunger_5 : decode cX1_leastOtherHunger 5 = .ok (.istore_n 1, 1) := by decide +kernel
theorem dX1_leastOtherHunger_6 : decode cX1_leastOtherHunger 6 = .ok (.iconst 1, 1) := by decide +kernel
theorem dX1_leastOtherHunger_7 : decode cX1_leastOtherHunger 7 = .ok (.istore_n 2, 1) := by decide +kernel
theorem dX1_leastOtherHunger_8 : decode cX1_leastOtherHunger 8 = .ok (.iload_n 2, 1) := by decide +kernel
theorem dX1_leastOtherHunger_9 : decode cX1_leastOtherHunger 9 = .ok (.bipush 99, 2) := by decide +kernel
theorem dX1_leastOtherHunger_11 : decode cX1_leastOtherHunger 11 = .ok (.if_icmp .gt 20, 3) := by decide +kernel
theorem dX1_leastOtherHunger_14 : decode cX1_leastOtherHunger 14 = .ok (.aload_n 0, 1) := by decide +kernel
theorem dX1_leastOtherHunger_15 : decode cX1_leastOtherHunger 15 = .ok (.iload_n 2, 1) := by decide +kernel
theorem dX1_leastOtherHunger_16 : decode cX1_leastOtherHunger 16 = .ok (.invokevirtual 68, 3) := by decide +kernel
theorem dX1_leastOtherHunger_19 : decode cX1_leastOtherHunger 19 = .ok (.iload_n 1, 1) := by decide +kernel
theorem dX1_leastOtherHunger_20 : decode cX1_leastOtherHunger 20 = .ok (.if_icmp .eq 5, 3) := by decide +kernel
theorem dX1_leastOtherHunger_23 : decode cX1_leastOtherHunger 23 = .ok (.iload_n 2, 1) := by decide +kernel
theorem dX1_leastOtherHunger_24 : decode cX1_leastOtherHunger 24 = .ok (.ireturn, 1) := by decide +kernel
theorem dX1_leastOtherHunger_25 : decode cX1_leastOtherHunger 25 = .ok (.iinc 2 1, 3) := by decide +kernel
theorem dX1_leastOtherHunger_28 : decode cX1_leastOtherHunger 28 = .ok (.goto (-20), 3) := by decide +kernel
theorem dX1_leastOtherHunger_31 : decode cX1_leastOtherHunger 31 = .ok (.iconst (-1), 1) := by decide +kernel
theorem dX1_leastOtherHunger_32 : decode cX1_leastOtherHunger 32 = .ok (.ireturn, 1) := by decide +kernel
theorem dX1_climbFrom_0 : decode cX1_climbFrom 0 = .ok (.aload_n 0, 1) := by decide +kernel
theorem dX1_climbFrom_1 : decode cX1_climbFrom 1 = .ok (.getfield 33, 3) := by decide +kernel
theorem dX1_climbFrom_4 : decode cX1_climbFrom 4 = .ok (.iload_n 1, 1) := by decide +kernel
theorem dX1_climbFrom_5 : decode cX1_climbFrom 5 = .ok (.invokevirtual 41, 3) := by decide +kernel
theorem dX1_climbFrom_8 : decode cX1_climbFrom 8 = .ok (.istore_n 2, 1) := by decide +kernel
theorem dX1_climbFrom_9 : decode cX1_climbFrom 9 = .ok (.aload_n 0, 1) := by decide +kernel
theorem dX1_climbFrom_10 : decode cX1_climbFrom 10 = .ok (.getfield 33, 3) := by decide +kernel
theorem dX1_climbFrom_13 : decode cX1_climbFrom 13 = .ok (.iload_n 1, 1) := by decide +kernel
theorem dX1_climbFrom_14 : decode cX1_climbFrom 14 = .ok (.invokevirtual 71, 3) := by decide +kernel
theorem dX1_climbFrom_17 : decode cX1_climbFrom 17 = .ok (.istore_n 3, 1) := by decide +kernel
theorem dX1_climbFrom_18 : decode cX1_climbFrom 18 = .ok (.aload_n 0, 1) := by decide +kernel
theorem dX1_climbFrom_19 : decode cX1_climbFrom 19 = .ok (.aload_n 0, 1) := by decide +kernel
theorem dX1_climbFrom_20 : decode cX1_climbFrom 20 = .ok (.getfield 37, 3) := by decide +kernel
theorem dX1_climbFrom_23 : decode cX1_climbFrom 23 = .ok (.iload_n 1, 1) := by decide +kernel
theorem dX1_climbFrom_24 : decode cX1_climbFrom 24 = .ok (.iload_n 3, 1) := by decide +kernel
theorem dX1_climbFrom_25 : decode cX1_climbFrom 25 = .ok (.invokevirtual 74, 3) := by decide +kernel
theorem dX1_climbFrom_28 : decode cX1_climbFrom 28 = .ok (.putfield 29, 3) := by decide +kernel
theorem dX1_climbFrom_31 : decode cX1_climbFrom 31 = .ok (.aload_n 0, 1) := by decide +kernel
theorem dX1_climbFrom_32 : decode cX1_climbFrom 32 = .ok (.iconst 0, 1) := by decide +kernel
theorem dX1_climbFrom_33 : decode cX1_climbFrom 33 = .ok (.putfield 26, 3) := by decide +kernel
theorem dX1_climbFrom_36 : decode cX1_climbFrom 36 = .ok (.iconst 0, 1) := by decide +kernel
theorem dX1_climbFrom_37 : decode cX1_climbFrom 37 = .ok (.istore 4, 2) := by decide +kernel
theorem dX1_climbFrom_39 : decode cX1_climbFrom 39 = .ok (.iload 4, 2) := by decide +kernel
theorem dX1_climbFrom_41 : decode cX1_climbFrom 41 = .ok (.aload_n 0, 1) := by decide +kernel
theorem dX1_climbFrom_42 : decode cX1_climbFrom 42 = .ok (.getfield 33, 3) := by decide +kernel
theorem dX1_climbFrom_45 : decode cX1_climbFrom 45 = .ok (.invokevirtual 77, 3) := by decide +kernel
theorem dX1_climbFrom_48 : decode cX1_climbFrom 48 = .ok (.if_icmp .ge 40, 3) := by decide +kernel
theorem dX1_climbFrom_51 : decode cX1_climbFrom 51 = .ok (.aload_n 0, 1) := by decide +kernel
theorem dX1_climbFrom_52 : decode cX1_climbFrom 52 = .ok (.iload_n 1, 1) := by decide +kernel
theorem dX1_climbFrom_53 : decode cX1_climbFrom 53 = .ok (.iload_n 3, 1) := by decide +kernel
theorem dX1_climbFrom_54 : decode cX1_climbFrom 54 = .ok (.iload_n 2, 1) := by decide +kernel
theorem dX1_climbFrom_55 : decode cX1_climbFrom 55 = .ok (.invokevirtual 80, 3) := by decide +kernel
theorem dX1_climbFrom_58 : decode cX1_climbFrom 58 = .ok (.istore 5, 2) := by decide +kernel
theorem dX1_climbFrom_60 : decode cX1_climbFrom 60 = .ok (.iload 5, 2) := by decide +kernel
theorem dX1_climbFrom_62 : decode cX1_climbFrom 62 = .ok (.iconst (-1), 1) := by decide +kernel
theorem dX1_climbFrom_63 : decode cX1_climbFrom 63 = .ok (.if_icmp .ne 6, 3) := by decide +kernel
theorem dX1_climbFrom_66 : decode cX1_climbFrom 66 = .ok (.goto 22, 3) := by decide +kernel
theorem dX1_climbFrom_69 : decode cX1_climbFrom 69 = .ok (.iload 5, 2) := by decide +kernel
theorem dX1_climbFrom_71 : decode cX1_climbFrom 71 = .ok (.istore_n 3, 1) := by decide +kernel
theorem dX1_climbFrom_72 : decode cX1_climbFrom 72 = .ok (.aload_n 0, 1) := by decide +kernel
theorem dX1_climbFrom_73 : decode cX1_climbFrom 73 = .ok (.dup, 1) := by decide +kernel
theorem dX1_climbFrom_74 : decode cX1_climbFrom 74 = .ok (.getfield 26, 3) := by decide +kernel
theorem dX1_climbFrom_77 : decode cX1_climbFrom 77 = .ok (.iconst 1, 1) := by decide +kernel
theorem dX1_climbFrom_78 : decode cX1_climbFrom 78 = .ok (.iadd, 1) := by decide +kernel
theorem dX1_climbFrom_79 : decode cX1_climbFrom 79 = .ok (.putfield 26, 3) := by decide +kernel
theorem dX1_climbFrom_82 : decode cX1_climbFrom 82 = .ok (.iinc 4 1, 3) := by decide +kernel
theorem dX1_climbFrom_85 : decode cX1_climbFrom 85 = .ok (.goto (-46), 3) := by decide +kernel
theorem dX1_climbFrom_88 : decode cX1_climbFrom 88 = .ok (.iload_n 3, 1) := by decide +kernel
theorem dX1_climbFrom_89 : decode cX1_climbFrom 89 = .ok (.ireturn, 1) := by decide +kernel
theorem dX1_bestExchange_0 : decode cX1_bestExchange 0 = .ok (.iconst (-1), 1) := by decide +kernel
theorem dX1_bestExchange_1 : decode cX1_bestExchange 1 = .ok (.istore 4, 2) := by decide +kernel
theorem dX1_bestExchange_3 : decode cX1_bestExchange 3 = .ok (.iconst 0, 1) := by decide +kernel
theorem dX1_bestExchange_4 : decode cX1_bestExchange 4 = .ok (.istore 5, 2) := by decide +kernel
theorem dX1_bestExchange_6 : decode cX1_bestExchange 6 = .ok (.iload 5, 2) := by decide +kernel
theorem dX1_bestExchange_8 : decode cX1_bestExchange 8 = .ok (.aload_n 0, 1) := by decide +kernel
theorem dX1_bestExchange_9 : decode cX1_bestExchange 9 = .ok (.getfield 33, 3) := by decide +kernel
theorem dX1_bestExchange_12 : decode cX1_bestExchange 12 = .ok (.getfield 84, 3) := by decide +kernel
theorem dX1_bestExchange_15 : decode cX1_bestExchange 15 = .ok (.if_icmp .ge 132, 3) := by decide +kernel
theorem dX1_bestExchange_18 : decode cX1_bestExchange 18 = .ok (.iconst 0, 1) := by decide +kernel
theorem dX1_bestExchange_19 : decode cX1_bestExchange 19 = .ok (.istore 6, 2) := by decide +kernel
theorem dX1_bestExchange_21 : decode cX1_bestExchange 21 = .ok (.iload 6, 2) := by decide +kernel
theorem dX1_bestExchange_23 : decode cX1_bestExchange 23 = .ok (.aload_n 0, 1) := by decide +kernel
theorem dX1_bestExchange_24 : decode cX1_bestExchange 24 = .ok (.getfield 33, 3) := by decide +kernel
theorem dX1_bestExchange_27 : decode cX1_bestExchange 27 = .ok (.getfield 84, 3) := by decide +kernel
theorem dX1_bestExchange_30 : decode cX1_bestExchange 30 = .ok (.if_icmp .ge 111, 3) := by decide +kernel
theorem dX1_bestExchange_33 : decode cX1_bestExchange 33 = .ok (.iload_n 2, 1) := by decide +kernel
theorem dX1_bestExchange_34 : decode cX1_bestExchange 34 = .ok (.iload 5, 2) := by decide +kernel
theorem dX1_bestExchange_36 : decode cX1_bestExchange 36 = .ok (.ishr, 1) := by decide +kernel
theorem dX1_bestExchange_37 : decode cX1_bestExchange 37 = .ok (.iconst 1, 1) := by decide +kernel
theorem dX1_bestExchange_38 : decode cX1_bestExchange 38 = .ok (.iand, 1) := by decide +kernel
theorem dX1_bestExchange_39 : decode cX1_bestExchange 39 = .ok (.ifCond .eq 96, 3) := by decide +kernel
theorem dX1_bestExchange_42 : decode cX1_bestExchange 42 = .ok (.iload_n 3, 1) := by decide +kernel
theorem dX1_bestExchange_43 : decode cX1_bestExchange 43 = .ok (.iload_n 2, 1) := by decide +kernel
theorem dX1_bestExchange_44 : decode cX1_bestExchange 44 = .ok (.iconst (-1), 1) := by decide +kernel
theorem dX1_bestExchange_45 : decode cX1_bestExchange 45 = .ok (.ixor, 1) := by decide +kernel
theorem dX1_bestExchange_46 : decode cX1_bestExchange 46 = .ok (.iand, 1) := by decide +kernel
theorem dX1_bestExchange_47 : decode cX1_bestExchange 47 = .ok (.iload 6, 2) := by decide +kernel
theorem dX1_bestExchange_49 : decode cX1_bestExchange 49 = .ok (.ishr, 1) := by decide +kernel
theorem dX1_bestExchange_50 : decode cX1_bestExchange 50 = .ok (.iconst 1, 1) := by decide +kernel
theorem dX1_bestExchange_51 : decode cX1_bestExchange 51 = .ok (.iand, 1) := by decide +kernel
theorem dX1_bestExchange_52 : decode cX1_bestExchange 52 = .ok (.ifCond .eq 83, 3) := by decide +kernel
theorem dX1_bestExchange_55 : decode cX1_bestExchange 55 = .ok (.iload_n 2, 1) := by decide +kernel
theorem dX1_bestExchange_56 : decode cX1_bestExchange 56 = .ok (.iconst 1, 1) := by decide +kernel
theorem dX1_bestExchange_57 : decode cX1_bestExchange 57 = .ok (.iload 5, 2) := by decide +kernel
theorem dX1_bestExchange_59 : decode cX1_bestExchange 59 = .ok (.ishl, 1) := by decide +kernel
theorem dX1_bestExchange_60 : decode cX1_bestExchange 60 = .ok (.ixor, 1) := by decide +kernel
theorem dX1_bestExchange_61 : decode cX1_bestExchange 61 = .ok (.iconst 1, 1) := by decide +kernel
theorem dX1_bestExchange_62 : decode cX1_bestExchange 62 = .ok (.iload 6, 2) := by decide +kernel
theorem dX1_bestExchange_64 : decode cX1_bestExchange 64 = .ok (.ishl, 1) := by decide +kernel
theorem dX1_bestExchange_65 : decode cX1_bestExchange 65 = .ok (.ixor, 1) := by decide +kernel
theorem dX1_bestExchange_66 : decode cX1_bestExchange 66 = .ok (.istore 7, 2) := by decide +kernel
theorem dX1_bestExchange_68 : decode cX1_bestExchange 68 = .ok (.aload_n 0, 1) := by decide +kernel
theorem dX1_bestExchange_69 : decode cX1_bestExchange 69 = .ok (.getfield 37, 3) := by decide +kernel
theorem dX1_bestExchange_72 : decode cX1_bestExchange 72 = .ok (.iload_n 1, 1) := by decide +kernel
theorem dX1_bestExchange_73 : decode cX1_bestExchange 73 = .ok (.iload 7, 2) := by decide +kernel
theorem dX1_bestExchange_75 : decode cX1_bestExchange 75 = .ok (.invokevirtual 74, 3) := by decide +kernel
theorem dX1_bestExchange_78 : decode cX1_bestExchange 78 = .ok (.lstore 8, 2) := by decide +kernel
theorem dX1_bestExchange_80 : decode cX1_bestExchange 80 = .ok (.lload 8, 2) := by decide +kernel
theorem dX1_bestExchange_82 : decode cX1_bestExchange 82 = .ok (.aload_n 0, 1) := by decide +kernel
theorem dX1_bestExchange_83 : decode cX1_bestExchange 83 = .ok (.getfield 29, 3) := by decide +kernel
theorem dX1_bestExchange_86 : decode cX1_bestExchange 86 = .ok (.lcmp, 1) := by decide +kernel
theorem dX1_bestExchange_87 : decode cX1_bestExchange 87 = .ok (.ifCond .ne 20, 3) := by decide +kernel
theorem dX1_bestExchange_90 : decode cX1_bestExchange 90 = .ok (.iload 4, 2) := by decide +kernel
theorem dX1_bestExchange_92 : decode cX1_bestExchange 92 = .ok (.iconst (-1), 1) := by decide +kernel
theorem dX1_bestExchange_93 : decode cX1_bestExchange 93 = .ok (.if_icmp .eq 14, 3) := by decide +kernel
theorem dX1_bestExchange_96 : decode cX1_bestExchange 96 = .ok (.iload 7, 2) := by decide +kernel
theorem dX1_bestExchange_98 : decode cX1_bestExchange 98 = .ok (.iload 4, 2) := by decide +kernel
theorem dX1_bestExchange_100 : decode cX1_bestExchange 100 = .ok (.if_icmp .ge 7, 3) := by decide +kernel
theorem dX1_bestExchange_103 : decode cX1_bestExchange 103 = .ok (.iconst 1, 1) := by decide +kernel
theorem dX1_bestExchange_104 : decode cX1_bestExchange 104 = .ok (.goto 4, 3) := by decide +kernel
theorem dX1_bestExchange_107 : decode cX1_bestExchange 107 = .ok (.iconst 0, 1) := by decide +kernel
theorem dX1_bestExchange_108 : decode cX1_bestExchange 108 = .ok (.istore 10, 2) := by decide +kernel
theorem dX1_bestExchange_110 : decode cX1_bestExchange 110 = .ok (.lload 8, 2) := by decide +kernel
theorem dX1_bestExchange_112 : decode cX1_bestExchange 112 = .ok (.aload_n 0, 1) := by decide +kernel
theorem dX1_bestExchange_113 : decode cX1_bestExchange 113 = .ok (.getfield 29, 3) := by decide +kernel
theorem dX1_bestExchange_116 : decode cX1_bestExchange 116 = .ok (.lcmp, 1) := by decide +kernel
theorem dX1_bestExchange_117 : decode cX1_bestExchange 117 = .ok (.ifCond .gt 8, 3) := by decide +kernel
theorem dX1_bestExchange_120 : decode cX1_bestExchange 120 = .ok (.iload 10, 2) := by decide +kernel
theorem dX1_bestExchange_122 : decode cX1_bestExchange 122 = .ok (.ifCond .eq 13, 3) := by decide +kernel
theorem dX1_bestExchange_125 : decode cX1_bestExchange 125 = .ok (.aload_n 0, 1) := by decide +kernel
theorem dX1_bestExchange_126 : decode cX1_bestExchange 126 = .ok (.lload 8, 2) := by decide +kernel
theorem dX1_bestExchange_128 : decode cX1_bestExchange 128 = .ok (.putfield 29, 3) := by decide +kernel
theorem dX1_bestExchange_131 : decode cX1_bestExchange 131 = .ok (.iload 7, 2) := by decide +kernel
theorem dX1_bestExchange_133 : decode cX1_bestExchange 133 = .ok (.istore 4, 2) := by decide +kernel
theorem dX1_bestExchange_135 : decode cX1_bestExchange 135 = .ok (.iinc 6 1, 3) := by decide +kernel
theorem dX1_bestExchange_138 : decode cX1_bestExchange 138 = .ok (.goto (-117), 3) := by decide +kernel
theorem dX1_bestExchange_141 : decode cX1_bestExchange 141 = .ok (.iinc 5 1, 3) := by decide +kernel
theorem dX1_bestExchange_144 : decode cX1_bestExchange 144 = .ok (.goto (-138), 3) := by decide +kernel
theorem dX1_bestExchange_147 : decode cX1_bestExchange 147 = .ok (.iload 4, 2) := by decide +kernel
theorem dX1_bestExchange_149 : decode cX1_bestExchange 149 = .ok (.ireturn, 1) := by decide +kernel
theorem dX2_init_0 : decode cX2_init 0 = .ok (.aload_n 0, 1) := by decide +kernel
theorem dX2_init_1 : decode cX2_init 1 = .ok (.invokespecial 3, 3) := by decide +kernel
theorem dX2_init_4 : decode cX2_init 4 = .ok (.aload_n 0, 1) := by decide +kernel
theorem dX2_init_5 : decode cX2_init 5 = .ok (.bipush 10, 2) := by decide +kernel
theorem dX2_init_7 : decode cX2_init 7 = .ok (.newarray .int, 2) := by decide +kernel
theorem dX2_init_9 : decode cX2_init 9 = .ok (.putfield 9, 3) := by decide +kernel
theorem dX2_init_12 : decode cX2_init 12 = .ok (.aload_n 0, 1) := by decide +kernel
theorem dX2_init_13 : decode cX2_init 13 = .ok (.iconst 0, 1) := by decide +kernel
theorem dX2_init_14 : decode cX2_init 14 = .ok (.putfield 15, 3) := by decide +kernel
theorem dX2_init_17 : decode cX2_init 17 = .ok (.aload_n 0, 1) := by decide +kernel
theorem dX2_init_18 : decode cX2_init 18 = .ok (.iconst 0, 1) := by decide +kernel
theorem dX2_init_19 : decode cX2_init 19 = .ok (.putfield 19, 3) := by decide +kernel
theorem dX2_init_22 : decode cX2_init 22 = .ok (.aload_n 0, 1) := by decide +kernel
theorem dX2_init_23 : decode cX2_init 23 = .ok (.aload_n 1, 1) := by decide +kernel
theorem dX2_init_24 : decode cX2_init 24 = .ok (.putfield 22, 3) := by decide +kernel
theorem dX2_init_27 : decode cX2_init 27 = .ok (.aload_n 0, 1) := by decide +kernel
theorem dX2_init_28 : decode cX2_init 28 = .ok (.aload_n 2, 1) := by decide +kernel
theorem dX2_init_29 : decode cX2_init 29 = .ok (.putfield 26, 3) := by decide +kernel
theorem dX2_init_32 : decode cX2_init 32 = .ok (.return_, 1) := by decide +kernel
theorem dX2_losersByPlace_0 : decode cX2_losersByPlace 0 = .ok (.aload_n 0, 1) := by decide +kernel
theorem dX2_losersByPlace_1 : decode cX2_losersByPlace 1 = .ok (.invokevirtual 30, 3) := by decide +kernel
theorem dX2_losersByPlace_4 : decode cX2_losersByPlace 4 = .ok (.aload_n 0, 1) := by decide +kernel
theorem dX2_losersByPlace_5 : decode cX2_losersByPlace 5 = .ok (.invokevirtual 33, 3) := by decide +kernel
theorem dX2_losersByPlace_8 : decode cX2_losersByPlace 8 = .ok (.iconst 0, 1) := by decide +kernel
theorem dX2_losersByPlace_9 : decode cX2_losersByPlace 9 = .ok (.istore_n 1, 1) := by decide +kernel
theorem dX2_losersByPlace_10 : decode cX2_losersByPlace 10 = .ok (.iconst 0, 1) := by decide +kernel
theorem dX2_losersByPlace_11 : decode cX2_losersByPlace 11 = .ok (.istore_n 2, 1) := by decide +kernel
theorem dX2_losersByPlace_12 : decode cX2_losersByPlace 12 = .ok (.iload_n 2, 1) := by decide +kernel
theorem dX2_losersByPlace_13 : decode cX2_losersByPlace 13 = .ok (.aload_n 0, 1) := by decide +kernel
theorem dX2_losersByPlace_14 : decode cX2_losersByPlace 14 = .ok (.getfield 22, 3) := by decide +kernel
theorem dX2_losersByPlace_17 : decode cX2_losersByPlace 17 = .ok (.getfield 36, 3) := by decide +kernel
theorem dX2_losersByPlace_20 : decode cX2_losersByPlace 20 = .ok (.if_icmp .ge 50, 3) := by decide +kernel
theorem dX2_losersByPlace_23 : decode cX2_losersByPlace 23 = .ok (.aload_n 0, 1) := by decide +kernel
theorem dX2_losersByPlace_24 : decode cX2_losersByPlace 24 = .ok (.getfield 26, 3) := by decide +kernel
theorem dX2_losersByPlace_27 : decode cX2_losersByPlace 27 = .ok (.iload_n 2, 1) := by decide +kernel
theorem dX2_losersByPlace_28 : decode cX2_losersByPlace 28 = .ok (.aload_n 0, 1) := by decide +kernel
theorem dX2_losersByPlace_29 : decode cX2_losersByPlace 29 = .ok (.getfield 22, 3) := by decide +kernel
theorem dX2_losersByPlace_32 : decode cX2_losersByPlace 32 = .ok (.iload_n 2, 1) := by decide +kernel
theorem dX2_losersByPlace_33 : decode cX2_losersByPlace 33 = .ok (.invokevirtual 41, 3) := by decide +kernel
theorem dX2_losersByPlace_36 : decode cX2_losersByPlace 36 = .ok (.invokevirtual 45, 3) := by decide +kernel
theorem dX2_losersByPlace_39 : decode cX2_losersByPlace 39 = .ok (.lstore_n 3, 1) := by decide +kernel
theorem dX2_losersByPlace_40 : decode cX2_losersByPlace 40 = .ok (.aload_n 0, 1) := by decide +kernel
theorem dX2_losersByPlace_41 : decode cX2_losersByPlace 41 = .ok (.getfield 26, 3) := by decide +kernel
theorem dX2_losersByPlace_44 : decode cX2_losersByPlace 44 = .ok (.iload_n 2, 1) := by decide +kernel
theorem dX2_losersByPlace_45 : decode cX2_losersByPlace 45 = .ok (.aload_n 0, 1) := by decide +kernel
theorem dX2_losersByPlace_46 : decode cX2_losersByPlace 46 = .ok (.iload_n 2, 1) := by decide +kernel
theorem dX2_losersByPlace_47 : decode cX2_losersByPlace 47 = .ok (.invokevirtual 51, 3) := by decide +kernel
theorem dX2_losersByPlace_50 : decode cX2_losersByPlace 50 = .ok (.invokevirtual 45, 3) := by decide +kernel
theorem dX2_losersByPlace_53 : decode cX2_losersByPlace 53 = .ok (.lload_n 3, 1) := by decide +kernel
theorem dX2_losersByPlace_54 : decode cX2_losersByPlace 54 = .ok (.lcmp, 1) := by decide +kernel
theorem dX2_losersByPlace_55 : decode cX2_losersByPlace 55 = .ok (.ifCond .ge 9, 3) := by decide +kernel
theorem dX2_losersByPlace_58 : decode cX2_losersByPlace 58 = .ok (.iload_n 1, 1) := by decide +kernel
theorem dX2_losersByPlace_59 : decode cX2_losersByPlace 59 = .ok (.iconst 1, 1) := by decide +kernel
theorem dX2_losersByPlace_60 : decode cX2_losersByPlace 60 = .ok (.iload_n 2, 1) := by decide +kernel
theorem dX2_losersByPlace_61 : decode cX2_losersByPlace 61 = .ok (.ishl, 1) := by decide +kernel
theorem dX2_losersByPlace_62 : decode cX2_losersByPlace 62 = .ok (.ior, 1) := by decide +kernel
theorem dX2_losersByPlace_63 : decode cX2_losersByPlace 63 = .ok (.istore_n 1, 1) := by decide +kernel
theorem dX2_losersByPlace_64 : decode cX2_losersByPlace 64 = .ok (.iinc 2 1, 3) := by decide +kernel
theorem dX2_losersByPlace_67 : decode cX2_losersByPlace 67 = .ok (.goto (-55), 3) := by decide +kernel
theorem dX2_losersByPlace_70 : decode cX2_losersByPlace 70 = .ok (.iload_n 1, 1) := by decide +kernel
theorem dX2_losersByPlace_71 : decode cX2_losersByPlace 71 = .ok (.ireturn, 1) := by decide +kernel
theorem dX2_startDraws_0 : decode cX2_startDraws 0 = .ok (.aload_n 0, 1) := by decide +kernel
theorem dX2_startDraws_1 : decode cX2_startDraws 1 = .ok (.iload_n 1, 1) := by decide +kernel
theorem dX2_startDraws_2 : decode cX2_startDraws 2 = .ok (.putfield 19, 3) := by decide +kernel
theorem dX2_startDraws_5 : decode cX2_startDraws 5 = .ok (.return_, 1) := by decide +kernel
theorem dX2_luckierDeals_0 : decode cX2_luckierDeals 0 = .ok (.aload_n 0, 1) := by decide +kernel
theorem dX2_luckierDeals_1 : decode cX2_luckierDeals 1 = .ok (.getfield 26, 3) := by decide +kernel
theorem dX2_luckierDeals_4 : decode cX2_luckierDeals 4 = .ok (.iload_n 1, 1) := by decide +kernel
theorem dX2_luckierDeals_5 : decode cX2_luckierDeals 5 = .ok (.aload_n 0, 1) := by decide +kernel
theorem dX2_luckierDeals_6 : decode cX2_luckierDeals 6 = .ok (.getfield 22, 3) := by decide +kernel
theorem dX2_luckierDeals_9 : decode cX2_luckierDeals 9 = .ok (.iload_n 1, 1) := by decide +kernel
theorem dX2_luckierDeals_10 : decode cX2_luckierDeals 10 = .ok (.invokevirtual 41, 3) := by decide +kernel
theorem dX2_luckierDeals_13 : decode cX2_luckierDeals 13 = .ok (.aload_n 2, 1) := by decide +kernel
theorem dX2_luckierDeals_14 : decode cX2_luckierDeals 14 = .ok (.iload_n 3, 1) := by decide +kernel
theorem dX2_luckierDeals_15 : decode cX2_luckierDeals 15 = .ok (.invokevirtual 54, 3) := by decide +kernel
theorem dX2_luckierDeals_18 : decode cX2_luckierDeals 18 = .ok (.istore 5, 2) := by decide +kernel
theorem dX2_luckierDeals_20 : decode cX2_luckierDeals 20 = .ok (.iconst 0, 1) := by decide +kernel
theorem dX2_luckierDeals_21 : decode cX2_luckierDeals 21 = .ok (.istore 6, 2) := by decide +kernel
theorem dX2_luckierDeals_23 : decode cX2_luckierDeals 23 = .ok (.iconst 0, 1) := by decide +kernel
theorem dX2_luckierDeals_24 : decode cX2_luckierDeals 24 = .ok (.istore 7, 2) := by decide +kernel
theorem dX2_luckierDeals_26 : decode cX2_luckierDeals 26 = .ok (.iload 7, 2) := by decide +kernel
theorem dX2_luckierDeals_28 : decode cX2_luckierDeals 28 = .ok (.iload 4, 2) := by decide +kernel
theorem dX2_luckierDeals_30 : decode cX2_luckierDeals 30 = .ok (.if_icmp .ge 40, 3) := by decide +kernel
theorem dX2_luckierDeals_33 : decode cX2_luckierDeals 33 = .ok (.aload_n 0, 1) := by decide +kernel
theorem dX2_luckierDeals_34 : decode cX2_luckierDeals 34 = .ok (.invokevirtual 30, 3) := by decide +kernel
theorem dX2_luckierDeals_37 : decode cX2_luckierDeals 37 = .ok (.aload_n 0, 1) := by decide +kernel
theorem dX2_luckierDeals_38 : decode cX2_luckierDeals 38 = .ok (.invokevirtual 58, 3) := by decide +kernel
theorem dX2_luckierDeals_41 : decode cX2_luckierDeals 41 = .ok (.aload_n 0, 1) := by decide +kernel
theorem dX2_luckierDeals_42 : decode cX2_luckierDeals 42 = .ok (.getfield 26, 3) := by decide +kernel
theorem dX2_luckierDeals_45 : decode cX2_luckierDeals 45 = .ok (.iload_n 1, 1) := by decide +kernel
theorem dX2_luckierDeals_46 : decode cX2_luckierDeals 46 = .ok (.aload_n 0, 1) := by decide +kernel
theorem dX2_luckierDeals_47 : decode cX2_luckierDeals 47 = .ok (.iload_n 1, 1) := by decide +kernel
theorem dX2_luckierDeals_48 : decode cX2_luckierDeals 48 = .ok (.invokevirtual 51, 3) := by decide +kernel
theorem dX2_luckierDeals_51 : decode cX2_luckierDeals 51 = .ok (.aload_n 2, 1) := by decide +kernel
theorem dX2_luckierDeals_52 : decode cX2_luckierDeals 52 = .ok (.iload_n 3, 1) := by decide +kernel
theorem dX2_luckierDeals_53 : decode cX2_luckierDeals 53 = .ok (.invokevirtual 54, 3) := by decide +kernel
theorem dX2_luckierDeals_56 : decode cX2_luckierDeals 56 = .ok (.iload 5, 2) := by decide +kernel
theorem dX2_luckierDeals_58 : decode cX2_luckierDeals 58 = .ok (.if_icmp .ge 6, 3) := by decide +kernel
theorem dX2_luckierDeals_61 : decode cX2_luckierDeals 61 = .ok (.iinc 6 1, 3) := by decide +kernel
theorem dX2_luckierDeals_64 : decode cX2_luckierDeals 64 = .ok (.iinc 7 1, 3) := by decide +kernel
theorem dX2_luckierDeals_67 : decode cX2_luckierDeals 67 = .ok (.goto (-41), 3) := by decide +kernel
theorem dX2_luckierDeals_70 : decode cX2_luckierDeals 70 = .ok (.iload 6, 2) := by decide +kernel
theorem dX2_luckierDeals_72 : decode cX2_luckierDeals 72 = .ok (.ireturn, 1) := by decide +kernel
theorem dX2_fillRow_0 : decode cX2_fillRow 0 = .ok (.aload_n 0, 1) := by decide +kernel
theorem dX2_fillRow_1 : decode cX2_fillRow 1 = .ok (.iconst 0, 1) := by decide +kernel
theorem dX2_fillRow_2 : decode cX2_fillRow 2 = .ok (.putfield 15, 3) := by decide +kernel
theorem dX2_fillRow_5 : decode cX2_fillRow 5 = .ok (.iconst 0, 1) := by decide +kernel
theorem dX2_fillRow_6 : decode cX2_fillRow 6 = .ok (.istore_n 1, 1) := by decide +kernel
theorem dX2_fillRow_7 : decode cX2_fillRow 7 = .ok (.iload_n 1, 1) := by decide +kernel
theorem dX2_fillRow_8 : decode cX2_fillRow 8 = .ok (.aload_n 0, 1) := by decide +kernel
theorem dX2_fillRow_9 : decode cX2_fillRow 9 = .ok (.getfield 22, 3) := by decide +kernel
theorem dX2_fillRow_12 : decode cX2_fillRow 12 = .ok (.getfield 61, 3) := by decide +kernel
theorem dX2_fillRow_15 : decode cX2_fillRow 15 = .ok (.if_icmp .ge 42, 3) := by decide +kernel
theorem dX2_fillRow_18 : decode cX2_fillRow 18 = .ok (.aload_n 0, 1) := by decide +kernel
theorem dX2_fillRow_19 : decode cX2_fillRow 19 = .ok (.getfield 22, 3) := by decide +kernel
theorem dX2_fillRow_22 : decode cX2_fillRow 22 = .ok (.getfield 64, 3) := by decide +kernel
theorem dX2_fillRow_25 : decode cX2_fillRow 25 = .ok (.iload_n 1, 1) := by decide +kernel
theorem dX2_fillRow_26 : decode cX2_fillRow 26 = .ok (.iaload, 1) := by decide +kernel
theorem dX2_fillRow_27 : decode cX2_fillRow 27 = .ok (.iconst (-1), 1) := by decide +kernel
theorem dX2_fillRow_28 : decode cX2_fillRow 28 = .ok (.if_icmp .eq 23, 3) := by decide +kernel
theorem dX2_fillRow_31 : decode cX2_fillRow 31 = .ok (.aload_n 0, 1) := by decide +kernel
theorem dX2_fillRow_32 : decode cX2_fillRow 32 = .ok (.getfield 9, 3) := by decide +kernel
theorem dX2_fillRow_35 : decode cX2_fillRow 35 = .ok (.aload_n 0, 1) := by decide +kernel
theorem dX2_fillRow_36 : decode cX2_fillRow 36 = .ok (.getfield 15, 3) := by decide +kernel
theorem dX2_fillRow_39 : decode cX2_fillRow 39 = .ok (.iload_n 1, 1) := by decide +kernel
theorem dX2_fillRow_40 : decode cX2_fillRow 40 = .ok (.iastore, 1) := by decide +kernel
theorem dX2_fillRow_41 : decode cX2_fillRow 41 = .ok (.aload_n 0, 1) := by decide +kernel
theorem dX2_fillRow_42 : decode cX2_fillRow 42 = .ok (.dup, 1) := by decide +kernel
theorem dX2_fillRow_43 : decode cX2_fillRow 43 = .ok (.getfield 15, 3) := by decide +kernel
theorem dX2_fillRow_46 : decode cX2_fillRow 46 = .ok (.iconst 1, 1) := by decide +kernel
theorem dX2_fillRow_47 : decode cX2_fillRow 47 = .ok (.iadd, 1) := by decide +kernel
theorem dX2_fillRow_48 : decode cX2_fillRow 48 = .ok (.putfield 15, 3) := by decide +kernel
theorem dX2_fillRow_51 : decode cX2_fillRow 51 = .ok (.iinc 1 1, 3) := by decide +kernel
theorem dX2_fillRow_54 : decode cX2_fillRow 54 = .ok (.goto (-47), 3) := by decide +kernel
theorem dX2_fillRow_57 : decode cX2_fillRow 57 = .ok (.return_, 1) := by decide +kernel
theorem dX2_sortRow_0 : decode cX2_sortRow 0 = .ok (.iconst 1, 1) := by decide +kernel
theorem dX2_sortRow_1 : decode cX2_sortRow 1 = .ok (.istore_n 1, 1) := by decide +kernel
theorem dX2_sortRow_2 : decode cX2_sortRow 2 = .ok (.iload_n 1, 1) := by decide +kernel
theorem dX2_sortRow_3 : decode cX2_sortRow 3 = .ok (.aload_n 0, 1) := by decide +kernel
theorem dX2_sortRow_4 : decode cX2_sortRow 4 = .ok (.getfield 15, 3) := by decide +kernel
theorem dX2_sortRow_7 : decode cX2_sortRow 7 = .ok (.if_icmp .ge 50, 3) := by decide +kernel
theorem dX2_sortRow_10 : decode cX2_sortRow 10 = .ok (.iload_n 1, 1) := by decide +kernel
theorem dX2_sortRow_11 : decode cX2_sortRow 11 = .ok (.istore_n 2, 1) := by decide +kernel
theorem dX2_sortRow_12 : decode cX2_sortRow 12 = .ok (.iload_n 2, 1) := by decide +kernel
theorem dX2_sortRow_13 : decode cX2_sortRow 13 = .ok (.ifCond .le 38, 3) := by decide +kernel
theorem dX2_sortRow_16 : decode cX2_sortRow 16 = .ok (.aload_n 0, 1) := by decide +kernel
theorem dX2_sortRow_17 : decode cX2_sortRow 17 = .ok (.aload_n 0, 1) := by decide +kernel
theorem dX2_sortRow_18 : decode cX2_sortRow 18 = .ok (.getfield 9, 3) := by decide +kernel
theorem dX2_sortRow_21 : decode cX2_sortRow 21 = .ok (.iload_n 2, 1) := by decide +kernel
theorem dX2_sortRow_22 : decode cX2_sortRow 22 = .ok (.iaload, 1) := by decide +kernel
theorem dX2_sortRow_23 : decode cX2_sortRow 23 = .ok (.aload_n 0, 1) := by decide +kernel
theorem dX2_sortRow_24 : decode cX2_sortRow 24 = .ok (.getfield 9, 3) := by decide +kernel
theorem dX2_sortRow_27 : decode cX2_sortRow 27 = .ok (.iload_n 2, 1) := by decide +kernel
theorem dX2_sortRow_28 : decode cX2_sortRow 28 = .ok (.iconst 1, 1) := by decide +kernel
theorem dX2_sortRow_29 : decode cX2_sortRow 29 = .ok (.isub, 1) := by decide +kernel
theorem dX2_sortRow_30 : decode cX2_sortRow 30 = .ok (.iaload, 1) := by decide +kernel
theorem dX2_sortRow_31 : decode cX2_sortRow 31 = .ok (.invokevirtual 67, 3) := by decide +kernel
theorem dX2_sortRow_34 : decode cX2_sortRow 34 = .ok (.ifCond .eq 17, 3) := by decide +kernel
theorem dX2_sortRow_37 : decode cX2_sortRow 37 = .ok (.aload_n 0, 1) := by decide +kernel
theorem dX2_sortRow_38 : decode cX2_sortRow 38 = .ok (.iload_n 2, 1) := by decide +kernel
theorem dX2_sortRow_39 : decode cX2_sortRow 39 = .ok (.iload_n 2, 1) := by decide +kernel
theorem dX2_sortRow_40 : decode cX2_sortRow 40 = .ok (.iconst 1, 1) := by decide +kernel
theorem dX2_sortRow_41 : decode cX2_sortRow 41 = .ok (.isub, 1) := by decide +kernel
theorem dX2_sortRow_42 : decode cX2_sortRow 42 = .ok (.invokevirtual 71, 3) := by decide +kernel
theorem dX2_sortRow_45 : decode cX2_sortRow 45 = .ok (.iinc 2 (-1), 3) := by decide +kernel
theorem dX2_sortRow_48 : decode cX2_sortRow 48 = .ok (.goto (-36), 3) := by decide +kernel
theorem dX2_sortRow_51 : decode cX2_sortRow 51 = .ok (.iinc 1 1, 3) := by decide +kernel
theorem dX2_sortRow_54 : decode cX2_sortRow 54 = .ok (.goto (-52), 3) := by decide +kernel
theorem dX2_sortRow_57 : decode cX2_sortRow 57 = .ok (.return_, 1) := by decide +kernel
theorem dX2_standsAhead_0 : decode cX2_standsAhead 0 = .ok (.aload_n 0, 1) := by decide +kernel
theorem dX2_standsAhead_1 : decode cX2_standsAhead 1 = .ok (.getfield 22, 3) := by decide +kernel
theorem dX2_standsAhead_4 : decode cX2_standsAhead 4 = .ok (.getfield 75, 3) := by decide +kernel
theorem dX2_standsAhead_7 : decode cX2_standsAhead 7 = .ok (.iload_n 1, 1) := by decide +kernel
theorem dX2_standsAhead_8 : decode cX2_standsAhead 8 = .ok (.iaload, 1) := by decide +kernel
theorem dX2_standsAhead_9 : decode cX2_standsAhead 9 = .ok (.aload_n 0, 1) := by decide +kernel
theorem dX2_standsAhead_10 : decode cX2_standsAhead 10 = .ok (.getfield 22, 3) := by decide +kernel
theorem dX2_standsAhead_13 : decode cX2_standsAhead 13 = .ok (.getfield 75, 3) := by decide +kernel
theorem dX2_standsAhead_16 : decode cX2_standsAhead 16 = .ok (.iload_n 2, 1) := by decide +kernel
theorem dX2_standsAhead_17 : decode cX2_standsAhead 17 = .ok (.iaload, 1) := by decide +kernel
theorem dX2_standsAhead_18 : decode cX2_standsAhead 18 = .ok (.if_icmp .eq 32, 3) := by decide +kernel
theorem dX2_standsAhead_21 : decode cX2_standsAhead 21 = .ok (.aload_n 0, 1) := by decide +kernel
theorem dX2_standsAhead_22 : decode cX2_standsAhead 22 = .ok (.getfield 22, 3) := by decide +kernel
theorem dX2_standsAhead_25 : decode cX2_standsAhead 25 = .ok (.getfield 75, 3) := by decide +kernel
theorem dX2_standsAhead_28 : decode cX2_standsAhead 28 = .ok (.iload_n 1, 1) := by decide +kernel
theorem dX2_standsAhead_29 : decode cX2_standsAhead 29 = .ok (.iaload, 1) := by decide +kernel
theorem dX2_standsAhead_30 : decode cX2_standsAhead 30 = .ok (.aload_n 0, 1) := by decide +kernel
theorem dX2_standsAhead_31 : decode cX2_standsAhead 31 = .ok (.getfield 22, 3) := by decide +kernel
theorem dX2_standsAhead_34 : decode cX2_standsAhead 34 = .ok (.getfield 75, 3) := by decide +kernel
theorem dX2_standsAhead_37 : decode cX2_standsAhead 37 = .ok (.iload_n 2, 1) := by decide +kernel
theorem dX2_standsAhead_38 : decode cX2_standsAhead 38 = .ok (.iaload, 1) := by decide +kernel
theorem dX2_standsAhead_39 : decode cX2_standsAhead 39 = .ok (.if_icmp .ge 7, 3) := by decide +kernel
theorem dX2_standsAhead_42 : decode cX2_standsAhead 42 = .ok (.iconst 1, 1) := by decide +kernel
theorem dX2_standsAhead_43 : decode cX2_standsAhead 43 = .ok (.goto 33, 3) := by decide +kernel
theorem dX2_standsAhead_46 : decode cX2_standsAhead 46 = .ok (.iconst 0, 1) := by decide +kernel
theorem dX2_standsAhead_47 : decode cX2_standsAhead 47 = .ok (.goto 29, 3) := by decide +kernel
theorem dX2_standsAhead_50 : decode cX2_standsAhead 50 = .ok (.aload_n 0, 1) := by decide +kernel
theorem dX2_standsAhead_51 : decode cX2_standsAhead 51 = .ok (.getfield 22, 3) := by decide +kernel
theorem dX2_standsAhead_54 : decode cX2_standsAhead 54 = .ok (.getfield 78, 3) := by decide +kernel
theorem dX2_standsAhead_57 : decode cX2_standsAhead 57 = .ok (.iload_n 1, 1) := by decide +kernel
theorem dX2_standsAhead_58 : decode cX2_standsAhead 58 = .ok (.iaload, 1) := by decide +kernel
theorem dX2_standsAhead_59 : decode cX2_standsAhead 59 = .ok (.aload_n 0, 1) := by decide +kernel
theorem dX2_standsAhead_60 : decode cX2_standsAhead 60 = .ok (.getfield 22, 3) := by decide +kernel
theorem dX2_standsAhead_63 : decode cX2_standsAhead 63 = .ok (.getfield 78, 3) := by decide +kernel
theorem dX2_standsAhead_66 : decode cX2_standsAhead 66 = .ok (.iload_n 2, 1) := by decide +kernel
theorem dX2_standsAhead_67 : decode cX2_standsAhead 67 = .ok (.iaload, 1) := by decide +kernel
theorem dX2_standsAhead_68 : decode cX2_standsAhead 68 = .ok (.if_icmp .ge 7, 3) := by decide +kernel
theorem dX2_standsAhead_71 : decode cX2_standsAhead 71 = .ok (.iconst 1, 1) := by decide +kernel
theorem dX2_standsAhead_72 : decode cX2_standsAhead 72 = .ok (.goto 4, 3) := by decide +kernel
theorem dX2_standsAhead_75 : decode cX2_standsAhead 75 = .ok (.iconst 0, 1) := by decide +kernel
theorem dX2_standsAhead_76 : decode cX2_standsAhead 76 = .ok (.ireturn, 1) := by decide +kernel
theorem dX2_shuffleRow_0 : decode cX2_shuffleRow 0 = .ok (.aload_n 0, 1) := by decide +kernel
theorem dX2_shuffleRow_1 : decode cX2_shuffleRow 1 = .ok (.getfield 15, 3) := by decide +kernel
theorem dX2_shuffleRow_4 : decode cX2_shuffleRow 4 = .ok (.iconst 1, 1) := by decide +kernel
theorem dX2_shuffleRow_5 : decode cX2_shuffleRow 5 = .ok (.isub, 1) := by decide +kernel
theorem dX2_shuffleRow_6 : decode cX2_shuffleRow 6 = .ok (.istore_n 1, 1) := by decide +kernel
theorem dX2_shuffleRow_7 : decode cX2_shuffleRow 7 = .ok (.iload_n 1, 1) := by decide +kernel
theorem dX2_shuffleRow_8 : decode cX2_shuffleRow 8 = .ok (.iconst 1, 1) := by decide +kernel
theorem dX2_shuffleRow_9 : decode cX2_shuffleRow 9 = .ok (.if_icmp .lt 22, 3) := by decide +kernel
theorem dX2_shuffleRow_12 : decode cX2_shuffleRow 12 = .ok (.aload_n 0, 1) := by decide +kernel
theorem dX2_shuffleRow_13 : decode cX2_shuffleRow 13 = .ok (.iload_n 1, 1) := by decide +kernel
theorem dX2_shuffleRow_14 : decode cX2_shuffleRow 14 = .ok (.aload_n 0, 1) := by decide +kernel
theorem dX2_shuffleRow_15 : decode cX2_shuffleRow 15 = .ok (.invokevirtual 81, 3) := by decide +kernel
theorem dX2_shuffleRow_18 : decode cX2_shuffleRow 18 = .ok (.iload_n 1, 1) := by decide +kernel
theorem dX2_shuffleRow_19 : decode cX2_shuffleRow 19 = .ok (.iconst 1, 1) := by decide +kernel
theorem dX2_shuffleRow_20 : decode cX2_shuffleRow 20 = .ok (.iadd, 1) := by decide +kernel
theorem dX2_shuffleRow_21 : decode cX2_shuffleRow 21 = .ok (.irem, 1) := by decide +kernel
theorem dX2_shuffleRow_22 : decode cX2_shuffleRow 22 = .ok (.invokevirtual 71, 3) := by decide +kernel
theorem dX2_shuffleRow_25 : decode cX2_shuffleRow 25 = .ok (.iinc 1 (-1), 3) := by decide +kernel
theorem dX2_shuffleRow_28 : decode cX2_shuffleRow 28 = .ok (.goto (-21), 3) := by decide +kernel
theorem dX2_shuffleRow_31 : decode cX2_shuffleRow 31 = .ok (.return_, 1) := by decide +kernel
theorem dX2_exchange_0 : decode cX2_exchange 0 = .ok (.aload_n 0, 1) := by decide +kernel
theorem dX2_exchange_1 : decode cX2_exchange 1 = .ok (.getfield 9, 3) := by decide +kernel
theorem dX2_exchange_4 : decode cX2_exchange 4 = .ok (.iload_n 1, 1) := by decide +kernel
theorem dX2_exchange_5 : decode cX2_exchange 5 = .ok (.iaload, 1) := by decide +kernel
theorem dX2_exchange_6 : decode cX2_exchange 6 = .ok (.istore_n 3, 1) := by decide +kernel
theorem dX2_exchange_7 : decode cX2_exchange 7 = .ok (.aload_n 0, 1) := by decide +kernel
theorem dX2_exchange_8 : decode cX2_exchange 8 = .ok (.getfield 9, 3) := by decide +kernel
theorem dX2_exchange_11 : decode cX2_exchange 11 = .ok (.iload_n 1, 1) := by decide +kernel
theorem dX2_exchange_12 : decode cX2_exchange 12 = .ok (.aload_n 0, 1) := by decide +kernel
theorem dX2_exchange_13 : decode cX2_exchange 13 = .ok (.getfield 9, 3) := by decide +kernel
theorem dX2_exchange_16 : decode cX2_exchange 16 = .ok (.iload_n 2, 1) := by decide +kernel
theorem dX2_exchange_17 : decode cX2_exchange 17 = .ok (.iaload, 1) := by decide +kernel
theorem dX2_exchange_18 : decode cX2_exchange 18 = .ok (.iastore, 1) := by decide +kernel
theorem dX2_exchange_19 : decode cX2_exchange 19 = .ok (.aload_n 0, 1) := by decide +kernel
theorem dX2_exchange_20 : decode cX2_exchange 20 = .ok (.getfield 9, 3) := by decide +kernel
theorem dX2_exchange_23 : decode cX2_exchange 23 = .ok (.iload_n 2, 1) := by decide +kernel
theorem dX2_exchange_24 : decode cX2_exchange 24 = .ok (.iload_n 3, 1) := by decide +kernel
theorem dX2_exchange_25 : decode cX2_exchange 25 = .ok (.iastore, 1) := by decide +kernel
theorem dX2_exchange_26 : decode cX2_exchange 26 = .ok (.return_, 1) := by decide +kernel
theorem dX2_nextDraw_0 : decode cX2_nextDraw 0 = .ok (.aload_n 0, 1) := by decide +kernel
theorem dX2_nextDraw_1 : decode cX2_nextDraw 1 = .ok (.aload_n 0, 1) := by decide +kernel
theorem dX2_nextDraw_2 : decode cX2_nextDraw 2 = .ok (.getfield 19, 3) := by decide +kernel
theorem dX2_nextDraw_5 : decode cX2_nextDraw 5 = .ok (.sipush 4093, 3) := by decide +kernel
theorem dX2_nextDraw_8 : decode cX2_nextDraw 8 = .ok (.imul, 1) := by decide +kernel
theorem dX2_nextDraw_9 : decode cX2_nextDraw 9 = .ok (.sipush 15731, 3) := by decide +kernel
theorem dX2_nextDraw_12 : decode cX2_nextDraw 12 = .ok (.iadd, 1) := by decide +kernel
theorem dX2_nextDraw_13 : decode cX2_nextDraw 13 = .ok (.ldc 85, 2) := by decide +kernel
theorem dX2_nextDraw_15 : decode cX2_nextDraw 15 = .ok (.irem, 1) := by decide +kernel
theorem dX2_nextDraw_16 : decode cX2_nextDraw 16 = .ok (.putfield 19, 3) := by decide +kernel
theorem dX2_nextDraw_19 : decode cX2_nextDraw 19 = .ok (.aload_n 0, 1) := by decide +kernel
theorem dX2_nextDraw_20 : decode cX2_nextDraw 20 = .ok (.getfield 19, 3) := by decide +kernel
theorem dX2_nextDraw_23 : decode cX2_nextDraw 23 = .ok (.bipush 8, 2) := by decide +kernel
theorem dX2_nextDraw_25 : decode cX2_nextDraw 25 = .ok (.idiv, 1) := by decide +kernel
theorem dX2_nextDraw_26 : decode cX2_nextDraw 26 = .ok (.ireturn, 1) := by decide +kernel
theorem dX2_dealtTo_0 : decode cX2_dealtTo 0 = .ok (.iconst 0, 1) := by decide +kernel
theorem dX2_dealtTo_1 : decode cX2_dealtTo 1 = .ok (.istore_n 2, 1) := by decide +kernel
theorem dX2_dealtTo_2 : decode cX2_dealtTo 2 = .ok (.iconst 0, 1) := by decide +kernel
theorem dX2_dealtTo_3 : decode cX2_dealtTo 3 = .ok (.istore_n 3, 1) := by decide +kernel
theorem dX2_dealtTo_4 : decode cX2_dealtTo 4 = .ok (.iload_n 3, 1) := by decide +kernel
theorem dX2_dealtTo_5 : decode cX2_dealtTo 5 = .ok (.iload_n 1, 1) := by decide +kernel
theorem dX2_dealtTo_6 : decode cX2_dealtTo 6 = .ok (.if_icmp .ge 23, 3) := by decide +kernel
theorem dX2_dealtTo_9 : decode cX2_dealtTo 9 = .ok (.iload_n 2, 1) := by decide +kernel
theorem dX2_dealtTo_10 : decode cX2_dealtTo 10 = .ok (.aload_n 0, 1) := by decide +kernel
theorem dX2_dealtTo_11 : decode cX2_dealtTo 11 = .ok (.getfield 22, 3) := by decide +kernel
theorem dX2_dealtTo_14 : decode cX2_dealtTo 14 = .ok (.iload_n 3, 1) := by decide +kernel
theorem dX2_dealtTo_15 : decode cX2_dealtTo 15 = .ok (.invokevirtual 41, 3) := by decide +kernel
theorem dX2_dealtTo_18 : decode cX2_dealtTo 18 = .ok (.invokestatic 86, 3) := by decide +kernel
theorem dX2_dealtTo_21 : decode cX2_dealtTo 21 = .ok (.iadd, 1) := by decide +kernel
theorem dX2_dealtTo_22 : decode cX2_dealtTo 22 = .ok (.istore_n 2, 1) := by decide +kernel
theorem dX2_dealtTo_23 : decode cX2_dealtTo 23 = .ok (.iinc 3 1, 3) := by decide +kernel
theorem dX2_dealtTo_26 : decode cX2_dealtTo 26 = .ok (.goto (-22), 3) := by decide +kernel
theorem dX2_dealtTo_29 : decode cX2_dealtTo 29 = .ok (.aload_n 0, 1) := by decide +kernel
theorem dX2_dealtTo_30 : decode cX2_dealtTo 30 = .ok (.getfield 15, 3) := by decide +kernel
theorem dX2_dealtTo_33 : decode cX2_dealtTo 33 = .ok (.iload_n 2, 1) := by decide +kernel
theorem dX2_dealtTo_34 : decode cX2_dealtTo 34 = .ok (.aload_n 0, 1) := by decide +kernel
theorem dX2_dealtTo_35 : decode cX2_dealtTo 35 = .ok (.getfield 22, 3) := by decide +kernel
theorem dX2_dealtTo_38 : decode cX2_dealtTo 38 = .ok (.iload_n 1, 1) := by decide +kernel
theorem dX2_dealtTo_39 : decode cX2_dealtTo 39 = .ok (.invokevirtual 41, 3) := by decide +kernel
theorem dX2_dealtTo_42 : decode cX2_dealtTo 42 = .ok (.invokestatic 86, 3) := by decide +kernel
theorem dX2_dealtTo_45 : decode cX2_dealtTo 45 = .ok (.iadd, 1) := by decide +kernel
theorem dX2_dealtTo_46 : decode cX2_dealtTo 46 = .ok (.invokestatic 91, 3) := by decide +kernel
theorem dX2_dealtTo_49 : decode cX2_dealtTo 49 = .ok (.istore_n 3, 1) := by decide +kernel
theorem dX2_dealtTo_50 : decode cX2_dealtTo 50 = .ok (.iconst 0, 1) := by decide +kernel
theorem dX2_dealtTo_51 : decode cX2_dealtTo 51 = .ok (.istore 4, 2) := by decide +kernel
theorem dX2_dealtTo_53 : decode cX2_dealtTo 53 = .ok (.iload_n 2, 1) := by decide +kernel
theorem dX2_dealtTo_54 : decode cX2_dealtTo 54 = .ok (.istore 5, 2) := by decide +kernel
theorem dX2_dealtTo_56 : decode cX2_dealtTo 56 = .ok (.iload 5, 2) := by decide +kernel
theorem dX2_dealtTo_58 : decode cX2_dealtTo 58 = .ok (.iload_n 3, 1) := by decide +kernel
theorem dX2_dealtTo_59 : decode cX2_dealtTo 59 = .ok (.if_icmp .ge 23, 3) := by decide +kernel
theorem dX2_dealtTo_62 : decode cX2_dealtTo 62 = .ok (.iload 4, 2) := by decide +kernel
theorem dX2_dealtTo_64 : decode cX2_dealtTo 64 = .ok (.iconst 1, 1) := by decide +kernel
theorem dX2_dealtTo_65 : decode cX2_dealtTo 65 = .ok (.aload_n 0, 1) := by decide +kernel
theorem dX2_dealtTo_66 : decode cX2_dealtTo 66 = .ok (.getfield 9, 3) := by decide +kernel
theorem dX2_dealtTo_69 : decode cX2_dealtTo 69 = .ok (.iload 5, 2) := by decide +kernel
theorem dX2_dealtTo_71 : decode cX2_dealtTo 71 = .ok (.iaload, 1) := by decide +kernel
theorem dX2_dealtTo_72 : decode cX2_dealtTo 72 = .ok (.ishl, 1) := by decide +kernel
theorem dX2_dealtTo_73 : decode cX2_dealtTo 73 = .ok (.ior, 1) := by decide +kernel
theorem dX2_dealtTo_74 : decode cX2_dealtTo 74 = .ok (.istore 4, 2) := by decide +kernel
theorem dX2_dealtTo_76 : decode cX2_dealtTo 76 = .ok (.iinc 5 1, 3) := by decide +kernel
theorem dX2_dealtTo_79 : decode cX2_dealtTo 79 = .ok (.goto (-23), 3) := by decide +kernel
theorem dX2_dealtTo_82 : decode cX2_dealtTo 82 = .ok (.iload 4, 2) := by decide +kernel
theorem dX2_dealtTo_84 : decode cX2_dealtTo 84 = .ok (.ireturn, 1) := by decide +kernel
theorem dX3_init_0 : decode cX3_init 0 = .ok (.aload_n 0, 1) := by decide +kernel
theorem dX3_init_1 : decode cX3_init 1 = .ok (.invokespecial 3, 3) := by decide +kernel
theorem dX3_init_4 : decode cX3_init 4 = .ok (.aload_n 0, 1) := by decide +kernel
theorem dX3_init_5 : decode cX3_init 5 = .ok (.sipush 768, 3) := by decide +kernel
theorem dX3_init_8 : decode cX3_init 8 = .ok (.newarray .long, 2) := by decide +kernel
theorem dX3_init_10 : decode cX3_init 10 = .ok (.putfield 11, 3) := by decide +kernel
theorem dX3_init_13 : decode cX3_init 13 = .ok (.aload_n 0, 1) := by decide +kernel
theorem dX3_init_14 : decode cX3_init 14 = .ok (.sipush 768, 3) := by decide +kernel
theorem dX3_init_17 : decode cX3_init 17 = .ok (.newarray .long, 2) := by decide +kernel
theorem dX3_init_19 : decode cX3_init 19 = .ok (.putfield 15, 3) := by decide +kernel
theorem dX3_init_22 : decode cX3_init 22 = .ok (.aload_n 0, 1) := by decide +kernel
theorem dX3_init_23 : decode cX3_init 23 = .ok (.bipush 8, 2) := by decide +kernel
theorem dX3_init_25 : decode cX3_init 25 = .ok (.newarray .int, 2) := by decide +kernel
theorem dX3_init_27 : decode cX3_init 27 = .ok (.putfield 18, 3) := by decide +kernel
theorem dX3_init_30 : decode cX3_init 30 = .ok (.aload_n 0, 1) := by decide +kernel
theorem dX3_init_31 : decode cX3_init 31 = .ok (.iconst 3, 1) := by decide +kernel
theorem dX3_init_32 : decode cX3_init 32 = .ok (.newarray .int, 2) := by decide +kernel
theorem dX3_init_34 : decode cX3_init 34 = .ok (.putfield 22, 3) := by decide +kernel
theorem dX3_init_37 : decode cX3_init 37 = .ok (.aload_n 0, 1) := by decide +kernel
theorem dX3_init_38 : decode cX3_init 38 = .ok (.bipush 8, 2) := by decide +kernel
theorem dX3_init_40 : decode cX3_init 40 = .ok (.newarray .int, 2) := by decide +kernel
theorem dX3_init_42 : decode cX3_init 42 = .ok (.putfield 25, 3) := by decide +kernel
theorem dX3_init_45 : decode cX3_init 45 = .ok (.aload_n 0, 1) := by decide +kernel
theorem dX3_init_46 : decode cX3_init 46 = .ok (.iconst (-1), 1) := by decide +kernel
theorem dX3_init_47 : decode cX3_init 47 = .ok (.putfield 28, 3) := by decide +kernel
theorem dX3_init_50 : decode cX3_init 50 = .ok (.aload_n 0, 1) := by decide +kernel
theorem dX3_init_51 : decode cX3_init 51 = .ok (.aload_n 1, 1) := by decide +kernel
theorem dX3_init_52 : decode cX3_init 52 = .ok (.putfield 32, 3) := by decide +kernel
theorem dX3_init_55 : decode cX3_init 55 = .ok (.aload_n 0, 1) := by decide +kernel
theorem dX3_init_56 : decode cX3_init 56 = .ok (.aload_n 2, 1) := by decide +kernel
theorem dX3_init_57 : decode cX3_init 57 = .ok (.putfield 36, 3) := by decide +kernel
theorem dX3_init_60 : decode cX3_init 60 = .ok (.return_, 1) := by decide +kernel
theorem dX3_isSmallEnough_0 : decode cX3_isSmallEnough 0 = .ok (.aload_n 0, 1) := by decide +kernel
theorem dX3_isSmallEnough_1 : decode cX3_isSmallEnough 1 = .ok (.getfield 32, 3) := by decide +kernel
theorem dX3_isSmallEnough_4 : decode cX3_isSmallEnough 4 = .ok (.getfield 40, 3) := by decide +kernel
theorem dX3_isSmallEnough_7 : decode cX3_isSmallEnough 7 = .ok (.bipush 8, 2) := by decide +kernel
theorem dX3_isSmallEnough_9 : decode cX3_isSmallEnough 9 = .ok (.if_icmp .gt 18, 3) := by decide +kernel
theorem dX3_isSmallEnough_12 : decode cX3_isSmallEnough 12 = .ok (.aload_n 0, 1) := by decide +kernel
theorem dX3_isSmallEnough_13 : decode cX3_isSmallEnough 13 = .ok (.getfield 32, 3) := by decide +kernel
theorem dX3_isSmallEnough_16 : decode cX3_isSmallEnough 16 = .ok (.getfield 45, 3) := by decide +kernel
theorem dX3_isSmallEnough_19 : decode cX3_isSmallEnough 19 = .ok (.iconst 3, 1) := by decide +kernel
theorem dX3_isSmallEnough_20 : decode cX3_isSmallEnough 20 = .ok (.if_icmp .gt 7, 3) := by decide +kernel
theorem dX3_isSmallEnough_23 : decode cX3_isSmallEnough 23 = .ok (.iconst 1, 1) := by decide +kernel
theorem dX3_isSmallEnough_24 : decode cX3_isSmallEnough 24 = .ok (.goto 4, 3) := by decide +kernel
theorem dX3_isSmallEnough_27 : decode cX3_isSmallEnough 27 = .ok (.iconst 0, 1) := by decide +kernel
theorem dX3_isSmallEnough_28 : decode cX3_isSmallEnough 28 = .ok (.ireturn, 1) := by decide +kernel
theorem dX3_findLeast_0 : decode cX3_findLeast 0 = .ok (.iconst 0, 1) := by decide +kernel
theorem dX3_findLeast_1 : decode cX3_findLeast 1 = .ok (.istore_n 2, 1) := by decide +kernel
theorem dX3_findLeast_2 : decode cX3_findLeast 2 = .ok (.iload_n 2, 1) := by decide +kernel
theorem dX3_findLeast_3 : decode cX3_findLeast 3 = .ok (.aload_n 0, 1) := by decide +kernel
theorem dX3_findLeast_4 : decode cX3_findLeast 4 = .ok (.getfield 32, 3) := by decide +kernel
theorem dX3_findLeast_7 : decode cX3_findLeast 7 = .ok (.getfield 45, 3) := by decide +kernel
theorem dX3_findLeast_10 : decode cX3_findLeast 10 = .ok (.if_icmp .ge 34, 3) := by decide +kernel
theorem dX3_findLeast_13 : decode cX3_findLeast 13 = .ok (.iconst 0, 1) := by decide +kernel
theorem dX3_findLeast_14 : decode cX3_findLeast 14 = .ok (.istore_n 3, 1) := by decide +kernel
theorem dX3_findLeast_15 : decode cX3_findLeast 15 = .ok (.iload_n 3, 1) := by decide +kernel
theorem dX3_findLeast_16 : decode cX3_findLeast 16 = .ok (.aload_n 0, 1) := by decide +kernel
theorem dX3_findLeast_17 : decode cX3_findLeast 17 = .ok (.getfield 32, 3) := by decide +kernel
theorem dX3_findLeast_20 : decode cX3_findLeast 20 = .ok (.invokevirtual 48, 3) := by decide +kernel
theorem dX3_findLeast_23 : decode cX3_findLeast 23 = .ok (.if_icmp .ge 15, 3) := by decide +kernel
theorem dX3_findLeast_26 : decode cX3_findLeast 26 = .ok (.aload_n 0, 1) := by decide +kernel
theorem dX3_findLeast_27 : decode cX3_findLeast 27 = .ok (.iload_n 2, 1) := by decide +kernel
theorem dX3_findLeast_28 : decode cX3_findLeast 28 = .ok (.iload_n 3, 1) := by decide +kernel
theorem dX3_findLeast_29 : decode cX3_findLeast 29 = .ok (.invokevirtual 52, 3) := by decide +kernel
theorem dX3_findLeast_32 : decode cX3_findLeast 32 = .ok (.iinc 3 1, 3) := by decide +kernel
theorem dX3_findLeast_35 : decode cX3_findLeast 35 = .ok (.goto (-20), 3) := by decide +kernel
theorem dX3_findLeast_38 : decode cX3_findLeast 38 = .ok (.iinc 2 1, 3) := by decide +kernel
theorem dX3_findLeast_41 : decode cX3_findLeast 41 = .ok (.goto (-39), 3) := by decide +kernel
theorem dX3_findLeast_44 : decode cX3_findLeast 44 = .ok (.aload_n 0, 1) := by decide +kernel
theorem dX3_findLeast_45 : decode cX3_findLeast 45 = .ok (.invokevirtual 56, 3) := by decide +kernel
theorem dX3_findLeast_48 : decode cX3_findLeast 48 = .ok (.aload_n 0, 1) := by decide +kernel
theorem dX3_findLeast_49 : decode cX3_findLeast 49 = .ok (.aload_n 0, 1) := by decide +kernel
theorem dX3_findLeast_50 : decode cX3_findLeast 50 = .ok (.getfield 32, 3) := by decide +kernel
theorem dX3_findLeast_53 : decode cX3_findLeast 53 = .ok (.getfield 40, 3) := by decide +kernel
theorem dX3_findLeast_56 : decode cX3_findLeast 56 = .ok (.putfield 28, 3) := by decide +kernel
theorem dX3_findLeast_59 : decode cX3_findLeast 59 = .ok (.ldc2_w 59, 3) := by decide +kernel
theorem dX3_findLeast_62 : decode cX3_findLeast 62 = .ok (.lstore_n 2, 1) := by decide +kernel
theorem dX3_findLeast_63 : decode cX3_findLeast 63 = .ok (.iconst 1, 1) := by decide +kernel
theorem dX3_findLeast_64 : decode cX3_findLeast 64 = .ok (.istore 4, 2) := by decide +kernel
theorem dX3_findLeast_66 : decode cX3_findLeast 66 = .ok (.iconst 0, 1) := by decide +kernel
theorem dX3_findLeast_67 : decode cX3_findLeast 67 = .ok (.istore 5, 2) := by decide +kernel
theorem dX3_findLeast_69 : decode cX3_findLeast 69 = .ok (.iload 5, 2) := by decide +kernel
theorem dX3_findLeast_71 : decode cX3_findLeast 71 = .ok (.sipush 6561, 3) := by decide +kernel
theorem dX3_findLeast_74 : decode cX3_findLeast 74 = .ok (.if_icmp .ge 63, 3) := by decide +kernel
theorem dX3_findLeast_77 : decode cX3_findLeast 77 = .ok (.iload 4, 2) := by decide +kernel
theorem dX3_findLeast_79 : decode cX3_findLeast 79 = .ok (.ifCond .eq 58, 3) := by decide +kernel
theorem dX3_findLeast_82 : decode cX3_findLeast 82 = .ok (.iload_n 1, 1) := by decide +kernel
theorem dX3_findLeast_83 : decode cX3_findLeast 83 = .ok (.ifCond .ne 10, 3) := by decide +kernel
theorem dX3_findLeast_86 : decode cX3_findLeast 86 = .ok (.aload_n 0, 1) := by decide +kernel
theorem dX3_findLeast_87 : decode cX3_findLeast 87 = .ok (.invokevirtual 61, 3) := by decide +kernel
theorem dX3_findLeast_90 : decode cX3_findLeast 90 = .ok (.goto 8, 3) := by decide +kernel
theorem dX3_findLeast_93 : decode cX3_findLeast 93 = .ok (.aload_n 0, 1) := by decide +kernel
theorem dX3_findLeast_94 : decode cX3_findLeast 94 = .ok (.invokevirtual 65, 3) := by decide +kernel
theorem dX3_findLeast_97 : decode cX3_findLeast 97 = .ok (.i2l, 1) := by decide +kernel
theorem dX3_findLeast_98 : decode cX3_findLeast 98 = .ok (.lstore 6, 2) := by decide +kernel
theorem dX3_findLeast_100 : decode cX3_findLeast 100 = .ok (.lload 6, 2) := by decide +kernel
theorem dX3_findLeast_102 : decode cX3_findLeast 102 = .ok (.lload_n 2, 1) := by decide +kernel
theorem dX3_findLeast_103 : decode cX3_findLeast 103 = .ok (.lcmp, 1) := by decide +kernel
theorem dX3_findLeast_104 : decode cX3_findLeast 104 = .ok (.ifCond .ge 21, 3) := by decide +kernel
theorem dX3_findLeast_107 : decode cX3_findLeast 107 = .ok (.lload 6, 2) := by decide +kernel
theorem dX3_findLeast_109 : decode cX3_findLeast 109 = .ok (.lstore_n 2, 1) := by decide +kernel
theorem dX3_findLeast_110 : decode cX3_findLeast 110 = .ok (.aload_n 0, 1) := by decide +kernel
theorem dX3_findLeast_111 : decode cX3_findLeast 111 = .ok (.getfield 18, 3) := by decide +kernel
theorem dX3_findLeast_114 : decode cX3_findLeast 114 = .ok (.iconst 0, 1) := by decide +kernel
theorem dX3_findLeast_115 : decode cX3_findLeast 115 = .ok (.aload_n 0, 1) := by decide +kernel
theorem dX3_findLeast_116 : decode cX3_findLeast 116 = .ok (.getfield 25, 3) := by decide +kernel
theorem dX3_findLeast_119 : decode cX3_findLeast 119 = .ok (.iconst 0, 1) := by decide +kernel
theorem dX3_findLeast_120 : decode cX3_findLeast 120 = .ok (.bipush 8, 2) := by decide +kernel
theorem dX3_findLeast_122 : decode cX3_findLeast 122 = .ok (.invokestatic 68, 3) := by decide +kernel
theorem dX3_findLeast_125 : decode cX3_findLeast 125 = .ok (.aload_n 0, 1) := by decide +kernel
theorem dX3_findLeast_126 : decode cX3_findLeast 126 = .ok (.invokevirtual 74, 3) := by decide +kernel
theorem dX3_findLeast_129 : decode cX3_findLeast 129 = .ok (.istore 4, 2) := by decide +kernel
theorem dX3_findLeast_131 : decode cX3_findLeast 131 = .ok (.iinc 5 1, 3) := by decide +kernel
theorem dX3_findLeast_134 : decode cX3_findLeast 134 = .ok (.goto (-65), 3) := by decide +kernel
theorem dX3_findLeast_137 : decode cX3_findLeast 137 = .ok (.lload_n 2, 1) := by decide +kernel
theorem dX3_findLeast_138 : decode cX3_findLeast 138 = .ok (.lreturn, 1) := by decide +kernel
theorem dX3_fillHungry_0 : decode cX3_fillHungry 0 = .ok (.aload_n 0, 1) := by decide +kernel
theorem dX3_fillHungry_1 : decode cX3_fillHungry 1 = .ok (.getfield 36, 3) := by decide +kernel
theorem dX3_fillHungry_4 : decode cX3_fillHungry 4 = .ok (.iload_n 1, 1) := by decide +kernel
theorem dX3_fillHungry_5 : decode cX3_fillHungry 5 = .ok (.iload_n 2, 1) := by decide +kernel
theorem dX3_fillHungry_6 : decode cX3_fillHungry 6 = .ok (.iconst 0, 1) := by decide +kernel
theorem dX3_fillHungry_7 : decode cX3_fillHungry 7 = .ok (.invokevirtual 78, 3) := by decide +kernel
theorem dX3_fillHungry_10 : decode cX3_fillHungry 10 = .ok (.lconst 0, 1) := by decide +kernel
theorem dX3_fillHungry_11 : decode cX3_fillHungry 11 = .ok (.lstore_n 3, 1) := by decide +kernel
theorem dX3_fillHungry_12 : decode cX3_fillHungry 12 = .ok (.iconst 0, 1) := by decide +kernel
theorem dX3_fillHungry_13 : decode cX3_fillHungry 13 = .ok (.istore 5, 2) := by decide +kernel
theorem dX3_fillHungry_15 : decode cX3_fillHungry 15 = .ok (.iload 5, 2) := by decide +kernel
theorem dX3_fillHungry_17 : decode cX3_fillHungry 17 = .ok (.aload_n 0, 1) := by decide +kernel
theorem dX3_fillHungry_18 : decode cX3_fillHungry 18 = .ok (.getfield 32, 3) := by decide +kernel
theorem dX3_fillHungry_21 : decode cX3_fillHungry 21 = .ok (.invokevirtual 84, 3) := by decide +kernel
theorem dX3_fillHungry_24 : decode cX3_fillHungry 24 = .ok (.if_icmp .ge 53, 3) := by decide +kernel
theorem dX3_fillHungry_27 : decode cX3_fillHungry 27 = .ok (.aload_n 0, 1) := by decide +kernel
theorem dX3_fillHungry_28 : decode cX3_fillHungry 28 = .ok (.getfield 36, 3) := by decide +kernel
theorem dX3_fillHungry_31 : decode cX3_fillHungry 31 = .ok (.getfield 87, 3) := by decide +kernel
theorem dX3_fillHungry_34 : decode cX3_fillHungry 34 = .ok (.iload 5, 2) := by decide +kernel
theorem dX3_fillHungry_36 : decode cX3_fillHungry 36 = .ok (.iaload, 1) := by decide +kernel
theorem dX3_fillHungry_37 : decode cX3_fillHungry 37 = .ok (.aload_n 0, 1) := by decide +kernel
theorem dX3_fillHungry_38 : decode cX3_fillHungry 38 = .ok (.getfield 32, 3) := by decide +kernel
theorem dX3_fillHungry_41 : decode cX3_fillHungry 41 = .ok (.getfield 90, 3) := by decide +kernel
theorem dX3_fillHungry_44 : decode cX3_fillHungry 44 = .ok (.iload_n 1, 1) := by decide +kernel
theorem dX3_fillHungry_45 : decode cX3_fillHungry 45 = .ok (.iaload, 1) := by decide +kernel
theorem dX3_fillHungry_46 : decode cX3_fillHungry 46 = .ok (.if_icmp .ge 25, 3) := by decide +kernel
theorem dX3_fillHungry_49 : decode cX3_fillHungry 49 = .ok (.aload_n 0, 1) := by decide +kernel
theorem dX3_fillHungry_50 : decode cX3_fillHungry 50 = .ok (.getfield 36, 3) := by decide +kernel
theorem dX3_fillHungry_53 : decode cX3_fillHungry 53 = .ok (.getfield 93, 3) := by decide +kernel
theorem dX3_fillHungry_56 : decode cX3_fillHungry 56 = .ok (.iload 5, 2) := by decide +kernel
theorem dX3_fillHungry_58 : decode cX3_fillHungry 58 = .ok (.laload, 1) := by decide +kernel
theorem dX3_fillHungry_59 : decode cX3_fillHungry 59 = .ok (.lconst 0, 1) := by decide +kernel
theorem dX3_fillHungry_60 : decode cX3_fillHungry 60 = .ok (.lcmp, 1) := by decide +kernel
theorem dX3_fillHungry_61 : decode cX3_fillHungry 61 = .ok (.ifCond .le 10, 3) := by decide +kernel
theorem dX3_fillHungry_64 : decode cX3_fillHungry 64 = .ok (.lload_n 3, 1) := by decide +kernel
theorem dX3_fillHungry_65 : decode cX3_fillHungry 65 = .ok (.lconst 1, 1) := by decide +kernel
theorem dX3_fillHungry_66 : decode cX3_fillHungry 66 = .ok (.iload 5, 2) := by decide +kernel
theorem dX3_fillHungry_68 : decode cX3_fillHungry 68 = .ok (.lshl, 1) := by decide +kernel
theorem dX3_fillHungry_69 : decode cX3_fillHungry 69 = .ok (.lor, 1) := by decide +kernel
theorem dX3_fillHungry_70 : decode cX3_fillHungry 70 = .ok (.lstore_n 3, 1) := by decide +kernel
theorem dX3_fillHungry_71 : decode cX3_fillHungry 71 = .ok (.iinc 5 1, 3) := by decide +kernel
theorem dX3_fillHungry_74 : decode cX3_fillHungry 74 = .ok (.goto (-59), 3) := by decide +kernel
theorem dX3_fillHungry_77 : decode cX3_fillHungry 77 = .ok (.aload_n 0, 1) := by decide +kernel
theorem dX3_fillHungry_78 : decode cX3_fillHungry 78 = .ok (.getfield 11, 3) := by decide +kernel
theorem dX3_fillHungry_81 : decode cX3_fillHungry 81 = .ok (.iload_n 1, 1) := by decide +kernel
theorem dX3_fillHungry_82 : decode cX3_fillHungry 82 = .ok (.sipush 256, 3) := by decide +kernel
theorem dX3_fillHungry_85 : decode cX3_fillHungry 85 = .ok (.imul, 1) := by decide +kernel
theorem dX3_fillHungry_86 : decode cX3_fillHungry 86 = .ok (.iload_n 2, 1) := by decide +kernel
theorem dX3_fillHungry_87 : decode cX3_fillHungry 87 = .ok (.iadd, 1) := by decide +kernel
theorem dX3_fillHungry_88 : decode cX3_fillHungry 88 = .ok (.lload_n 3, 1) := by decide +kernel
theorem dX3_fillHungry_89 : decode cX3_fillHungry 89 = .ok (.lastore, 1) := by decide +kernel
theorem dX3_fillHungry_90 : decode cX3_fillHungry 90 = .ok (.aload_n 0, 1) := by decide +kernel
theorem dX3_fillHungry_91 : decode cX3_fillHungry 91 = .ok (.getfield 15, 3) := by decide +kernel
theorem dX3_fillHungry_94 : decode cX3_fillHungry 94 = .ok (.iload_n 1, 1) := by decide +kernel
theorem dX3_fillHungry_95 : decode cX3_fillHungry 95 = .ok (.sipush 256, 3) := by decide +kernel
theorem dX3_fillHungry_98 : decode cX3_fillHungry 98 = .ok (.imul, 1) := by decide +kernel
theorem dX3_fillHungry_99 : decode cX3_fillHungry 99 = .ok (.iload_n 2, 1) := by decide +kernel
theorem dX3_fillHungry_100 : decode cX3_fillHungry 100 = .ok (.iadd, 1) := by decide +kernel
theorem dX3_fillHungry_101 : decode cX3_fillHungry 101 = .ok (.aload_n 0, 1) := by decide +kernel
theorem dX3_fillHungry_102 : decode cX3_fillHungry 102 = .ok (.getfield 36, 3) := by decide +kernel
theorem dX3_fillHungry_105 : decode cX3_fillHungry 105 = .ok (.aload_n 0, 1) := by decide +kernel
theorem dX3_fillHungry_106 : decode cX3_fillHungry 106 = .ok (.getfield 32, 3) := by decide +kernel
theorem dX3_fillHungry_109 : decode cX3_fillHungry 109 = .ok (.getfield 90, 3) := by decide +kernel
theorem dX3_fillHungry_112 : decode cX3_fillHungry 112 = .ok (.iload_n 1, 1) := by decide +kernel
theorem dX3_fillHungry_113 : decode cX3_fillHungry 113 = .ok (.iaload, 1) := by decide +kernel
theorem dX3_fillHungry_114 : decode cX3_fillHungry 114 = .ok (.iconst 1, 1) := by decide +kernel
theorem dX3_fillHungry_115 : decode cX3_fillHungry 115 = .ok (.isub, 1) := by decide +kernel
theorem dX3_fillHungry_116 : decode cX3_fillHungry 116 = .ok (.invokevirtual 96, 3) := by decide +kernel
theorem dX3_fillHungry_119 : decode cX3_fillHungry 119 = .ok (.lastore, 1) := by decide +kernel
theorem dX3_fillHungry_120 : decode cX3_fillHungry 120 = .ok (.return_, 1) := by decide +kernel
theorem dX3_startWays_0 : decode cX3_startWays 0 = .ok (.iconst 0, 1) := by decide +kernel
theorem dX3_startWays_1 : decode cX3_startWays 1 = .ok (.istore_n 1, 1) := by decide +kernel
theorem dX3_startWays_2 : decode cX3_startWays 2 = .ok (.iload_n 1, 1) := by decide +kernel
theorem dX3_startWays_3 : decode cX3_startWays 3 = .ok (.bipush 8, 2) := by decide +kernel
theorem dX3_startWays_5 : decode cX3_startWays 5 = .ok (.if_icmp .ge 16, 3) := by decide +kernel
theorem dX3_startWays_8 : decode cX3_startWays 8 = .ok (.aload_n 0, 1) := by decide +kernel
theorem dX3_startWays_9 : decode cX3_startWays 9 = .ok (.getfield 18, 3) := by decide +kernel
theorem dX3_startWays_12 : decode cX3_startWays 12 = .ok (.iload_n 1, 1) := by decide +kernel
theorem dX3_startWays_13 : decode cX3_startWays 13 = .ok (.iconst 0, 1) := by decide +kernel
theorem dX3_startWays_14 : decode cX3_startWays 14 = .ok (.iastore, 1) := by decide +kernel
theorem dX3_startWays_15 : decode cX3_startWays 15 = .ok (.iinc 1 1, 3) := by decide +kernel
theorem dX3_startWays_18 : decode cX3_startWays 18 = .ok (.goto (-16), 3) := by decide +kernel
theorem dX3_startWays_21 : decode cX3_startWays 21 = .ok (.iconst 0, 1) := by decide +kernel
theorem dX3_startWays_22 : decode cX3_startWays 22 = .ok (.istore_n 1, 1) := by decide +kernel
theorem dX3_startWays_23 : decode cX3_startWays 23 = .ok (.iload_n 1, 1) := by decide +kernel
theorem dX3_startWays_24 : decode cX3_startWays 24 = .ok (.iconst 3, 1) := by decide +kernel
theorem dX3_startWays_25 : decode cX3_startWays 25 = .ok (.if_icmp .ge 16, 3) := by decide +kernel
theorem dX3_startWays_28 : decode cX3_startWays 28 = .ok (.aload_n 0, 1) := by decide +kernel
theorem dX3_startWays_29 : decode cX3_startWays 29 = .ok (.getfield 22, 3) := by decide +kernel
theorem dX3_startWays_32 : decode cX3_startWays 32 = .ok (.iload_n 1, 1) := by decide +kernel
theorem dX3_startWays_33 : decode cX3_startWays 33 = .ok (.iconst 0, 1) := by decide +kernel
theorem dX3_startWays_34 : decode cX3_startWays 34 = .ok (.iastore, 1) := by decide +kernel
theorem dX3_startWays_35 : decode cX3_startWays 35 = .ok (.iinc 1 1, 3) := by decide +kernel
theorem dX3_startWays_38 : decode cX3_startWays 38 = .ok (.goto (-15), 3) := by decide +kernel
theorem dX3_startWays_41 : decode cX3_startWays 41 = .ok (.aload_n 0, 1) := by decide +kernel
theorem dX3_startWays_42 : decode cX3_startWays 42 = .ok (.getfield 22, 3) := by decide +kernel
theorem dX3_startWays_45 : decode cX3_startWays 45 = .ok (.iconst 0, 1) := by decide +kernel
theorem dX3_startWays_46 : decode cX3_startWays 46 = .ok (.aload_n 0, 1) := by decide +kernel
theorem dX3_startWays_47 : decode cX3_startWays 47 = .ok (.getfield 32, 3) := by decide +kernel
theorem dX3_startWays_50 : decode cX3_startWays 50 = .ok (.invokevirtual 48, 3) := by decide +kernel
theorem dX3_startWays_53 : decode cX3_startWays 53 = .ok (.iconst 1, 1) := by decide +kernel
theorem dX3_startWays_54 : decode cX3_startWays 54 = .ok (.isub, 1) := by decide +kernel
theorem dX3_startWays_55 : decode cX3_startWays 55 = .ok (.iastore, 1) := by decide +kernel
theorem dX3_startWays_56 : decode cX3_startWays 56 = .ok (.return_, 1) := by decide +kernel
theorem dX3_turnToNextWay_0 : decode cX3_turnToNextWay 0 = .ok (.aload_n 0, 1) := by decide +kernel
theorem dX3_turnToNextWay_1 : decode cX3_turnToNextWay 1 = .ok (.getfield 32, 3) := by decide +kernel
theorem dX3_turnToNextWay_4 : decode cX3_turnToNextWay 4 = .ok (.getfield 40, 3) := by decide +kernel
theorem dX3_turnToNextWay_7 : decode cX3_turnToNextWay 7 = .ok (.iconst 1, 1) := by decide +kernel
theorem dX3_turnToNextWay_8 : decode cX3_turnToNextWay 8 = .ok (.isub, 1) := by decide +kernel
theorem dX3_turnToNextWay_9 : decode cX3_turnToNextWay 9 = .ok (.istore_n 1, 1) := by decide +kernel
theorem dX3_turnToNextWay_10 : decode cX3_turnToNextWay 10 = .ok (.iload_n 1, 1) := by decide +kernel
theorem dX3_turnToNextWay_11 : decode cX3_turnToNextWay 11 = .ok (.ifCond .lt 76, 3) := by decide +kernel
theorem dX3_turnToNextWay_14 : decode cX3_turnToNextWay 14 = .ok (.aload_n 0, 1) := by decide +kernel
theorem dX3_turnToNextWay_15 : decode cX3_turnToNextWay 15 = .ok (.getfield 18, 3) := by decide +kernel
theorem dX3_turnToNextWay_18 : decode cX3_turnToNextWay 18 = .ok (.iload_n 1, 1) := by decide +kernel
theorem dX3_turnToNextWay_19 : decode cX3_turnToNextWay 19 = .ok (.iaload, 1) := by decide +kernel
theorem dX3_turnToNextWay_20 : decode cX3_turnToNextWay 20 = .ok (.istore_n 2, 1) := by decide +kernel
theorem dX3_turnToNextWay_21 : decode cX3_turnToNextWay 21 = .ok (.iload_n 2, 1) := by decide +kernel
theorem dX3_turnToNextWay_22 : decode cX3_turnToNextWay 22 = .ok (.iconst 1, 1) := by decide +kernel
theorem dX3_turnToNextWay_23 : decode cX3_turnToNextWay 23 = .ok (.iadd, 1) := by decide +kernel
theorem dX3_turnToNextWay_24 : decode cX3_turnToNextWay 24 = .ok (.aload_n 0, 1) := by decide +kernel
theorem dX3_turnToNextWay_25 : decode cX3_turnToNextWay 25 = .ok (.getfield 32, 3) := by decide +kernel
theorem dX3_turnToNextWay_28 : decode cX3_turnToNextWay 28 = .ok (.getfield 45, 3) := by decide +kernel
theorem dX3_turnToNextWay_31 : decode cX3_turnToNextWay 31 = .ok (.if_icmp .ge 9, 3) := by decide +kernel
theorem dX3_turnToNextWay_34 : decode cX3_turnToNextWay 34 = .ok (.iload_n 2, 1) := by decide +kernel
theorem dX3_turnToNextWay_35 : decode cX3_turnToNextWay 35 = .ok (.iconst 1, 1) := by decide +kernel
theorem dX3_turnToNextWay_36 : decode cX3_turnToNextWay 36 = .ok (.iadd, 1) := by decide +kernel
theorem dX3_turnToNextWay_37 : decode cX3_turnToNextWay 37 = .ok (.goto 4, 3) := by decide +kernel
theorem dX3_turnToNextWay_40 : decode cX3_turnToNextWay 40 = .ok (.iconst 0, 1) := by decide +kernel
theorem dX3_turnToNextWay_41 : decode cX3_turnToNextWay 41 = .ok (.istore_n 3, 1) := by decide +kernel
theorem dX3_turnToNextWay_42 : decode cX3_turnToNextWay 42 = .ok (.aload_n 0, 1) := by decide +kernel
theorem dX3_turnToNextWay_43 : decode cX3_turnToNextWay 43 = .ok (.getfield 18, 3) := by decide +kernel
theorem dX3_turnToNextWay_46 : decode cX3_turnToNextWay 46 = .ok (.iload_n 1, 1) := by decide +kernel
theorem dX3_turnToNextWay_47 : decode cX3_turnToNextWay 47 = .ok (.iload_n 3, 1) := by decide +kernel
theorem dX3_turnToNextWay_48 : decode cX3_turnToNextWay 48 = .ok (.iastore, 1) := by decide +kernel
theorem dX3_turnToNextWay_49 : decode cX3_turnToNextWay 49 = .ok (.aload_n 0, 1) := by decide +kernel
theorem dX3_turnToNextWay_50 : decode cX3_turnToNextWay 50 = .ok (.getfield 22, 3) := by decide +kernel
theorem dX3_turnToNextWay_53 : decode cX3_turnToNextWay 53 = .ok (.iload_n 2, 1) := by decide +kernel
theorem dX3_turnToNextWay_54 : decode cX3_turnToNextWay 54 = .ok (.dup2, 1) := by decide +kernel
theorem dX3_turnToNextWay_55 : decode cX3_turnToNextWay 55 = .ok (.iaload, 1) := by decide +kernel
theorem dX3_turnToNextWay_56 : decode cX3_turnToNextWay 56 = .ok (.iconst 1, 1) := by decide +kernel
theorem dX3_turnToNextWay_57 : decode cX3_turnToNextWay 57 = .ok (.iload_n 1, 1) := by decide +kernel
theorem dX3_turnToNextWay_58 : decode cX3_turnToNextWay 58 = .ok (.ishl, 1) := by decide +kernel
theorem dX3_turnToNextWay_59 : decode cX3_turnToNextWay 59 = .ok (.iconst (-1), 1) := by decide +kernel
theorem dX3_turnToNextWay_60 : decode cX3_turnToNextWay 60 = .ok (.ixor, 1) := by decide +kernel
theorem dX3_turnToNextWay_61 : decode cX3_turnToNextWay 61 = .ok (.iand, 1) := by decide +kernel
theorem dX3_turnToNextWay_62 : decode cX3_turnToNextWay 62 = .ok (.iastore, 1) := by decide +kernel
theorem dX3_turnToNextWay_63 : decode cX3_turnToNextWay 63 = .ok (.aload_n 0, 1) := by decide +kernel
theorem dX3_turnToNextWay_64 : decode cX3_turnToNextWay 64 = .ok (.getfield 22, 3) := by decide +kernel
theorem dX3_turnToNextWay_67 : decode cX3_turnToNextWay 67 = .ok (.iload_n 3, 1) := by decide +kernel
theorem dX3_turnToNextWay_68 : decode cX3_turnToNextWay 68 = .ok (.dup2, 1) := by decide +kernel
theorem dX3_turnToNextWay_69 : decode cX3_turnToNextWay 69 = .ok (.iaload, 1) := by decide +kernel
theorem dX3_turnToNextWay_70 : decode cX3_turnToNextWay 70 = .ok (.iconst 1, 1) := by decide +kernel
theorem dX3_turnToNextWay_71 : decode cX3_turnToNextWay 71 = .ok (.iload_n 1, 1) := by decide +kernel
theorem dX3_turnToNextWay_72 : decode cX3_turnToNextWay 72 = .ok (.ishl, 1) := by decide +kernel
theorem dX3_turnToNextWay_73 : decode cX3_turnToNextWay 73 = .ok (.ior, 1) := by decide +kernel
theorem dX3_turnToNextWay_74 : decode cX3_turnToNextWay 74 = .ok (.iastore, 1) := by decide +kernel
theorem dX3_turnToNextWay_75 : decode cX3_turnToNextWay 75 = .ok (.iload_n 3, 1) := by decide +kernel
theorem dX3_turnToNextWay_76 : decode cX3_turnToNextWay 76 = .ok (.ifCond .eq 5, 3) := by decide +kernel
theorem dX3_turnToNextWay_79 : decode cX3_turnToNextWay 79 = .ok (.iconst 1, 1) := by decide +kernel
theorem dX3_turnToNextWay_80 : decode cX3_turnToNextWay 80 = .ok (.ireturn, 1) := by decide +kernel
theorem dX3_turnToNextWay_81 : decode cX3_turnToNextWay 81 = .ok (.iinc 1 (-1), 3) := by decide +kernel
theorem dX3_turnToNextWay_84 : decode cX3_turnToNextWay 84 = .ok (.goto (-74), 3) := by decide +kernel
theorem dX3_turnToNextWay_87 : decode cX3_turnToNextWay 87 = .ok (.iconst 0, 1) := by decide +kernel
theorem dX3_turnToNextWay_88 : decode cX3_turnToNextWay 88 = .ok (.ireturn, 1) := by decide +kernel
theorem dX3_weightOfWay_0 : decode cX3_weightOfWay 0 = .ok (.lconst 0, 1) := by decide +kernel
theorem dX3_weightOfWay_1 : decode cX3_weightOfWay 1 = .ok (.lstore_n 1, 1) := by decide +kernel
theorem dX3_weightOfWay_2 : decode cX3_weightOfWay 2 = .ok (.iconst 0, 1) := by decide +kernel
theorem dX3_weightOfWay_3 : decode cX3_weightOfWay 3 = .ok (.istore_n 3, 1) := by decide +kernel
theorem dX3_weightOfWay_4 : decode cX3_weightOfWay 4 = .ok (.iload_n 3, 1) := by decide +kernel
theorem dX3_weightOfWay_5 : decode cX3_weightOfWay 5 = .ok (.aload_n 0, 1) := by decide +kernel
theorem dX3_weightOfWay_6 : decode cX3_weightOfWay 6 = .ok (.getfield 32, 3) := by decide +kernel
theorem dX3_weightOfWay_9 : decode cX3_weightOfWay 9 = .ok (.getfield 45, 3) := by decide +kernel
theorem dX3_weightOfWay_12 : decode cX3_weightOfWay 12 = .ok (.if_icmp .ge 29, 3) := by decide +kernel
theorem dX3_weightOfWay_15 : decode cX3_weightOfWay 15 = .ok (.lload_n 1, 1) := by decide +kernel
theorem dX3_weightOfWay_16 : decode cX3_weightOfWay 16 = .ok (.aload_n 0, 1) := by decide +kernel
theorem dX3_weightOfWay_17 : decode cX3_weightOfWay 17 = .ok (.getfield 15, 3) := by decide +kernel
theorem dX3_weightOfWay_20 : decode cX3_weightOfWay 20 = .ok (.iload_n 3, 1) := by decide +kernel
theorem dX3_weightOfWay_21 : decode cX3_weightOfWay 21 = .ok (.sipush 256, 3) := by decide +kernel
theorem dX3_weightOfWay_24 : decode cX3_weightOfWay 24 = .ok (.imul, 1) := by decide +kernel
theorem dX3_weightOfWay_25 : decode cX3_weightOfWay 25 = .ok (.aload_n 0, 1) := by decide +kernel
theorem dX3_weightOfWay_26 : decode cX3_weightOfWay 26 = .ok (.getfield 22, 3) := by decide +kernel
theorem dX3_weightOfWay_29 : decode cX3_weightOfWay 29 = .ok (.iload_n 3, 1) := by decide +kernel
theorem dX3_weightOfWay_30 : decode cX3_weightOfWay 30 = .ok (.iaload, 1) := by decide +kernel
theorem dX3_weightOfWay_31 : decode cX3_weightOfWay 31 = .ok (.iadd, 1) := by decide +kernel
theorem dX3_weightOfWay_32 : decode cX3_weightOfWay 32 = .ok (.laload, 1) := by decide +kernel
theorem dX3_weightOfWay_33 : decode cX3_weightOfWay 33 = .ok (.ladd, 1) := by decide +kernel
theorem dX3_weightOfWay_34 : decode cX3_weightOfWay 34 = .ok (.lstore_n 1, 1) := by decide +kernel
theorem dX3_weightOfWay_35 : decode cX3_weightOfWay 35 = .ok (.iinc 3 1, 3) := by decide +kernel
theorem dX3_weightOfWay_38 : decode cX3_weightOfWay 38 = .ok (.goto (-34), 3) := by decide +kernel
theorem dX3_weightOfWay_41 : decode cX3_weightOfWay 41 = .ok (.lload_n 1, 1) := by decide +kernel
theorem dX3_weightOfWay_42 : decode cX3_weightOfWay 42 = .ok (.lreturn, 1) := by decide +kernel
theorem dX3_worstOfWay_0 : decode cX3_worstOfWay 0 = .ok (.lconst 0, 1) := by decide +kernel
theorem dX3_worstOfWay_1 : decode cX3_worstOfWay 1 = .ok (.lstore_n 1, 1) := by decide +kernel
theorem dX3_worstOfWay_2 : decode cX3_worstOfWay 2 = .ok (.lconst 0, 1) := by decide +kernel
theorem dX3_worstOfWay_3 : decode cX3_worstOfWay 3 = .ok (.lstore_n 3, 1) := by decide +kernel
theorem dX3_worstOfWay_4 : decode cX3_worstOfWay 4 = .ok (.lconst 0, 1) := by decide +kernel
theorem dX3_worstOfWay_5 : decode cX3_worstOfWay 5 = .ok (.lstore 5, 2) := by decide +kernel
theorem dX3_worstOfWay_7 : decode cX3_worstOfWay 7 = .ok (.iconst 0, 1) := by decide +kernel
theorem dX3_worstOfWay_8 : decode cX3_worstOfWay 8 = .ok (.istore 7, 2) := by decide +kernel
theorem dX3_worstOfWay_10 : decode cX3_worstOfWay 10 = .ok (.iload 7, 2) := by decide +kernel
theorem dX3_worstOfWay_12 : decode cX3_worstOfWay 12 = .ok (.aload_n 0, 1) := by decide +kernel
theorem dX3_worstOfWay_13 : decode cX3_worstOfWay 13 = .ok (.getfield 32, 3) := by decide +kernel
theorem dX3_worstOfWay_16 : decode cX3_worstOfWay 16 = .ok (.getfield 45, 3) := by decide +kernel
theorem dX3_worstOfWay_19 : decode cX3_worstOfWay 19 = .ok (.if_icmp .ge 51, 3) := by decide +kernel
theorem dX3_worstOfWay_22 : decode cX3_worstOfWay 22 = .ok (.aload_n 0, 1) := by decide +kernel
theorem dX3_worstOfWay_23 : decode cX3_worstOfWay 23 = .ok (.getfield 11, 3) := by decide +kernel
theorem dX3_worstOfWay_26 : decode cX3_worstOfWay 26 = .ok (.iload 7, 2) := by decide +kernel
theorem dX3_worstOfWay_28 : decode cX3_worstOfWay 28 = .ok (.sipush 256, 3) := by decide +kernel
theorem dX3_worstOfWay_31 : decode cX3_worstOfWay 31 = .ok (.imul, 1) := by decide +kernel
theorem dX3_worstOfWay_32 : decode cX3_worstOfWay 32 = .ok (.aload_n 0, 1) := by decide +kernel
theorem dX3_worstOfWay_33 : decode cX3_worstOfWay 33 = .ok (.getfield 22, 3) := by decide +kernel
theorem dX3_worstOfWay_36 : decode cX3_worstOfWay 36 = .ok (.iload 7, 2) := by decide +kernel
theorem dX3_worstOfWay_38 : decode cX3_worstOfWay 38 = .ok (.iaload, 1) := by decide +kernel
theorem dX3_worstOfWay_39 : decode cX3_worstOfWay 39 = .ok (.iadd, 1) := by decide +kernel
theorem dX3_worstOfWay_40 : decode cX3_worstOfWay 40 = .ok (.laload, 1) := by decide +kernel
theorem dX3_worstOfWay_41 : decode cX3_worstOfWay 41 = .ok (.lstore 8, 2) := by decide +kernel
theorem dX3_worstOfWay_43 : decode cX3_worstOfWay 43 = .ok (.lload 5, 2) := by decide +kernel
theorem dX3_worstOfWay_45 : decode cX3_worstOfWay 45 = .ok (.lload_n 3, 1) := by decide +kernel
theorem dX3_worstOfWay_46 : decode cX3_worstOfWay 46 = .ok (.lload 8, 2) := by decide +kernel
theorem dX3_worstOfWay_48 : decode cX3_worstOfWay 48 = .ok (.land, 1) := by decide +kernel
theorem dX3_worstOfWay_49 : decode cX3_worstOfWay 49 = .ok (.lor, 1) := by decide +kernel
theorem dX3_worstOfWay_50 : decode cX3_worstOfWay 50 = .ok (.lstore 5, 2) := by decide +kernel
theorem dX3_worstOfWay_52 : decode cX3_worstOfWay 52 = .ok (.lload_n 3, 1) := by decide +kernel
theorem dX3_worstOfWay_53 : decode cX3_worstOfWay 53 = .ok (.lload_n 1, 1) := by decide +kernel
theorem dX3_worstOfWay_54 : decode cX3_worstOfWay 54 = .ok (.lload 8, 2) := by decide +kernel
theorem dX3_worstOfWay_56 : decode cX3_worstOfWay 56 = .ok (.land, 1) := by decide +kernel
theorem dX3_worstOfWay_57 : decode cX3_worstOfWay 57 = .ok (.lor, 1) := by decide +kernel
theorem dX3_worstOfWay_58 : decode cX3_worstOfWay 58 = .ok (.lstore_n 3, 1) := by decide +kernel
theorem dX3_worstOfWay_59 : decode cX3_worstOfWay 59 = .ok (.lload_n 1, 1) := by decide +kernel
theorem dX3_worstOfWay_60 : decode cX3_worstOfWay 60 = .ok (.lload 8, 2) := by decide +kernel
theorem dX3_worstOfWay_62 : decode cX3_worstOfWay 62 = .ok (.lor, 1) := by decide +kernel
theorem dX3_worstOfWay_63 : decode cX3_worstOfWay 63 = .ok (.lstore_n 1, 1) := by decide +kernel
theorem dX3_worstOfWay_64 : decode cX3_worstOfWay 64 = .ok (.iinc 7 1, 3) := by decide +kernel
theorem dX3_worstOfWay_67 : decode cX3_worstOfWay 67 = .ok (.goto (-57), 3) := by decide +kernel
theorem dX3_worstOfWay_70 : decode cX3_worstOfWay 70 = .ok (.lload 5, 2) := by decide +kernel
theorem dX3_worstOfWay_72 : decode cX3_worstOfWay 72 = .ok (.lconst 0, 1) := by decide +kernel
theorem dX3_worstOfWay_73 : decode cX3_worstOfWay 73 = .ok (.lcmp, 1) := by decide +kernel
theorem dX3_worstOfWay_74 : decode cX3_worstOfWay 74 = .ok (.ifCond .eq 5, 3) := by decide +kernel
theorem dX3_worstOfWay_77 : decode cX3_worstOfWay 77 = .ok (.iconst 3, 1) := by decide +kernel
theorem dX3_worstOfWay_78 : decode cX3_worstOfWay 78 = .ok (.ireturn, 1) := by decide +kernel
theorem dX3_worstOfWay_79 : decode cX3_worstOfWay 79 = .ok (.lload_n 3, 1) := by decide +kernel
theorem dX3_worstOfWay_80 : decode cX3_worstOfWay 80 = .ok (.lconst 0, 1) := by decide +kernel
theorem dX3_worstOfWay_81 : decode cX3_worstOfWay 81 = .ok (.lcmp, 1) := by decide +kernel
theorem dX3_worstOfWay_82 : decode cX3_worstOfWay 82 = .ok (.ifCond .eq 5, 3) := by decide +kernel
theorem dX3_worstOfWay_85 : decode cX3_worstOfWay 85 = .ok (.iconst 2, 1) := by decide +kernel
theorem dX3_worstOfWay_86 : decode cX3_worstOfWay 86 = .ok (.ireturn, 1) := by decide +kernel
theorem dX3_worstOfWay_87 : decode cX3_worstOfWay 87 = .ok (.lload_n 1, 1) := by decide +kernel
theorem dX3_worstOfWay_88 : decode cX3_worstOfWay 88 = .ok (.lconst 0, 1) := by decide +kernel
theorem dX3_worstOfWay_89 : decode cX3_worstOfWay 89 = .ok (.lcmp, 1) := by decide +kernel
theorem dX3_worstOfWay_90 : decode cX3_worstOfWay 90 = .ok (.ifCond .eq 7, 3) := by decide +kernel
theorem dX3_worstOfWay_93 : decode cX3_worstOfWay 93 = .ok (.iconst 1, 1) := by decide +kernel
theorem dX3_worstOfWay_94 : decode cX3_worstOfWay 94 = .ok (.goto 4, 3) := by decide +kernel
theorem dX3_worstOfWay_97 : decode cX3_worstOfWay 97 = .ok (.iconst 0, 1) := by decide +kernel
theorem dX3_worstOfWay_98 : decode cX3_worstOfWay 98 = .ok (.ireturn, 1) := by decide +kernel
theorem dX4_init_0 : decode cX4_init 0 = .ok (.aload_n 0, 1) := by decide +kernel
theorem dX4_init_1 : decode cX4_init 1 = .ok (.invokespecial 3, 3) := by decide +kernel
theorem dX4_init_4 : decode cX4_init 4 = .ok (.aload_n 0, 1) := by decide +kernel
theorem dX4_init_5 : decode cX4_init 5 = .ok (.iconst 3, 1) := by decide +kernel
theorem dX4_init_6 : decode cX4_init 6 = .ok (.newarray .int, 2) := by decide +kernel
theorem dX4_init_8 : decode cX4_init 8 = .ok (.putfield 9, 3) := by decide +kernel
theorem dX4_init_11 : decode cX4_init 11 = .ok (.aload_n 0, 1) := by decide +kernel
theorem dX4_init_12 : decode cX4_init 12 = .ok (.iconst 4, 1) := by decide +kernel
theorem dX4_init_13 : decode cX4_init 13 = .ok (.newarray .int, 2) := by decide +kernel
theorem dX4_init_15 : decode cX4_init 15 = .ok (.putfield 15, 3) := by decide +kernel
theorem dX4_init_18 : decode cX4_init 18 = .ok (.aload_n 0, 1) := by decide +kernel
theorem dX4_init_19 : decode cX4_init 19 = .ok (.iconst 4, 1) := by decide +kernel
theorem dX4_init_20 : decode cX4_init 20 = .ok (.newarray .long, 2) := by decide +kernel
theorem dX4_init_22 : decode cX4_init 22 = .ok (.putfield 18, 3) := by decide +kernel
theorem dX4_init_25 : decode cX4_init 25 = .ok (.aload_n 0, 1) := by decide +kernel
theorem dX4_init_26 : decode cX4_init 26 = .ok (.aload_n 1, 1) := by decide +kernel
theorem dX4_init_27 : decode cX4_init 27 = .ok (.putfield 22, 3) := by decide +kernel
theorem dX4_init_30 : decode cX4_init 30 = .ok (.aload_n 0, 1) := by decide +kernel
theorem dX4_init_31 : decode cX4_init 31 = .ok (.aload_n 2, 1) := by decide +kernel
theorem dX4_init_32 : decode cX4_init 32 = .ok (.putfield 26, 3) := by decide +kernel
theorem dX4_init_35 : decode cX4_init 35 = .ok (.return_, 1) := by decide +kernel
theorem dX4_look_0 : decode cX4_look 0 = .ok (.aload_n 0, 1) := by decide +kernel
theorem dX4_look_1 : decode cX4_look 1 = .ok (.getfield 15, 3) := by decide +kernel
theorem dX4_look_4 : decode cX4_look 4 = .ok (.iload_n 1, 1) := by decide +kernel
theorem dX4_look_5 : decode cX4_look 5 = .ok (.aload_n 0, 1) := by decide +kernel
theorem dX4_look_6 : decode cX4_look 6 = .ok (.getfield 22, 3) := by decide +kernel
theorem dX4_look_9 : decode cX4_look 9 = .ok (.iload_n 1, 1) := by decide +kernel
theorem dX4_look_10 : decode cX4_look 10 = .ok (.invokevirtual 30, 3) := by decide +kernel
theorem dX4_look_13 : decode cX4_look 13 = .ok (.iastore, 1) := by decide +kernel
theorem dX4_look_14 : decode cX4_look 14 = .ok (.aload_n 0, 1) := by decide +kernel
theorem dX4_look_15 : decode cX4_look 15 = .ok (.getfield 18, 3) := by decide +kernel
theorem dX4_look_18 : decode cX4_look 18 = .ok (.iload_n 1, 1) := by decide +kernel
theorem dX4_look_19 : decode cX4_look 19 = .ok (.aload_n 0, 1) := by decide +kernel
theorem dX4_look_20 : decode cX4_look 20 = .ok (.getfield 26, 3) := by decide +kernel
theorem dX4_look_23 : decode cX4_look 23 = .ok (.iload_n 1, 1) := by decide +kernel
theorem dX4_look_24 : decode cX4_look 24 = .ok (.aload_n 0, 1) := by decide +kernel
theorem dX4_look_25 : decode cX4_look 25 = .ok (.getfield 15, 3) := by decide +kernel
theorem dX4_look_28 : decode cX4_look 28 = .ok (.iload_n 1, 1) := by decide +kernel
theorem dX4_look_29 : decode cX4_look 29 = .ok (.iaload, 1) := by decide +kernel
theorem dX4_look_30 : decode cX4_look 30 = .ok (.invokevirtual 36, 3) := by decide +kernel
theorem dX4_look_33 : decode cX4_look 33 = .ok (.lastore, 1) := by decide +kernel
theorem dX4_look_34 : decode cX4_look 34 = .ok (.return_, 1) := by decide +kernel
theorem dX4_holds_0 : decode cX4_holds 0 = .ok (.aload_n 0, 1) := by decide +kernel
theorem dX4_holds_1 : decode cX4_holds 1 = .ok (.getfield 15, 3) := by decide +kernel
theorem dX4_holds_4 : decode cX4_holds 4 = .ok (.iload_n 1, 1) := by decide +kernel
theorem dX4_holds_5 : decode cX4_holds 5 = .ok (.iaload, 1) := by decide +kernel
theorem dX4_holds_6 : decode cX4_holds 6 = .ok (.iload_n 2, 1) := by decide +kernel
theorem dX4_holds_7 : decode cX4_holds 7 = .ok (.ishr, 1) := by decide +kernel
theorem dX4_holds_8 : decode cX4_holds 8 = .ok (.iconst 1, 1) := by decide +kernel
theorem dX4_holds_9 : decode cX4_holds 9 = .ok (.iand, 1) := by decide +kernel
theorem dX4_holds_10 : decode cX4_holds 10 = .ok (.ifCond .eq 7, 3) := by decide +kernel
theorem dX4_holds_13 : decode cX4_holds 13 = .ok (.iconst 1, 1) := by decide +kernel
theorem dX4_holds_14 : decode cX4_holds 14 = .ok (.goto 4, 3) := by decide +kernel
theorem dX4_holds_17 : decode cX4_holds 17 = .ok (.iconst 0, 1) := by decide +kernel
theorem dX4_holds_18 : decode cX4_holds 18 = .ok (.ireturn, 1) := by decide +kernel
theorem dX4_gains_0 : decode cX4_gains 0 = .ok (.aload_n 0, 1) := by decide +kernel
theorem dX4_gains_1 : decode cX4_gains 1 = .ok (.getfield 15, 3) := by decide +kernel
theorem dX4_gains_4 : decode cX4_gains 4 = .ok (.iload_n 1, 1) := by decide +kernel
theorem dX4_gains_5 : decode cX4_gains 5 = .ok (.iaload, 1) := by decide +kernel
theorem dX4_gains_6 : decode cX4_gains 6 = .ok (.iconst 1, 1) := by decide +kernel
theorem dX4_gains_7 : decode cX4_gains 7 = .ok (.iload_n 2, 1) := by decide +kernel
theorem dX4_gains_8 : decode cX4_gains 8 = .ok (.ishl, 1) := by decide +kernel
theorem dX4_gains_9 : decode cX4_gains 9 = .ok (.ixor, 1) := by decide +kernel
theorem dX4_gains_10 : decode cX4_gains 10 = .ok (.iconst 1, 1) := by decide +kernel
theorem dX4_gains_11 : decode cX4_gains 11 = .ok (.iload_n 3, 1) := by decide +kernel
theorem dX4_gains_12 : decode cX4_gains 12 = .ok (.ishl, 1) := by decide +kernel
theorem dX4_gains_13 : decode cX4_gains 13 = .ok (.ixor, 1) := by decide +kernel
theorem dX4_gains_14 : decode cX4_gains 14 = .ok (.istore 4, 2) := by decide +kernel
theorem dX4_gains_16 : decode cX4_gains 16 = .ok (.aload_n 0, 1) := by decide +kernel
theorem dX4_gains_17 : decode cX4_gains 17 = .ok (.getfield 26, 3) := by decide +kernel
theorem dX4_gains_20 : decode cX4_gains 20 = .ok (.iload_n 1, 1) := by decide +kernel
theorem dX4_gains_21 : decode cX4_gains 21 = .ok (.iload 4, 2) := by decide +kernel
theorem dX4_gains_23 : decode cX4_gains 23 = .ok (.invokevirtual 36, 3) := by decide +kernel
theorem dX4_gains_26 : decode cX4_gains 26 = .ok (.aload_n 0, 1) := by decide +kernel
theorem dX4_gains_27 : decode cX4_gains 27 = .ok (.getfield 18, 3) := by decide +kernel
theorem dX4_gains_30 : decode cX4_gains 30 = .ok (.iload_n 1, 1) := by decide +kernel
theorem dX4_gains_31 : decode cX4_gains 31 = .ok (.laload, 1) := by decide +kernel
theorem dX4_gains_32 : decode cX4_gains 32 = .ok (.lcmp, 1) := by decide +kernel
theorem dX4_gains_33 : decode cX4_gains 33 = .ok (.ifCond .le 7, 3) := by decide +kernel
theorem dX4_gains_36 : decode cX4_gains 36 = .ok (.iconst 1, 1) := by decide +kernel
theorem dX4_gains_37 : decode cX4_gains 37 = .ok (.goto 4, 3) := by decide +kernel
theorem dX4_gains_40 : decode cX4_gains 40 = .ok (.iconst 0, 1) := by decide +kernel
theorem dX4_gains_41 : decode cX4_gains 41 = .ok (.ireturn, 1) := by decide +kernel
theorem dX4_countSwaps_0 : decode cX4_countSwaps 0 = .ok (.aload_n 0, 1) := by decide +kernel
theorem dX4_countSwaps_1 : decode cX4_countSwaps 1 = .ok (.iload_n 1, 1) := by decide +kernel
theorem dX4_countSwaps_2 : decode cX4_countSwaps 2 = .ok (.invokevirtual 42, 3) := by decide +kernel
theorem dX4_countSwaps_5 : decode cX4_countSwaps 5 = .ok (.aload_n 0, 1) := by decide +kernel
theorem dX4_countSwaps_6 : decode cX4_countSwaps 6 = .ok (.iload_n 2, 1) := by decide +kernel
theorem dX4_countSwaps_7 : decode cX4_countSwaps 7 = .ok (.invokevirtual 42, 3) := by decide +kernel
theorem dX4_countSwaps_10 : decode cX4_countSwaps 10 = .ok (.iconst 0, 1) := by decide +kernel
theorem dX4_countSwaps_11 : decode cX4_countSwaps 11 = .ok (.istore 4, 2) := by decide +kernel
theorem dX4_countSwaps_13 : decode cX4_countSwaps 13 = .ok (.iconst 0, 1) := by decide +kernel
theorem dX4_countSwaps_14 : decode cX4_countSwaps 14 = .ok (.istore 5, 2) := by decide +kernel
theorem dX4_countSwaps_16 : decode cX4_countSwaps 16 = .ok (.iload 5, 2) := by decide +kernel
theorem dX4_countSwaps_18 : decode cX4_countSwaps 18 = .ok (.aload_n 0, 1) := by decide +kernel
theorem dX4_countSwaps_19 : decode cX4_countSwaps 19 = .ok (.getfield 22, 3) := by decide +kernel
theorem dX4_countSwaps_22 : decode cX4_countSwaps 22 = .ok (.getfield 46, 3) := by decide +kernel
theorem dX4_countSwaps_25 : decode cX4_countSwaps 25 = .ok (.if_icmp .ge 102, 3) := by decide +kernel
theorem dX4_countSwaps_28 : decode cX4_countSwaps 28 = .ok (.iconst 0, 1) := by decide +kernel
theorem dX4_countSwaps_29 : decode cX4_countSwaps 29 = .ok (.istore 6, 2) := by decide +kernel
theorem dX4_countSwaps_31 : decode cX4_countSwaps 31 = .ok (.iload 6, 2) := by decide +kernel
theorem dX4_countSwaps_33 : decode cX4_countSwaps 33 = .ok (.aload_n 0, 1) := by decide +kernel
theorem dX4_countSwaps_34 : decode cX4_countSwaps 34 = .ok (.getfield 22, 3) := by decide +kernel
theorem dX4_countSwaps_37 : decode cX4_countSwaps 37 = .ok (.getfield 46, 3) := by decide +kernel
theorem dX4_countSwaps_40 : decode cX4_countSwaps 40 = .ok (.if_icmp .ge 81, 3) := by decide +kernel
theorem dX4_countSwaps_43 : decode cX4_countSwaps 43 = .ok (.aload_n 0, 1) := by decide +kernel
theorem dX4_countSwaps_44 : decode cX4_countSwaps 44 = .ok (.iload_n 1, 1) := by decide +kernel
theorem dX4_countSwaps_45 : decode cX4_countSwaps 45 = .ok (.iload 5, 2) := by decide +kernel
theorem dX4_countSwaps_47 : decode cX4_countSwaps 47 = .ok (.invokevirtual 50, 3) := by decide +kernel
theorem dX4_countSwaps_50 : decode cX4_countSwaps 50 = .ok (.ifCond .eq 65, 3) := by decide +kernel
theorem dX4_countSwaps_53 : decode cX4_countSwaps 53 = .ok (.aload_n 0, 1) := by decide +kernel
theorem dX4_countSwaps_54 : decode cX4_countSwaps 54 = .ok (.iload_n 2, 1) := by decide +kernel
theorem dX4_countSwaps_55 : decode cX4_countSwaps 55 = .ok (.iload 6, 2) := by decide +kernel
theorem dX4_countSwaps_57 : decode cX4_countSwaps 57 = .ok (.invokevirtual 50, 3) := by decide +kernel
theorem dX4_countSwaps_60 : decode cX4_countSwaps 60 = .ok (.ifCond .eq 55, 3) := by decide +kernel
theorem dX4_countSwaps_63 : decode cX4_countSwaps 63 = .ok (.aload_n 0, 1) := by decide +kernel
theorem dX4_countSwaps_64 : decode cX4_countSwaps 64 = .ok (.iload_n 1, 1) := by decide +kernel
theorem dX4_countSwaps_65 : decode cX4_countSwaps 65 = .ok (.iload 5, 2) := by decide +kernel
theorem dX4_countSwaps_67 : decode cX4_countSwaps 67 = .ok (.iload 6, 2) := by decide +kernel
theorem dX4_countSwaps_69 : decode cX4_countSwaps 69 = .ok (.invokevirtual 54, 3) := by decide +kernel
theorem dX4_countSwaps_72 : decode cX4_countSwaps 72 = .ok (.ifCond .eq 43, 3) := by decide +kernel
theorem dX4_countSwaps_75 : decode cX4_countSwaps 75 = .ok (.aload_n 0, 1) := by decide +kernel
theorem dX4_countSwaps_76 : decode cX4_countSwaps 76 = .ok (.iload_n 2, 1) := by decide +kernel
theorem dX4_countSwaps_77 : decode cX4_countSwaps 77 = .ok (.iload 6, 2) := by decide +kernel
theorem dX4_countSwaps_79 : decode cX4_countSwaps 79 = .ok (.iload 5, 2) := by decide +kernel
theorem dX4_countSwaps_81 : decode cX4_countSwaps 81 = .ok (.invokevirtual 54, 3) := by decide +kernel
theorem dX4_countSwaps_84 : decode cX4_countSwaps 84 = .ok (.ifCond .eq 31, 3) := by decide +kernel
theorem dX4_countSwaps_87 : decode cX4_countSwaps 87 = .ok (.aload_n 0, 1) := by decide +kernel
theorem dX4_countSwaps_88 : decode cX4_countSwaps 88 = .ok (.getfield 9, 3) := by decide +kernel
theorem dX4_countSwaps_91 : decode cX4_countSwaps 91 = .ok (.iconst 0, 1) := by decide +kernel
theorem dX4_countSwaps_92 : decode cX4_countSwaps 92 = .ok (.iload 5, 2) := by decide +kernel
theorem dX4_countSwaps_94 : decode cX4_countSwaps 94 = .ok (.iastore, 1) := by decide +kernel
theorem dX4_countSwaps_95 : decode cX4_countSwaps 95 = .ok (.aload_n 0, 1) := by decide +kernel
theorem dX4_countSwaps_96 : decode cX4_countSwaps 96 = .ok (.getfield 9, 3) := by decide +kernel
theorem dX4_countSwaps_99 : decode cX4_countSwaps 99 = .ok (.iconst 1, 1) := by decide +kernel
theorem dX4_countSwaps_100 : decode cX4_countSwaps 100 = .ok (.iload 6, 2) := by decide +kernel
theorem dX4_countSwaps_102 : decode cX4_countSwaps 102 = .ok (.iastore, 1) := by decide +kernel
theorem dX4_countSwaps_103 : decode cX4_countSwaps 103 = .ok (.iinc 4 1, 3) := by decide +kernel
theorem dX4_countSwaps_106 : decode cX4_countSwaps 106 = .ok (.iload 4, 2) := by decide +kernel
theorem dX4_countSwaps_108 : decode cX4_countSwaps 108 = .ok (.iload_n 3, 1) := by decide +kernel
theorem dX4_countSwaps_109 : decode cX4_countSwaps 109 = .ok (.if_icmp .le 6, 3) := by decide +kernel
theorem dX4_countSwaps_112 : decode cX4_countSwaps 112 = .ok (.iload 4, 2) := by decide +kernel
theorem dX4_countSwaps_114 : decode cX4_countSwaps 114 = .ok (.ireturn, 1) := by decide +kernel
theorem dX4_countSwaps_115 : decode cX4_countSwaps 115 = .ok (.iinc 6 1, 3) := by decide +kernel
theorem dX4_countSwaps_118 : decode cX4_countSwaps 118 = .ok (.goto (-87), 3) := by decide +kernel
theorem dX4_countSwaps_121 : decode cX4_countSwaps 121 = .ok (.iinc 5 1, 3) := by decide +kernel
theorem dX4_countSwaps_124 : decode cX4_countSwaps 124 = .ok (.goto (-108), 3) := by decide +kernel
theorem dX4_countSwaps_127 : decode cX4_countSwaps 127 = .ok (.iload 4, 2) := by decide +kernel
theorem dX4_countSwaps_129 : decode cX4_countSwaps 129 = .ok (.ireturn, 1) := by decide +kernel
theorem dX4_findRing_0 : decode cX4_findRing 0 = .ok (.aload_n 0, 1) := by decide +kernel
theorem dX4_findRing_1 : decode cX4_findRing 1 = .ok (.iload_n 1, 1) := by decide +kernel
theorem dX4_findRing_2 : decode cX4_findRing 2 = .ok (.invokevirtual 42, 3) := by decide +kernel
theorem dX4_findRing_5 : decode cX4_findRing 5 = .ok (.aload_n 0, 1) := by decide +kernel
theorem dX4_findRing_6 : decode cX4_findRing 6 = .ok (.iload_n 2, 1) := by decide +kernel
theorem dX4_findRing_7 : decode cX4_findRing 7 = .ok (.invokevirtual 42, 3) := by decide +kernel
theorem dX4_findRing_10 : decode cX4_findRing 10 = .ok (.aload_n 0, 1) := by decide +kernel
theorem dX4_findRing_11 : decode cX4_findRing 11 = .ok (.iload_n 3, 1) := by decide +kernel
theorem dX4_findRing_12 : decode cX4_findRing 12 = .ok (.invokevirtual 42, 3) := by decide +kernel
theorem dX4_findRing_15 : decode cX4_findRing 15 = .ok (.iconst 0, 1) := by decide +kernel
theorem dX4_findRing_16 : decode cX4_findRing 16 = .ok (.istore 4, 2) := by decide +kernel
theorem dX4_findRing_18 : decode cX4_findRing 18 = .ok (.iload 4, 2) := by decide +kernel
theorem dX4_findRing_20 : decode cX4_findRing 20 = .ok (.aload_n 0, 1) := by decide +kernel
theorem dX4_findRing_21 : decode cX4_findRing 21 = .ok (.getfield 22, 3) := by decide +kernel
theorem dX4_findRing_24 : decode cX4_findRing 24 = .ok (.getfield 46, 3) := by decide +kernel
theorem dX4_findRing_27 : decode cX4_findRing 27 = .ok (.if_icmp .ge 106, 3) := by decide +kernel
theorem dX4_findRing_30 : decode cX4_findRing 30 = .ok (.iconst 0, 1) := by decide +kernel
theorem dX4_findRing_31 : decode cX4_findRing 31 = .ok (.istore 5, 2) := by decide +kernel
theorem dX4_findRing_33 : decode cX4_findRing 33 = .ok (.iload 5, 2) := by decide +kernel
theorem dX4_findRing_35 : decode cX4_findRing 35 = .ok (.aload_n 0, 1) := by decide +kernel
theorem dX4_findRing_36 : decode cX4_findRing 36 = .ok (.getfield 22, 3) := by decide +kernel
theorem dX4_findRing_39 : decode cX4_findRing 39 = .ok (.getfield 46, 3) := by decide +kernel
theorem dX4_findRing_42 : decode cX4_findRing 42 = .ok (.if_icmp .ge 85, 3) := by decide +kernel
theorem dX4_findRing_45 : decode cX4_findRing 45 = .ok (.aload_n 0, 1) := by decide +kernel
theorem dX4_findRing_46 : decode cX4_findRing 46 = .ok (.iload_n 1, 1) := by decide +kernel
theorem dX4_findRing_47 : decode cX4_findRing 47 = .ok (.iload 4, 2) := by decide +kernel
theorem dX4_findRing_49 : decode cX4_findRing 49 = .ok (.invokevirtual 50, 3) := by decide +kernel
theorem dX4_findRing_52 : decode cX4_findRing 52 = .ok (.ifCond .eq 69, 3) := by decide +kernel
theorem dX4_findRing_55 : decode cX4_findRing 55 = .ok (.aload_n 0, 1) := by decide +kernel
theorem dX4_findRing_56 : decode cX4_findRing 56 = .ok (.iload_n 2, 1) := by decide +kernel
theorem dX4_findRing_57 : decode cX4_findRing 57 = .ok (.iload 5, 2) := by decide +kernel
theorem dX4_findRing_59 : decode cX4_findRing 59 = .ok (.invokevirtual 50, 3) := by decide +kernel
theorem dX4_findRing_62 : decode cX4_findRing 62 = .ok (.ifCond .eq 59, 3) := by decide +kernel
theorem dX4_findRing_65 : decode cX4_findRing 65 = .ok (.aload_n 0, 1) := by decide +kernel
theorem dX4_findRing_66 : decode cX4_findRing 66 = .ok (.iload_n 2, 1) := by decide +kernel
theorem dX4_findRing_67 : decode cX4_findRing 67 = .ok (.iload 5, 2) := by decide +kernel
theorem dX4_findRing_69 : decode cX4_findRing 69 = .ok (.iload 4, 2) := by decide +kernel
theorem dX4_findRing_71 : decode cX4_findRing 71 = .ok (.invokevirtual 54, 3) := by decide +kernel
theorem dX4_findRing_74 : decode cX4_findRing 74 = .ok (.ifCond .eq 47, 3) := by decide +kernel
theorem dX4_findRing_77 : decode cX4_findRing 77 = .ok (.aload_n 0, 1) := by decide +kernel
theorem dX4_findRing_78 : decode cX4_findRing 78 = .ok (.iload_n 1, 1) := by decide +kernel
theorem dX4_findRing_79 : decode cX4_findRing 79 = .ok (.iload_n 3, 1) := by decide +kernel
theorem dX4_findRing_80 : decode cX4_findRing 80 = .ok (.iload 4, 2) := by decide +kernel
theorem dX4_findRing_82 : decode cX4_findRing 82 = .ok (.iload 5, 2) := by decide +kernel
theorem dX4_findRing_84 : decode cX4_findRing 84 = .ok (.invokevirtual 58, 3) := by decide +kernel
theorem dX4_findRing_87 : decode cX4_findRing 87 = .ok (.istore 6, 2) := by decide +kernel
theorem dX4_findRing_89 : decode cX4_findRing 89 = .ok (.iload 6, 2) := by decide +kernel
theorem dX4_findRing_91 : decode cX4_findRing 91 = .ok (.iconst (-1), 1) := by decide +kernel
theorem dX4_findRing_92 : decode cX4_findRing 92 = .ok (.if_icmp .eq 29, 3) := by decide +kernel
theorem dX4_findRing_95 : decode cX4_findRing 95 = .ok (.aload_n 0, 1) := by decide +kernel
theorem dX4_findRing_96 : decode cX4_findRing 96 = .ok (.getfield 9, 3) := by decide +kernel
theorem dX4_findRing_99 : decode cX4_findRing 99 = .ok (.iconst 0, 1) := by decide +kernel
theorem dX4_findRing_100 : decode cX4_findRing 100 = .ok (.iload 4, 2) := by decide +kernel
theorem dX4_findRing_102 : decode cX4_findRing 102 = .ok (.iastore, 1) := by decide +kernel
theorem dX4_findRing_103 : decode cX4_findRing 103 = .ok (.aload_n 0, 1) := by decide +kernel
theorem dX4_findRing_104 : decode cX4_findRing 104 = .ok (.getfield 9, 3) := by decide +kernel
theorem dX4_findRing_107 : decode cX4_findRing 107 = .ok (.iconst 1, 1) := by decide +kernel
theorem dX4_findRing_108 : decode cX4_findRing 108 = .ok (.iload 5, 2) := by decide +kernel
theorem dX4_findRing_110 : decode cX4_findRing 110 = .ok (.iastore, 1) := by decide +kernel
theorem dX4_findRing_111 : decode cX4_findRing 111 = .ok (.aload_n 0, 1) := by decide +kernel
theorem dX4_findRing_112 : decode cX4_findRing 112 = .ok (.getfield 9, 3) := by decide +kernel
theorem dX4_findRing_115 : decode cX4_findRing 115 = .ok (.iconst 2, 1) := by decide +kernel
theorem dX4_findRing_116 : decode cX4_findRing 116 = .ok (.iload 6, 2) := by decide +kernel
theorem dX4_findRing_118 : decode cX4_findRing 118 = .ok (.iastore, 1) := by decide +kernel
theorem dX4_findRing_119 : decode cX4_findRing 119 = .ok (.iconst 1, 1) := by decide +kernel
theorem dX4_findRing_120 : decode cX4_findRing 120 = .ok (.ireturn, 1) := by decide +kernel
theorem dX4_findRing_121 : decode cX4_findRing 121 = .ok (.iinc 5 1, 3) := by decide +kernel
theorem dX4_findRing_124 : decode cX4_findRing 124 = .ok (.goto (-91), 3) := by decide +kernel
theorem dX4_findRing_127 : decode cX4_findRing 127 = .ok (.iinc 4 1, 3) := by decide +kernel
theorem dX4_findRing_130 : decode cX4_findRing 130 = .ok (.goto (-112), 3) := by decide +kernel
theorem dX4_findRing_133 : decode cX4_findRing 133 = .ok (.iconst 0, 1) := by decide +kernel
theorem dX4_findRing_134 : decode cX4_findRing 134 = .ok (.ireturn, 1) := by decide +kernel
theorem dX4_thirdOfRing_0 : decode cX4_thirdOfRing 0 = .ok (.iconst 0, 1) := by decide +kernel
theorem dX4_thirdOfRing_1 : decode cX4_thirdOfRing 1 = .ok (.istore 5, 2) := by decide +kernel
theorem dX4_thirdOfRing_3 : decode cX4_thirdOfRing 3 = .ok (.iload 5, 2) := by decide +kernel
theorem dX4_thirdOfRing_5 : decode cX4_thirdOfRing 5 = .ok (.aload_n 0, 1) := by decide +kernel
theorem dX4_thirdOfRing_6 : decode cX4_thirdOfRing 6 = .ok (.getfield 22, 3) := by decide +kernel
theorem dX4_thirdOfRing_9 : decode cX4_thirdOfRing 9 = .ok (.getfield 46, 3) := by decide +kernel
theorem dX4_thirdOfRing_12 : decode cX4_thirdOfRing 12 = .ok (.if_icmp .ge 45, 3) := by decide +kernel
theorem dX4_thirdOfRing_15 : decode cX4_thirdOfRing 15 = .ok (.aload_n 0, 1) := by decide +kernel
theorem dX4_thirdOfRing_16 : decode cX4_thirdOfRing 16 = .ok (.iload_n 2, 1) := by decide +kernel
theorem dX4_thirdOfRing_17 : decode cX4_thirdOfRing 17 = .ok (.iload 5, 2) := by decide +kernel
theorem dX4_thirdOfRing_19 : decode cX4_thirdOfRing 19 = .ok (.invokevirtual 50, 3) := by decide +kernel
theorem dX4_thirdOfRing_22 : decode cX4_thirdOfRing 22 = .ok (.ifCond .eq 29, 3) := by decide +kernel
theorem dX4_thirdOfRing_25 : decode cX4_thirdOfRing 25 = .ok (.aload_n 0, 1) := by decide +kernel
theorem dX4_thirdOfRing_26 : decode cX4_thirdOfRing 26 = .ok (.iload_n 2, 1) := by decide +kernel
theorem dX4_thirdOfRing_27 : decode cX4_thirdOfRing 27 = .ok (.iload 5, 2) := by decide +kernel
theorem dX4_thirdOfRing_29 : decode cX4_thirdOfRing 29 = .ok (.iload 4, 2) := by decide +kernel
theorem dX4_thirdOfRing_31 : decode cX4_thirdOfRing 31 = .ok (.invokevirtual 54, 3) := by decide +kernel
theorem dX4_thirdOfRing_34 : decode cX4_thirdOfRing 34 = .ok (.ifCond .eq 17, 3) := by decide +kernel
theorem dX4_thirdOfRing_37 : decode cX4_thirdOfRing 37 = .ok (.aload_n 0, 1) := by decide +kernel
theorem dX4_thirdOfRing_38 : decode cX4_thirdOfRing 38 = .ok (.iload_n 1, 1) := by decide +kernel
theorem dX4_thirdOfRing_39 : decode cX4_thirdOfRing 39 = .ok (.iload_n 3, 1) := by decide +kernel
theorem dX4_thirdOfRing_40 : decode cX4_thirdOfRing 40 = .ok (.iload 5, 2) := by decide +kernel
theorem dX4_thirdOfRing_42 : decode cX4_thirdOfRing 42 = .ok (.invokevirtual 54, 3) := by decide +kernel
theorem dX4_thirdOfRing_45 : decode cX4_thirdOfRing 45 = .ok (.ifCond .eq 6, 3) := by decide +kernel
theorem dX4_thirdOfRing_48 : decode cX4_thirdOfRing 48 = .ok (.iload 5, 2) := by decide +kernel
theorem dX4_thirdOfRing_50 : decode cX4_thirdOfRing 50 = .ok (.ireturn, 1) := by decide +kernel
theorem dX4_thirdOfRing_51 : decode cX4_thirdOfRing 51 = .ok (.iinc 5 1, 3) := by decide +kernel
theorem dX4_thirdOfRing_54 : decode cX4_thirdOfRing 54 = .ok (.goto (-51), 3) := by decide +kernel
theorem dX4_thirdOfRing_57 : decode cX4_thirdOfRing 57 = .ok (.iconst (-1), 1) := by decide +kernel
theorem dX4_thirdOfRing_58 : decode cX4_thirdOfRing 58 = .ok (.ireturn, 1) := by decide +kernel
theorem dX4_swapFirst_0 : decode cX4_swapFirst 0 = .ok (.iconst 0, 1) := by decide +kernel
theorem dX4_swapFirst_1 : decode cX4_swapFirst 1 = .ok (.istore_n 1, 1) := by decide +kernel
theorem dX4_swapFirst_2 : decode cX4_swapFirst 2 = .ok (.iload_n 1, 1) := by decide +kernel
theorem dX4_swapFirst_3 : decode cX4_swapFirst 3 = .ok (.aload_n 0, 1) := by decide +kernel
theorem dX4_swapFirst_4 : decode cX4_swapFirst 4 = .ok (.getfield 22, 3) := by decide +kernel
theorem dX4_swapFirst_7 : decode cX4_swapFirst 7 = .ok (.getfield 62, 3) := by decide +kernel
theorem dX4_swapFirst_10 : decode cX4_swapFirst 10 = .ok (.if_icmp .ge 72, 3) := by decide +kernel
theorem dX4_swapFirst_13 : decode cX4_swapFirst 13 = .ok (.iload_n 1, 1) := by decide +kernel
theorem dX4_swapFirst_14 : decode cX4_swapFirst 14 = .ok (.iconst 1, 1) := by decide +kernel
theorem dX4_swapFirst_15 : decode cX4_swapFirst 15 = .ok (.iadd, 1) := by decide +kernel
theorem dX4_swapFirst_16 : decode cX4_swapFirst 16 = .ok (.istore_n 2, 1) := by decide +kernel
theorem dX4_swapFirst_17 : decode cX4_swapFirst 17 = .ok (.iload_n 2, 1) := by decide +kernel
theorem dX4_swapFirst_18 : decode cX4_swapFirst 18 = .ok (.aload_n 0, 1) := by decide +kernel
theorem dX4_swapFirst_19 : decode cX4_swapFirst 19 = .ok (.getfield 22, 3) := by decide +kernel
theorem dX4_swapFirst_22 : decode cX4_swapFirst 22 = .ok (.getfield 62, 3) := by decide +kernel
theorem dX4_swapFirst_25 : decode cX4_swapFirst 25 = .ok (.if_icmp .ge 51, 3) := by decide +kernel
theorem dX4_swapFirst_28 : decode cX4_swapFirst 28 = .ok (.aload_n 0, 1) := by decide +kernel
theorem dX4_swapFirst_29 : decode cX4_swapFirst 29 = .ok (.iload_n 1, 1) := by decide +kernel
theorem dX4_swapFirst_30 : decode cX4_swapFirst 30 = .ok (.iload_n 2, 1) := by decide +kernel
theorem dX4_swapFirst_31 : decode cX4_swapFirst 31 = .ok (.iconst 0, 1) := by decide +kernel
theorem dX4_swapFirst_32 : decode cX4_swapFirst 32 = .ok (.invokevirtual 65, 3) := by decide +kernel
theorem dX4_swapFirst_35 : decode cX4_swapFirst 35 = .ok (.ifCond .le 35, 3) := by decide +kernel
theorem dX4_swapFirst_38 : decode cX4_swapFirst 38 = .ok (.aload_n 0, 1) := by decide +kernel
theorem dX4_swapFirst_39 : decode cX4_swapFirst 39 = .ok (.getfield 22, 3) := by decide +kernel
theorem dX4_swapFirst_42 : decode cX4_swapFirst 42 = .ok (.getfield 69, 3) := by decide +kernel
theorem dX4_swapFirst_45 : decode cX4_swapFirst 45 = .ok (.aload_n 0, 1) := by decide +kernel
theorem dX4_swapFirst_46 : decode cX4_swapFirst 46 = .ok (.getfield 9, 3) := by decide +kernel
theorem dX4_swapFirst_49 : decode cX4_swapFirst 49 = .ok (.iconst 0, 1) := by decide +kernel
theorem dX4_swapFirst_50 : decode cX4_swapFirst 50 = .ok (.iaload, 1) := by decide +kernel
theorem dX4_swapFirst_51 : decode cX4_swapFirst 51 = .ok (.iload_n 2, 1) := by decide +kernel
theorem dX4_swapFirst_52 : decode cX4_swapFirst 52 = .ok (.iastore, 1) := by decide +kernel
theorem dX4_swapFirst_53 : decode cX4_swapFirst 53 = .ok (.aload_n 0, 1) := by decide +kernel
theorem dX4_swapFirst_54 : decode cX4_swapFirst 54 = .ok (.getfield 22, 3) := by decide +kernel
theorem dX4_swapFirst_57 : decode cX4_swapFirst 57 = .ok (.getfield 69, 3) := by decide +kernel
theorem dX4_swapFirst_60 : decode cX4_swapFirst 60 = .ok (.aload_n 0, 1) := by decide +kernel
theorem dX4_swapFirst_61 : decode cX4_swapFirst 61 = .ok (.getfield 9, 3) := by decide +kernel
theorem dX4_swapFirst_64 : decode cX4_swapFirst 64 = .ok (.iconst 1, 1) := by decide +kernel
theorem dX4_swapFirst_65 : decode cX4_swapFirst 65 = .ok (.iaload, 1) := by decide +kernel
theorem dX4_swapFirst_66 : decode cX4_swapFirst 66 = .ok (.iload_n 1, 1) := by decide +kernel
theorem dX4_swapFirst_67 : decode cX4_swapFirst 67 = .ok (.iastore, 1) := by decide +kernel
theorem dX4_swapFirst_68 : decode cX4_swapFirst 68 = .ok (.iconst 1, 1) := by decide +kernel
theorem dX4_swapFirst_69 : decode cX4_swapFirst 69 = .ok (.ireturn, 1) := by decide +kernel
theorem dX4_swapFirst_70 : decode cX4_swapFirst 70 = .ok (.iinc 2 1, 3) := by decide +kernel
theorem dX4_swapFirst_73 : decode cX4_swapFirst 73 = .ok (.goto (-56), 3) := by decide +kernel
theorem dX4_swapFirst_76 : decode cX4_swapFirst 76 = .ok (.iinc 1 1, 3) := by decide +kernel
theorem dX4_swapFirst_79 : decode cX4_swapFirst 79 = .ok (.goto (-77), 3) := by decide +kernel
theorem dX4_swapFirst_82 : decode cX4_swapFirst 82 = .ok (.iconst 0, 1) := by decide +kernel
theorem dX4_swapFirst_83 : decode cX4_swapFirst 83 = .ok (.ireturn, 1) := by decide +kernel
theorem dX5_init_0 : decode cX5_init 0 = .ok (.aload_n 0, 1) := by decide +kernel
theorem dX5_init_1 : decode cX5_init 1 = .ok (.invokespecial 3, 3) := by decide +kernel
theorem dX5_init_4 : decode cX5_init 4 = .ok (.aload_n 0, 1) := by decide +kernel
theorem dX5_init_5 : decode cX5_init 5 = .ok (.bipush 64, 2) := by decide +kernel
theorem dX5_init_7 : decode cX5_init 7 = .ok (.newarray .long, 2) := by decide +kernel
theorem dX5_init_9 : decode cX5_init 9 = .ok (.putfield 9, 3) := by decide +kernel
theorem dX5_init_12 : decode cX5_init 12 = .ok (.aload_n 0, 1) := by decide +kernel
theorem dX5_init_13 : decode cX5_init 13 = .ok (.bipush 64, 2) := by decide +kernel
theorem dX5_init_15 : decode cX5_init 15 = .ok (.newarray .int, 2) := by decide +kernel
theorem dX5_init_17 : decode cX5_init 17 = .ok (.putfield 15, 3) := by decide +kernel
theorem dX5_init_20 : decode cX5_init 20 = .ok (.aload_n 0, 1) := by decide +kernel
theorem dX5_init_21 : decode cX5_init 21 = .ok (.lconst 0, 1) := by decide +kernel
theorem dX5_init_22 : decode cX5_init 22 = .ok (.putfield 19, 3) := by decide +kernel
theorem dX5_init_25 : decode cX5_init 25 = .ok (.aload_n 0, 1) := by decide +kernel
theorem dX5_init_26 : decode cX5_init 26 = .ok (.lconst 0, 1) := by decide +kernel
theorem dX5_init_27 : decode cX5_init 27 = .ok (.putfield 23, 3) := by decide +kernel
theorem dX5_init_30 : decode cX5_init 30 = .ok (.aload_n 0, 1) := by decide +kernel
theorem dX5_init_31 : decode cX5_init 31 = .ok (.iconst 0, 1) := by decide +kernel
theorem dX5_init_32 : decode cX5_init 32 = .ok (.putfield 26, 3) := by decide +kernel
theorem dX5_init_35 : decode cX5_init 35 = .ok (.aload_n 0, 1) := by decide +kernel
theorem dX5_init_36 : decode cX5_init 36 = .ok (.sipush 640, 3) := by decide +kernel
theorem dX5_init_39 : decode cX5_init 39 = .ok (.newarray .int, 2) := by decide +kernel
theorem dX5_init_41 : decode cX5_init 41 = .ok (.putfield 30, 3) := by decide +kernel
theorem dX5_init_44 : decode cX5_init 44 = .ok (.aload_n 0, 1) := by decide +kernel
theorem dX5_init_45 : decode cX5_init 45 = .ok (.bipush 100, 2) := by decide +kernel
theorem dX5_init_47 : decode cX5_init 47 = .ok (.newarray .int, 2) := by decide +kernel
theorem dX5_init_49 : decode cX5_init 49 = .ok (.putfield 33, 3) := by decide +kernel
theorem dX5_init_52 : decode cX5_init 52 = .ok (.aload_n 0, 1) := by decide +kernel
theorem dX5_init_53 : decode cX5_init 53 = .ok (.iconst 0, 1) := by decide +kernel
theorem dX5_init_54 : decode cX5_init 54 = .ok (.newarray .int, 2) := by decide +kernel
theorem dX5_init_56 : decode cX5_init 56 = .ok (.putfield 36, 3) := by decide +kernel
theorem dX5_init_59 : decode cX5_init 59 = .ok (.aload_n 0, 1) := by decide +kernel
theorem dX5_init_60 : decode cX5_init 60 = .ok (.iconst 0, 1) := by decide +kernel
theorem dX5_init_61 : decode cX5_init 61 = .ok (.newarray .int, 2) := by decide +kernel
theorem dX5_init_63 : decode cX5_init 63 = .ok (.putfield 39, 3) := by decide +kernel
theorem dX5_init_66 : decode cX5_init 66 = .ok (.aload_n 0, 1) := by decide +kernel
theorem dX5_init_67 : decode cX5_init 67 = .ok (.aload_n 1, 1) := by decide +kernel
theorem dX5_init_68 : decode cX5_init 68 = .ok (.putfield 42, 3) := by decide +kernel
theorem dX5_init_71 : decode cX5_init 71 = .ok (.return_, 1) := by decide +kernel
theorem dX5_forget_0 : decode cX5_forget 0 = .ok (.aload_n 0, 1) := by decide +kernel
theorem dX5_forget_1 : decode cX5_forget 1 = .ok (.iconst 0, 1) := by decide +kernel
theorem dX5_forget_2 : decode cX5_forget 2 = .ok (.putfield 26, 3) := by decide +kernel
theorem dX5_forget_5 : decode cX5_forget 5 = .ok (.return_, 1) := by decide +kernel
theorem dX5_ready_0 : decode cX5_ready 0 = .ok (.aload_n 0, 1) := by decide +kernel
theorem dX5_ready_1 : decode cX5_ready 1 = .ok (.iconst (-1), 1) := by decide +kernel
theorem dX5_ready_2 : decode cX5_ready 2 = .ok (.iconst 0, 1) := by decide +kernel
theorem dX5_ready_3 : decode cX5_ready 3 = .ok (.invokevirtual 46, 3) := by decide +kernel
theorem dX5_ready_6 : decode cX5_ready 6 = .ok (.aload_n 0, 1) := by decide +kernel
theorem dX5_ready_7 : decode cX5_ready 7 = .ok (.getfield 26, 3) := by decide +kernel
theorem dX5_ready_10 : decode cX5_ready 10 = .ok (.ifCond .eq 4, 3) := by decide +kernel
theorem dX5_ready_13 : decode cX5_ready 13 = .ok (.return_, 1) := by decide +kernel
theorem dX5_ready_14 : decode cX5_ready 14 = .ok (.aload_n 0, 1) := by decide +kernel
theorem dX5_ready_15 : decode cX5_ready 15 = .ok (.iconst 1, 1) := by decide +kernel
theorem dX5_ready_16 : decode cX5_ready 16 = .ok (.putfield 26, 3) := by decide +kernel
theorem dX5_ready_19 : decode cX5_ready 19 = .ok (.aload_n 0, 1) := by decide +kernel
theorem dX5_ready_20 : decode cX5_ready 20 = .ok (.invokevirtual 50, 3) := by decide +kernel
theorem dX5_ready_23 : decode cX5_ready 23 = .ok (.aload_n 0, 1) := by decide +kernel
theorem dX5_ready_24 : decode cX5_ready 24 = .ok (.invokevirtual 53, 3) := by decide +kernel
theorem dX5_ready_27 : decode cX5_ready 27 = .ok (.aload_n 0, 1) := by decide +kernel
theorem dX5_ready_28 : decode cX5_ready 28 = .ok (.invokevirtual 56, 3) := by decide +kernel
theorem dX5_ready_31 : decode cX5_ready 31 = .ok (.iconst 0, 1) := by decide +kernel
theorem dX5_ready_32 : decode cX5_ready 32 = .ok (.istore_n 1, 1) := by decide +kernel
theorem dX5_ready_33 : decode cX5_ready 33 = .ok (.iload_n 1, 1) := by decide +kernel
theorem dX5_ready_34 : decode cX5_ready 34 = .ok (.aload_n 0, 1) := by decide +kernel
theorem dX5_ready_35 : decode cX5_ready 35 = .ok (.getfield 42, 3) := by decide +kernel
theorem dX5_ready_38 : decode cX5_ready 38 = .ok (.getfield 59, 3) := by decide +kernel
theorem dX5_ready_41 : decode cX5_ready 41 = .ok (.if_icmp .ge 14, 3) := by decide +kernel
theorem dX5_ready_44 : decode cX5_ready 44 = .ok (.aload_n 0, 1) := by decide +kernel
theorem dX5_ready_45 : decode cX5_ready 45 = .ok (.iload_n 1, 1) := by decide +kernel
theorem dX5_ready_46 : decode cX5_ready 46 = .ok (.invokevirtual 65, 3) := by decide +kernel
theorem dX5_ready_49 : decode cX5_ready 49 = .ok (.iinc 1 1, 3) := by decide +kernel
theorem dX5_ready_52 : decode cX5_ready 52 = .ok (.goto (-19), 3) := by decide +kernel
theorem dX5_ready_55 : decode cX5_ready 55 = .ok (.return_, 1) := by decide +kernel
theorem dX5_weigh_0 : decode cX5_weigh 0 = .ok (.aload_n 0, 1) := by decide +kernel
theorem dX5_weigh_1 : decode cX5_weigh 1 = .ok (.getfield 42, 3) := by decide +kernel
theorem dX5_weigh_4 : decode cX5_weigh 4 = .ok (.invokevirtual 69, 3) := by decide +kernel
theorem dX5_weigh_7 : decode cX5_weigh 7 = .ok (.istore_n 3, 1) := by decide +kernel
theorem dX5_weigh_8 : decode cX5_weigh 8 = .ok (.iconst 0, 1) := by decide +kernel
theorem dX5_weigh_9 : decode cX5_weigh 9 = .ok (.istore 4, 2) := by decide +kernel
theorem dX5_weigh_11 : decode cX5_weigh 11 = .ok (.iload 4, 2) := by decide +kernel
theorem dX5_weigh_13 : decode cX5_weigh 13 = .ok (.iload_n 3, 1) := by decide +kernel
theorem dX5_weigh_14 : decode cX5_weigh 14 = .ok (.if_icmp .ge 24, 3) := by decide +kernel
theorem dX5_weigh_17 : decode cX5_weigh 17 = .ok (.aload_n 0, 1) := by decide +kernel
theorem dX5_weigh_18 : decode cX5_weigh 18 = .ok (.getfield 9, 3) := by decide +kernel
theorem dX5_weigh_21 : decode cX5_weigh 21 = .ok (.iload 4, 2) := by decide +kernel
theorem dX5_weigh_23 : decode cX5_weigh 23 = .ok (.aload_n 0, 1) := by decide +kernel
theorem dX5_weigh_24 : decode cX5_weigh 24 = .ok (.iload 4, 2) := by decide +kernel
theorem dX5_weigh_26 : decode cX5_weigh 26 = .ok (.iload_n 1, 1) := by decide +kernel
theorem dX5_weigh_27 : decode cX5_weigh 27 = .ok (.iload_n 2, 1) := by decide +kernel
theorem dX5_weigh_28 : decode cX5_weigh 28 = .ok (.invokevirtual 73, 3) := by decide +kernel
theorem dX5_weigh_31 : decode cX5_weigh 31 = .ok (.lastore, 1) := by decide +kernel
theorem dX5_weigh_32 : decode cX5_weigh 32 = .ok (.iinc 4 1, 3) := by decide +kernel
theorem dX5_weigh_35 : decode cX5_weigh 35 = .ok (.goto (-24), 3) := by decide +kernel
theorem dX5_weigh_38 : decode cX5_weigh 38 = .ok (.return_, 1) := by decide +kernel
theorem dX5_weightOf_0 : decode cX5_weightOf 0 = .ok (.lconst 1, 1) := by decide +kernel
theorem dX5_weightOf_1 : decode cX5_weightOf 1 = .ok (.lstore 4, 2) := by decide +kernel
theorem dX5_weightOf_3 : decode cX5_weightOf 3 = .ok (.iconst 0, 1) := by decide +kernel
theorem dX5_weightOf_4 : decode cX5_weightOf 4 = .ok (.istore 6, 2) := by decide +kernel
theorem dX5_weightOf_6 : decode cX5_weightOf 6 = .ok (.iload 6, 2) := by decide +kernel
theorem dX5_weightOf_8 : decode cX5_weightOf 8 = .ok (.aload_n 0, 1) := by decide +kernel
theorem dX5_weightOf_9 : decode cX5_weightOf 9 = .ok (.getfield 42, 3) := by decide +kernel
theorem dX5_weightOf_12 : decode cX5_weightOf 12 = .ok (.getfield 77, 3) := by decide +kernel
theorem dX5_weightOf_15 : decode cX5_weightOf 15 = .ok (.if_icmp .ge 57, 3) := by decide +kernel
theorem dX5_weightOf_18 : decode cX5_weightOf 18 = .ok (.iload 6, 2) := by decide +kernel
theorem dX5_weightOf_20 : decode cX5_weightOf 20 = .ok (.iload_n 2, 1) := by decide +kernel
theorem dX5_weightOf_21 : decode cX5_weightOf 21 = .ok (.if_icmp .ne 7, 3) := by decide +kernel
theorem dX5_weightOf_24 : decode cX5_weightOf 24 = .ok (.iload_n 3, 1) := by decide +kernel
theorem dX5_weightOf_25 : decode cX5_weightOf 25 = .ok (.goto 13, 3) := by decide +kernel
theorem dX5_weightOf_28 : decode cX5_weightOf 28 = .ok (.aload_n 0, 1) := by decide +kernel
theorem dX5_weightOf_29 : decode cX5_weightOf 29 = .ok (.getfield 42, 3) := by decide +kernel
theorem dX5_weightOf_32 : decode cX5_weightOf 32 = .ok (.getfield 80, 3) := by decide +kernel
theorem dX5_weightOf_35 : decode cX5_weightOf 35 = .ok (.iload 6, 2) := by decide +kernel
theorem dX5_weightOf_37 : decode cX5_weightOf 37 = .ok (.iaload, 1) := by decide +kernel
theorem dX5_weightOf_38 : decode cX5_weightOf 38 = .ok (.istore 7, 2) := by decide +kernel
theorem dX5_weightOf_40 : decode cX5_weightOf 40 = .ok (.lload 4, 2) := by decide +kernel
theorem dX5_weightOf_42 : decode cX5_weightOf 42 = .ok (.iload_n 1, 1) := by decide +kernel
theorem dX5_weightOf_43 : decode cX5_weightOf 43 = .ok (.iload 6, 2) := by decide +kernel
theorem dX5_weightOf_45 : decode cX5_weightOf 45 = .ok (.ishr, 1) := by decide +kernel
theorem dX5_weightOf_46 : decode cX5_weightOf 46 = .ok (.iconst 1, 1) := by decide +kernel
theorem dX5_weightOf_47 : decode cX5_weightOf 47 = .ok (.iand, 1) := by decide +kernel
theorem dX5_weightOf_48 : decode cX5_weightOf 48 = .ok (.ifCond .eq 9, 3) := by decide +kernel
theorem dX5_weightOf_51 : decode cX5_weightOf 51 = .ok (.iload 7, 2) := by decide +kernel
theorem dX5_weightOf_53 : decode cX5_weightOf 53 = .ok (.i2l, 1) := by decide +kernel
theorem dX5_weightOf_54 : decode cX5_weightOf 54 = .ok (.goto 9, 3) := by decide +kernel
theorem dX5_weightOf_57 : decode cX5_weightOf 57 = .ok (.bipush 16, 2) := by decide +kernel
theorem dX5_weightOf_59 : decode cX5_weightOf 59 = .ok (.iload 7, 2) := by decide +kernel
theorem dX5_weightOf_61 : decode cX5_weightOf 61 = .ok (.isub, 1) := by decide +kernel
theorem dX5_weightOf_62 : decode cX5_weightOf 62 = .ok (.i2l, 1) := by decide +kernel
theorem dX5_weightOf_63 : decode cX5_weightOf 63 = .ok (.lmul, 1) := by decide +kernel
theorem dX5_weightOf_64 : decode cX5_weightOf 64 = .ok (.lstore 4, 2) := by decide +kernel
theorem dX5_weightOf_66 : decode cX5_weightOf 66 = .ok (.iinc 6 1, 3) := by decide +kernel
theorem dX5_weightOf_69 : decode cX5_weightOf 69 = .ok (.goto (-63), 3) := by decide +kernel
theorem dX5_weightOf_72 : decode cX5_weightOf 72 = .ok (.lload 4, 2) := by decide +kernel
theorem dX5_weightOf_74 : decode cX5_weightOf 74 = .ok (.lreturn, 1) := by decide +kernel
theorem dX5_wholeWeight_0 : decode cX5_wholeWeight 0 = .ok (.lconst 1, 1) := by decide +kernel
theorem dX5_wholeWeight_1 : decode cX5_wholeWeight 1 = .ok (.iconst 4, 1) := by decide +kernel
theorem dX5_wholeWeight_2 : decode cX5_wholeWeight 2 = .ok (.aload_n 0, 1) := by decide +kernel
theorem dX5_wholeWeight_3 : decode cX5_wholeWeight 3 = .ok (.getfield 42, 3) := by decide +kernel
theorem dX5_wholeWeight_6 : decode cX5_wholeWeight 6 = .ok (.getfield 77, 3) := by decide +kernel
theorem dX5_wholeWeight_9 : decode cX5_wholeWeight 9 = .ok (.imul, 1) := by decide +kernel
theorem dX5_wholeWeight_10 : decode cX5_wholeWeight 10 = .ok (.lshl, 1) := by decide +kernel
theorem dX5_wholeWeight_11 : decode cX5_wholeWeight 11 = .ok (.lreturn, 1) := by decide +kernel
theorem dX5_eighthsKept_0 : decode cX5_eighthsKept 0 = .ok (.iconst 0, 1) := by decide +kernel
theorem dX5_eighthsKept_1 : decode cX5_eighthsKept 1 = .ok (.istore_n 3, 1) := by decide +kernel
theorem dX5_eighthsKept_2 : decode cX5_eighthsKept 2 = .ok (.iconst 0, 1) := by decide +kernel
theorem dX5_eighthsKept_3 : decode cX5_eighthsKept 3 = .ok (.istore 4, 2) := by decide +kernel
theorem dX5_eighthsKept_5 : decode cX5_eighthsKept 5 = .ok (.iload 4, 2) := by decide +kernel
theorem dX5_eighthsKept_7 : decode cX5_eighthsKept 7 = .ok (.aload_n 0, 1) := by decide +kernel
theorem dX5_eighthsKept_8 : decode cX5_eighthsKept 8 = .ok (.getfield 42, 3) := by decide +kernel
theorem dX5_eighthsKept_11 : decode cX5_eighthsKept 11 = .ok (.getfield 77, 3) := by decide +kernel
theorem dX5_eighthsKept_14 : decode cX5_eighthsKept 14 = .ok (.if_icmp .ge 48, 3) := by decide +kernel
theorem dX5_eighthsKept_17 : decode cX5_eighthsKept 17 = .ok (.iload_n 2, 1) := by decide +kernel
theorem dX5_eighthsKept_18 : decode cX5_eighthsKept 18 = .ok (.iload 4, 2) := by decide +kernel
theorem dX5_eighthsKept_20 : decode cX5_eighthsKept 20 = .ok (.ishr, 1) := by decide +kernel
theorem dX5_eighthsKept_21 : decode cX5_eighthsKept 21 = .ok (.iconst 1, 1) := by decide +kernel
theorem dX5_eighthsKept_22 : decode cX5_eighthsKept 22 = .ok (.iand, 1) := by decide +kernel
theorem dX5_eighthsKept_23 : decode cX5_eighthsKept 23 = .ok (.ifCond .eq 33, 3) := by decide +kernel
theorem dX5_eighthsKept_26 : decode cX5_eighthsKept 26 = .ok (.aload_n 0, 1) := by decide +kernel
theorem dX5_eighthsKept_27 : decode cX5_eighthsKept 27 = .ok (.getfield 42, 3) := by decide +kernel
theorem dX5_eighthsKept_30 : decode cX5_eighthsKept 30 = .ok (.getfield 83, 3) := by decide +kernel
theorem dX5_eighthsKept_33 : decode cX5_eighthsKept 33 = .ok (.iload 4, 2) := by decide +kernel
theorem dX5_eighthsKept_35 : decode cX5_eighthsKept 35 = .ok (.iaload, 1) := by decide +kernel
theorem dX5_eighthsKept_36 : decode cX5_eighthsKept 36 = .ok (.iload_n 1, 1) := by decide +kernel
theorem dX5_eighthsKept_37 : decode cX5_eighthsKept 37 = .ok (.ishr, 1) := by decide +kernel
theorem dX5_eighthsKept_38 : decode cX5_eighthsKept 38 = .ok (.iconst 1, 1) := by decide +kernel
theorem dX5_eighthsKept_39 : decode cX5_eighthsKept 39 = .ok (.iand, 1) := by decide +kernel
theorem dX5_eighthsKept_40 : decode cX5_eighthsKept 40 = .ok (.ifCond .eq 16, 3) := by decide +kernel
theorem dX5_eighthsKept_43 : decode cX5_eighthsKept 43 = .ok (.iload_n 3, 1) := by decide +kernel
theorem dX5_eighthsKept_44 : decode cX5_eighthsKept 44 = .ok (.aload_n 0, 1) := by decide +kernel
theorem dX5_eighthsKept_45 : decode cX5_eighthsKept 45 = .ok (.getfield 42, 3) := by decide +kernel
theorem dX5_eighthsKept_48 : decode cX5_eighthsKept 48 = .ok (.getfield 86, 3) := by decide +kernel
theorem dX5_eighthsKept_51 : decode cX5_eighthsKept 51 = .ok (.iload 4, 2) := by decide +kernel
theorem dX5_eighthsKept_53 : decode cX5_eighthsKept 53 = .ok (.iaload, 1) := by decide +kernel
theorem dX5_eighthsKept_54 : decode cX5_eighthsKept 54 = .ok (.iadd, 1) := by decide +kernel
theorem dX5_eighthsKept_55 : decode cX5_eighthsKept 55 = .ok (.istore_n 3, 1) := by decide +kernel
theorem dX5_eighthsKept_56 : decode cX5_eighthsKept 56 = .ok (.iinc 4 1, 3) := by decide +kernel
theorem dX5_eighthsKept_59 : decode cX5_eighthsKept 59 = .ok (.goto (-54), 3) := by decide +kernel
theorem dX5_eighthsKept_62 : decode cX5_eighthsKept 62 = .ok (.iconst 0, 1) := by decide +kernel
theorem dX5_eighthsKept_63 : decode cX5_eighthsKept 63 = .ok (.bipush 8, 2) := by decide +kernel
theorem dX5_eighthsKept_65 : decode cX5_eighthsKept 65 = .ok (.iload_n 3, 1) := by decide +kernel
theorem dX5_eighthsKept_66 : decode cX5_eighthsKept 66 = .ok (.isub, 1) := by decide +kernel
theorem dX5_eighthsKept_67 : decode cX5_eighthsKept 67 = .ok (.invokestatic 89, 3) := by decide +kernel
theorem dX5_eighthsKept_70 : decode cX5_eighthsKept 70 = .ok (.ireturn, 1) := by decide +kernel
theorem dX5_fillKept_0 : decode cX5_fillKept 0 = .ok (.iconst 0, 1) := by decide +kernel
theorem dX5_fillKept_1 : decode cX5_fillKept 1 = .ok (.istore_n 1, 1) := by decide +kernel
theorem dX5_fillKept_2 : decode cX5_fillKept 2 = .ok (.iload_n 1, 1) := by decide +kernel
theorem dX5_fillKept_3 : decode cX5_fillKept 3 = .ok (.aload_n 0, 1) := by decide +kernel
theorem dX5_fillKept_4 : decode cX5_fillKept 4 = .ok (.getfield 42, 3) := by decide +kernel
theorem dX5_fillKept_7 : decode cX5_fillKept 7 = .ok (.getfield 95, 3) := by decide +kernel
theorem dX5_fillKept_10 : decode cX5_fillKept 10 = .ok (.if_icmp .ge 45, 3) := by decide +kernel
theorem dX5_fillKept_13 : decode cX5_fillKept 13 = .ok (.iconst 0, 1) := by decide +kernel
theorem dX5_fillKept_14 : decode cX5_fillKept 14 = .ok (.istore_n 2, 1) := by decide +kernel
theorem dX5_fillKept_15 : decode cX5_fillKept 15 = .ok (.iload_n 2, 1) := by decide +kernel
theorem dX5_fillKept_16 : decode cX5_fillKept 16 = .ok (.aload_n 0, 1) := by decide +kernel
theorem dX5_fillKept_17 : decode cX5_fillKept 17 = .ok (.getfield 42, 3) := by decide +kernel
theorem dX5_fillKept_20 : decode cX5_fillKept 20 = .ok (.invokevirtual 69, 3) := by decide +kernel
theorem dX5_fillKept_23 : decode cX5_fillKept 23 = .ok (.if_icmp .ge 26, 3) := by decide +kernel
theorem dX5_fillKept_26 : decode cX5_fillKept 26 = .ok (.aload_n 0, 1) := by decide +kernel
theorem dX5_fillKept_27 : decode cX5_fillKept 27 = .ok (.getfield 30, 3) := by decide +kernel
theorem dX5_fillKept_30 : decode cX5_fillKept 30 = .ok (.iload_n 1, 1) := by decide +kernel
theorem dX5_fillKept_31 : decode cX5_fillKept 31 = .ok (.bipush 64, 2) := by decide +kernel
theorem dX5_fillKept_33 : decode cX5_fillKept 33 = .ok (.imul, 1) := by decide +kernel
theorem dX5_fillKept_34 : decode cX5_fillKept 34 = .ok (.iload_n 2, 1) := by decide +kernel
theorem dX5_fillKept_35 : decode cX5_fillKept 35 = .ok (.iadd, 1) := by decide +kernel
theorem dX5_fillKept_36 : decode cX5_fillKept 36 = .ok (.aload_n 0, 1) := by decide +kernel
theorem dX5_fillKept_37 : decode cX5_fillKept 37 = .ok (.iload_n 1, 1) := by decide +kernel
theorem dX5_fillKept_38 : decode cX5_fillKept 38 = .ok (.iload_n 2, 1) := by decide +kernel
theorem dX5_fillKept_39 : decode cX5_fillKept 39 = .ok (.invokevirtual 98, 3) := by decide +kernel
theorem dX5_fillKept_42 : decode cX5_fillKept 42 = .ok (.iastore, 1) := by decide +kernel
theorem dX5_fillKept_43 : decode cX5_fillKept 43 = .ok (.iinc 2 1, 3) := by decide +kernel
theorem dX5_fillKept_46 : decode cX5_fillKept 46 = .ok (.goto (-31), 3) := by decide +kernel
theorem dX5_fillKept_49 : decode cX5_fillKept 49 = .ok (.iinc 1 1, 3) := by decide +kernel
theorem dX5_fillKept_52 : decode cX5_fillKept 52 = .ok (.goto (-50), 3) := by decide +kernel
theorem dX5_fillKept_55 : decode cX5_fillKept 55 = .ok (.return_, 1) := by decide +kernel
theorem dX5_fillApart_0 : decode cX5_fillApart 0 = .ok (.iconst 0, 1) := by decide +kernel
theorem dX5_fillApart_1 : decode cX5_fillApart 1 = .ok (.istore_n 1, 1) := by decide +kernel
theorem dX5_fillApart_2 : decode cX5_fillApart 2 = .ok (.iload_n 1, 1) := by decide +kernel
theorem dX5_fillApart_3 : decode cX5_fillApart 3 = .ok (.aload_n 0, 1) := by decide +kernel
theorem dX5_fillApart_4 : decode cX5_fillApart 4 = .ok (.getfield 42, 3) := by decide +kernel
theorem dX5_fillApart_7 : decode cX5_fillApart 7 = .ok (.getfield 95, 3) := by decide +kernel
theorem dX5_fillApart_10 : decode cX5_fillApart 10 = .ok (.if_icmp .ge 84, 3) := by decide +kernel
theorem dX5_fillApart_13 : decode cX5_fillApart 13 = .ok (.iconst 0, 1) := by decide +kernel
theorem dX5_fillApart_14 : decode cX5_fillApart 14 = .ok (.istore_n 2, 1) := by decide +kernel
theorem dX5_fillApart_15 : decode cX5_fillApart 15 = .ok (.iload_n 2, 1) := by decide +kernel
theorem dX5_fillApart_16 : decode cX5_fillApart 16 = .ok (.aload_n 0, 1) := by decide +kernel
theorem dX5_fillApart_17 : decode cX5_fillApart 17 = .ok (.getfield 42, 3) := by decide +kernel
theorem dX5_fillApart_20 : decode cX5_fillApart 20 = .ok (.getfield 95, 3) := by decide +kernel
theorem dX5_fillApart_23 : decode cX5_fillApart 23 = .ok (.if_icmp .ge 65, 3) := by decide +kernel
theorem dX5_fillApart_26 : decode cX5_fillApart 26 = .ok (.aload_n 0, 1) := by decide +kernel
theorem dX5_fillApart_27 : decode cX5_fillApart 27 = .ok (.getfield 33, 3) := by decide +kernel
theorem dX5_fillApart_30 : decode cX5_fillApart 30 = .ok (.iload_n 1, 1) := by decide +kernel
theorem dX5_fillApart_31 : decode cX5_fillApart 31 = .ok (.bipush 10, 2) := by decide +kernel
theorem dX5_fillApart_33 : decode cX5_fillApart 33 = .ok (.imul, 1) := by decide +kernel
theorem dX5_fillApart_34 : decode cX5_fillApart 34 = .ok (.iload_n 2, 1) := by decide +kernel
theorem dX5_fillApart_35 : decode cX5_fillApart 35 = .ok (.iadd, 1) := by decide +kernel
theorem dX5_fillApart_36 : decode cX5_fillApart 36 = .ok (.aload_n 0, 1) := by decide +kernel
theorem dX5_fillApart_37 : decode cX5_fillApart 37 = .ok (.getfield 42, 3) := by decide +kernel
theorem dX5_fillApart_40 : decode cX5_fillApart 40 = .ok (.getfield 101, 3) := by decide +kernel
theorem dX5_fillApart_43 : decode cX5_fillApart 43 = .ok (.iload_n 1, 1) := by decide +kernel
theorem dX5_fillApart_44 : decode cX5_fillApart 44 = .ok (.iaload, 1) := by decide +kernel
theorem dX5_fillApart_45 : decode cX5_fillApart 45 = .ok (.aload_n 0, 1) := by decide +kernel
theorem dX5_fillApart_46 : decode cX5_fillApart 46 = .ok (.getfield 42, 3) := by decide +kernel
theorem dX5_fillApart_49 : decode cX5_fillApart 49 = .ok (.getfield 101, 3) := by decide +kernel
theorem dX5_fillApart_52 : decode cX5_fillApart 52 = .ok (.iload_n 2, 1) := by decide +kernel
theorem dX5_fillApart_53 : decode cX5_fillApart 53 = .ok (.iaload, 1) := by decide +kernel
theorem dX5_fillApart_54 : decode cX5_fillApart 54 = .ok (.isub, 1) := by decide +kernel
theorem dX5_fillApart_55 : decode cX5_fillApart 55 = .ok (.invokestatic 104, 3) := by decide +kernel
theorem dX5_fillApart_58 : decode cX5_fillApart 58 = .ok (.aload_n 0, 1) := by decide +kernel
theorem dX5_fillApart_59 : decode cX5_fillApart 59 = .ok (.getfield 42, 3) := by decide +kernel
theorem dX5_fillApart_62 : decode cX5_fillApart 62 = .ok (.getfield 108, 3) := by decide +kernel
theorem dX5_fillApart_65 : decode cX5_fillApart 65 = .ok (.iload_n 1, 1) := by decide +kernel
theorem dX5_fillApart_66 : decode cX5_fillApart 66 = .ok (.iaload, 1) := by decide +kernel
theorem dX5_fillApart_67 : decode cX5_fillApart 67 = .ok (.aload_n 0, 1) := by decide +kernel
theorem dX5_fillApart_68 : decode cX5_fillApart 68 = .ok (.getfield 42, 3) := by decide +kernel
theorem dX5_fillApart_71 : decode cX5_fillApart 71 = .ok (.getfield 108, 3) := by decide +kernel
theorem dX5_fillApart_74 : decode cX5_fillApart 74 = .ok (.iload_n 2, 1) := by decide +kernel
theorem dX5_fillApart_75 : decode cX5_fillApart 75 = .ok (.iaload, 1) := by decide +kernel
theorem dX5_fillApart_76 : decode cX5_fillApart 76 = .ok (.isub, 1) := by decide +kernel
theorem dX5_fillApart_77 : decode cX5_fillApart 77 = .ok (.invokestatic 104, 3) := by decide +kernel
theorem dX5_fillApart_80 : decode cX5_fillApart 80 = .ok (.iadd, 1) := by decide +kernel
theorem dX5_fillApart_81 : decode cX5_fillApart 81 = .ok (.iastore, 1) := by decide +kernel
theorem dX5_fillApart_82 : decode cX5_fillApart 82 = .ok (.iinc 2 1, 3) := by decide +kernel
theorem dX5_fillApart_85 : decode cX5_fillApart 85 = .ok (.goto (-70), 3) := by decide +kernel
theorem dX5_fillApart_88 : decode cX5_fillApart 88 = .ok (.iinc 1 1, 3) := by decide +kernel
theorem dX5_fillApart_91 : decode cX5_fillApart 91 = .ok (.goto (-89), 3) := by decide +kernel
theorem dX5_fillApart_94 : decode cX5_fillApart 94 = .ok (.return_, 1) := by decide +kernel
theorem dX5_makeRoom_0 : decode cX5_makeRoom 0 = .ok (.aload_n 0, 1) := by decide +kernel
theorem dX5_makeRoom_1 : decode cX5_makeRoom 1 = .ok (.getfield 42, 3) := by decide +kernel
theorem dX5_makeRoom_4 : decode cX5_makeRoom 4 = .ok (.invokevirtual 111, 3) := by decide +kernel
theorem dX5_makeRoom_7 : decode cX5_makeRoom 7 = .ok (.istore_n 1, 1) := by decide +kernel
theorem dX5_makeRoom_8 : decode cX5_makeRoom 8 = .ok (.aload_n 0, 1) := by decide +kernel
theorem dX5_makeRoom_9 : decode cX5_makeRoom 9 = .ok (.getfield 36, 3) := by decide +kernel
theorem dX5_makeRoom_12 : decode cX5_makeRoom 12 = .ok (.arraylength, 1) := by decide +kernel
theorem dX5_makeRoom_13 : decode cX5_makeRoom 13 = .ok (.iconst 4, 1) := by decide +kernel
theorem dX5_makeRoom_14 : decode cX5_makeRoom 14 = .ok (.iload_n 1, 1) := by decide +kernel
theorem dX5_makeRoom_15 : decode cX5_makeRoom 15 = .ok (.imul, 1) := by decide +kernel
theorem dX5_makeRoom_16 : decode cX5_makeRoom 16 = .ok (.if_icmp .ge 22, 3) := by decide +kernel
theorem dX5_makeRoom_19 : decode cX5_makeRoom 19 = .ok (.aload_n 0, 1) := by decide +kernel
theorem dX5_makeRoom_20 : decode cX5_makeRoom 20 = .ok (.iconst 4, 1) := by decide +kernel
theorem dX5_makeRoom_21 : decode cX5_makeRoom 21 = .ok (.iload_n 1, 1) := by decide +kernel
theorem dX5_makeRoom_22 : decode cX5_makeRoom 22 = .ok (.imul, 1) := by decide +kernel
theorem dX5_makeRoom_23 : decode cX5_makeRoom 23 = .ok (.newarray .int, 2) := by decide +kernel
theorem dX5_makeRoom_25 : decode cX5_makeRoom 25 = .ok (.putfield 36, 3) := by decide +kernel
theorem dX5_makeRoom_28 : decode cX5_makeRoom 28 = .ok (.aload_n 0, 1) := by decide +kernel
theorem dX5_makeRoom_29 : decode cX5_makeRoom 29 = .ok (.bipush 10, 2) := by decide +kernel
theorem dX5_makeRoom_31 : decode cX5_makeRoom 31 = .ok (.iload_n 1, 1) := by decide +kernel
theorem dX5_makeRoom_32 : decode cX5_makeRoom 32 = .ok (.imul, 1) := by decide +kernel
theorem dX5_makeRoom_33 : decode cX5_makeRoom 33 = .ok (.newarray .int, 2) := by decide +kernel
theorem dX5_makeRoom_35 : decode cX5_makeRoom 35 = .ok (.putfield 39, 3) := by decide +kernel
theorem dX5_makeRoom_38 : decode cX5_makeRoom 38 = .ok (.return_, 1) := by decide +kernel
theorem dX5_fillRounds_0 : decode cX5_fillRounds 0 = .ok (.aload_n 0, 1) := by decide +kernel
theorem dX5_fillRounds_1 : decode cX5_fillRounds 1 = .ok (.getfield 42, 3) := by decide +kernel
theorem dX5_fillRounds_4 : decode cX5_fillRounds 4 = .ok (.invokevirtual 111, 3) := by decide +kernel
theorem dX5_fillRounds_7 : decode cX5_fillRounds 7 = .ok (.istore_n 2, 1) := by decide +kernel
theorem dX5_fillRounds_8 : decode cX5_fillRounds 8 = .ok (.iload_n 1, 1) := by decide +kernel
theorem dX5_fillRounds_9 : decode cX5_fillRounds 9 = .ok (.aload_n 0, 1) := by decide +kernel
theorem dX5_fillRounds_10 : decode cX5_fillRounds 10 = .ok (.getfield 42, 3) := by decide +kernel
theorem dX5_fillRounds_13 : decode cX5_fillRounds 13 = .ok (.getfield 95, 3) := by decide +kernel
theorem dX5_fillRounds_16 : decode cX5_fillRounds 16 = .ok (.ishl, 1) := by decide +kernel
theorem dX5_fillRounds_17 : decode cX5_fillRounds 17 = .ok (.istore_n 3, 1) := by decide +kernel
theorem dX5_fillRounds_18 : decode cX5_fillRounds 18 = .ok (.aload_n 0, 1) := by decide +kernel
theorem dX5_fillRounds_19 : decode cX5_fillRounds 19 = .ok (.getfield 36, 3) := by decide +kernel
theorem dX5_fillRounds_22 : decode cX5_fillRounds 22 = .ok (.iload_n 3, 1) := by decide +kernel
theorem dX5_fillRounds_23 : decode cX5_fillRounds 23 = .ok (.iconst 0, 1) := by decide +kernel
theorem dX5_fillRounds_24 : decode cX5_fillRounds 24 = .ok (.iastore, 1) := by decide +kernel
theorem dX5_fillRounds_25 : decode cX5_fillRounds 25 = .ok (.iconst 1, 1) := by decide +kernel
theorem dX5_fillRounds_26 : decode cX5_fillRounds 26 = .ok (.istore 4, 2) := by decide +kernel
theorem dX5_fillRounds_28 : decode cX5_fillRounds 28 = .ok (.iload 4, 2) := by decide +kernel
theorem dX5_fillRounds_30 : decode cX5_fillRounds 30 = .ok (.iload_n 2, 1) := by decide +kernel
theorem dX5_fillRounds_31 : decode cX5_fillRounds 31 = .ok (.if_icmp .ge 120, 3) := by decide +kernel
theorem dX5_fillRounds_34 : decode cX5_fillRounds 34 = .ok (.ldc 114, 2) := by decide +kernel
theorem dX5_fillRounds_36 : decode cX5_fillRounds 36 = .ok (.istore 5, 2) := by decide +kernel
theorem dX5_fillRounds_38 : decode cX5_fillRounds 38 = .ok (.iconst 0, 1) := by decide +kernel
theorem dX5_fillRounds_39 : decode cX5_fillRounds 39 = .ok (.istore 6, 2) := by decide +kernel
theorem dX5_fillRounds_41 : decode cX5_fillRounds 41 = .ok (.iload 6, 2) := by decide +kernel
theorem dX5_fillRounds_43 : decode cX5_fillRounds 43 = .ok (.aload_n 0, 1) := by decide +kernel
theorem dX5_fillRounds_44 : decode cX5_fillRounds 44 = .ok (.getfield 42, 3) := by decide +kernel
theorem dX5_fillRounds_47 : decode cX5_fillRounds 47 = .ok (.getfield 95, 3) := by decide +kernel
theorem dX5_fillRounds_50 : decode cX5_fillRounds 50 = .ok (.if_icmp .ge 84, 3) := by decide +kernel
theorem dX5_fillRounds_53 : decode cX5_fillRounds 53 = .ok (.iload 4, 2) := by decide +kernel
theorem dX5_fillRounds_55 : decode cX5_fillRounds 55 = .ok (.iload 6, 2) := by decide +kernel
theorem dX5_fillRounds_57 : decode cX5_fillRounds 57 = .ok (.ishr, 1) := by decide +kernel
theorem dX5_fillRounds_58 : decode cX5_fillRounds 58 = .ok (.iconst 1, 1) := by decide +kernel
theorem dX5_fillRounds_59 : decode cX5_fillRounds 59 = .ok (.iand, 1) := by decide +kernel
theorem dX5_fillRounds_60 : decode cX5_fillRounds 60 = .ok (.ifCond .eq 68, 3) := by decide +kernel
theorem dX5_fillRounds_63 : decode cX5_fillRounds 63 = .ok (.aload_n 0, 1) := by decide +kernel
theorem dX5_fillRounds_64 : decode cX5_fillRounds 64 = .ok (.iload_n 1, 1) := by decide +kernel
theorem dX5_fillRounds_65 : decode cX5_fillRounds 65 = .ok (.iload 6, 2) := by decide +kernel
theorem dX5_fillRounds_67 : decode cX5_fillRounds 67 = .ok (.invokevirtual 115, 3) := by decide +kernel
theorem dX5_fillRounds_70 : decode cX5_fillRounds 70 = .ok (.istore 7, 2) := by decide +kernel
theorem dX5_fillRounds_72 : decode cX5_fillRounds 72 = .ok (.iload 4, 2) := by decide +kernel
theorem dX5_fillRounds_74 : decode cX5_fillRounds 74 = .ok (.iconst 1, 1) := by decide +kernel
theorem dX5_fillRounds_75 : decode cX5_fillRounds 75 = .ok (.iload 6, 2) := by decide +kernel
theorem dX5_fillRounds_77 : decode cX5_fillRounds 77 = .ok (.ishl, 1) := by decide +kernel
theorem dX5_fillRounds_78 : decode cX5_fillRounds 78 = .ok (.ixor, 1) := by decide +kernel
theorem dX5_fillRounds_79 : decode cX5_fillRounds 79 = .ok (.istore 8, 2) := by decide +kernel
theorem dX5_fillRounds_81 : decode cX5_fillRounds 81 = .ok (.iload 8, 2) := by decide +kernel
theorem dX5_fillRounds_83 : decode cX5_fillRounds 83 = .ok (.ifCond .ne 8, 3) := by decide +kernel
theorem dX5_fillRounds_86 : decode cX5_fillRounds 86 = .ok (.iload 7, 2) := by decide +kernel
theorem dX5_fillRounds_88 : decode cX5_fillRounds 88 = .ok (.goto 11, 3) := by decide +kernel
theorem dX5_fillRounds_91 : decode cX5_fillRounds 91 = .ok (.aload_n 0, 1) := by decide +kernel
theorem dX5_fillRounds_92 : decode cX5_fillRounds 92 = .ok (.iload 8, 2) := by decide +kernel
theorem dX5_fillRounds_94 : decode cX5_fillRounds 94 = .ok (.iload 6, 2) := by decide +kernel
theorem dX5_fillRounds_96 : decode cX5_fillRounds 96 = .ok (.invokevirtual 118, 3) := by decide +kernel
theorem dX5_fillRounds_99 : decode cX5_fillRounds 99 = .ok (.istore 9, 2) := by decide +kernel
theorem dX5_fillRounds_101 : decode cX5_fillRounds 101 = .ok (.aload_n 0, 1) := by decide +kernel
theorem dX5_fillRounds_102 : decode cX5_fillRounds 102 = .ok (.getfield 39, 3) := by decide +kernel
theorem dX5_fillRounds_105 : decode cX5_fillRounds 105 = .ok (.iload 4, 2) := by decide +kernel
theorem dX5_fillRounds_107 : decode cX5_fillRounds 107 = .ok (.bipush 10, 2) := by decide +kernel
theorem dX5_fillRounds_109 : decode cX5_fillRounds 109 = .ok (.imul, 1) := by decide +kernel
theorem dX5_fillRounds_110 : decode cX5_fillRounds 110 = .ok (.iload 6, 2) := by decide +kernel
theorem dX5_fillRounds_112 : decode cX5_fillRounds 112 = .ok (.iadd, 1) := by decide +kernel
theorem dX5_fillRounds_113 : decode cX5_fillRounds 113 = .ok (.iload 9, 2) := by decide +kernel
theorem dX5_fillRounds_115 : decode cX5_fillRounds 115 = .ok (.iastore, 1) := by decide +kernel
theorem dX5_fillRounds_116 : decode cX5_fillRounds 116 = .ok (.iload 5, 2) := by decide +kernel
theorem dX5_fillRounds_118 : decode cX5_fillRounds 118 = .ok (.iload 9, 2) := by decide +kernel
theorem dX5_fillRounds_120 : decode cX5_fillRounds 120 = .ok (.iload 7, 2) := by decide +kernel
theorem dX5_fillRounds_122 : decode cX5_fillRounds 122 = .ok (.iadd, 1) := by decide +kernel
theorem dX5_fillRounds_123 : decode cX5_fillRounds 123 = .ok (.invokestatic 121, 3) := by decide +kernel
theorem dX5_fillRounds_126 : decode cX5_fillRounds 126 = .ok (.istore 5, 2) := by decide +kernel
theorem dX5_fillRounds_128 : decode cX5_fillRounds 128 = .ok (.iinc 6 1, 3) := by decide +kernel
theorem dX5_fillRounds_131 : decode cX5_fillRounds 131 = .ok (.goto (-90), 3) := by decide +kernel
theorem dX5_fillRounds_134 : decode cX5_fillRounds 134 = .ok (.aload_n 0, 1) := by decide +kernel
theorem dX5_fillRounds_135 : decode cX5_fillRounds 135 = .ok (.getfield 36, 3) := by decide +kernel
theorem dX5_fillRounds_138 : decode cX5_fillRounds 138 = .ok (.iload_n 3, 1) := by decide +kernel
theorem dX5_fillRounds_139 : decode cX5_fillRounds 139 = .ok (.iload 4, 2) := by decide +kernel
theorem dX5_fillRounds_141 : decode cX5_fillRounds 141 = .ok (.iadd, 1) := by decide +kernel
theorem dX5_fillRounds_142 : decode cX5_fillRounds 142 = .ok (.iload 5, 2) := by decide +kernel
theorem dX5_fillRounds_144 : decode cX5_fillRounds 144 = .ok (.iastore, 1) := by decide +kernel
theorem dX5_fillRounds_145 : decode cX5_fillRounds 145 = .ok (.iinc 4 1, 3) := by decide +kernel
theorem dX5_fillRounds_148 : decode cX5_fillRounds 148 = .ok (.goto (-120), 3) := by decide +kernel
theorem dX5_fillRounds_151 : decode cX5_fillRounds 151 = .ok (.return_, 1) := by decide +kernel
theorem dX5_shortestWay_0 : decode cX5_shortestWay 0 = .ok (.ldc 114, 2) := by decide +kernel
theorem dX5_shortestWay_2 : decode cX5_shortestWay 2 = .ok (.istore_n 3, 1) := by decide +kernel
theorem dX5_shortestWay_3 : decode cX5_shortestWay 3 = .ok (.iconst 0, 1) := by decide +kernel
theorem dX5_shortestWay_4 : decode cX5_shortestWay 4 = .ok (.istore 4, 2) := by decide +kernel
theorem dX5_shortestWay_6 : decode cX5_shortestWay 6 = .ok (.iload 4, 2) := by decide +kernel
theorem dX5_shortestWay_8 : decode cX5_shortestWay 8 = .ok (.aload_n 0, 1) := by decide +kernel
theorem dX5_shortestWay_9 : decode cX5_shortestWay 9 = .ok (.getfield 42, 3) := by decide +kernel
theorem dX5_shortestWay_12 : decode cX5_shortestWay 12 = .ok (.getfield 95, 3) := by decide +kernel
theorem dX5_shortestWay_15 : decode cX5_shortestWay 15 = .ok (.if_icmp .ge 58, 3) := by decide +kernel
theorem dX5_shortestWay_18 : decode cX5_shortestWay 18 = .ok (.iload_n 1, 1) := by decide +kernel
theorem dX5_shortestWay_19 : decode cX5_shortestWay 19 = .ok (.iload 4, 2) := by decide +kernel
theorem dX5_shortestWay_21 : decode cX5_shortestWay 21 = .ok (.ishr, 1) := by decide +kernel
theorem dX5_shortestWay_22 : decode cX5_shortestWay 22 = .ok (.iconst 1, 1) := by decide +kernel
theorem dX5_shortestWay_23 : decode cX5_shortestWay 23 = .ok (.iand, 1) := by decide +kernel
theorem dX5_shortestWay_24 : decode cX5_shortestWay 24 = .ok (.ifCond .eq 43, 3) := by decide +kernel
theorem dX5_shortestWay_27 : decode cX5_shortestWay 27 = .ok (.aload_n 0, 1) := by decide +kernel
theorem dX5_shortestWay_28 : decode cX5_shortestWay 28 = .ok (.getfield 39, 3) := by decide +kernel
theorem dX5_shortestWay_31 : decode cX5_shortestWay 31 = .ok (.iload_n 1, 1) := by decide +kernel
theorem dX5_shortestWay_32 : decode cX5_shortestWay 32 = .ok (.bipush 10, 2) := by decide +kernel
theorem dX5_shortestWay_34 : decode cX5_shortestWay 34 = .ok (.imul, 1) := by decide +kernel
theorem dX5_shortestWay_35 : decode cX5_shortestWay 35 = .ok (.iload 4, 2) := by decide +kernel
theorem dX5_shortestWay_37 : decode cX5_shortestWay 37 = .ok (.iadd, 1) := by decide +kernel
theorem dX5_shortestWay_38 : decode cX5_shortestWay 38 = .ok (.iaload, 1) := by decide +kernel
theorem dX5_shortestWay_39 : decode cX5_shortestWay 39 = .ok (.aload_n 0, 1) := by decide +kernel
theorem dX5_shortestWay_40 : decode cX5_shortestWay 40 = .ok (.getfield 33, 3) := by decide +kernel
theorem dX5_shortestWay_43 : decode cX5_shortestWay 43 = .ok (.iload 4, 2) := by decide +kernel
theorem dX5_shortestWay_45 : decode cX5_shortestWay 45 = .ok (.bipush 10, 2) := by decide +kernel
theorem dX5_shortestWay_47 : decode cX5_shortestWay 47 = .ok (.imul, 1) := by decide +kernel
theorem dX5_shortestWay_48 : decode cX5_shortestWay 48 = .ok (.iload_n 2, 1) := by decide +kernel
theorem dX5_shortestWay_49 : decode cX5_shortestWay 49 = .ok (.iadd, 1) := by decide +kernel
theorem dX5_shortestWay_50 : decode cX5_shortestWay 50 = .ok (.iaload, 1) := by decide +kernel
theorem dX5_shortestWay_51 : decode cX5_shortestWay 51 = .ok (.iadd, 1) := by decide +kernel
theorem dX5_shortestWay_52 : decode cX5_shortestWay 52 = .ok (.istore 5, 2) := by decide +kernel
theorem dX5_shortestWay_54 : decode cX5_shortestWay 54 = .ok (.iload 5, 2) := by decide +kernel
theorem dX5_shortestWay_56 : decode cX5_shortestWay 56 = .ok (.iload_n 3, 1) := by decide +kernel
theorem dX5_shortestWay_57 : decode cX5_shortestWay 57 = .ok (.if_icmp .ge 8, 3) := by decide +kernel
theorem dX5_shortestWay_60 : decode cX5_shortestWay 60 = .ok (.iload 5, 2) := by decide +kernel
theorem dX5_shortestWay_62 : decode cX5_shortestWay 62 = .ok (.goto 4, 3) := by decide +kernel
theorem dX5_shortestWay_65 : decode cX5_shortestWay 65 = .ok (.iload_n 3, 1) := by decide +kernel
theorem dX5_shortestWay_66 : decode cX5_shortestWay 66 = .ok (.istore_n 3, 1) := by decide +kernel
theorem dX5_shortestWay_67 : decode cX5_shortestWay 67 = .ok (.iinc 4 1, 3) := by decide +kernel
theorem dX5_shortestWay_70 : decode cX5_shortestWay 70 = .ok (.goto (-64), 3) := by decide +kernel
theorem dX5_shortestWay_73 : decode cX5_shortestWay 73 = .ok (.iload_n 3, 1) := by decide +kernel
theorem dX5_shortestWay_74 : decode cX5_shortestWay 74 = .ok (.ireturn, 1) := by decide +kernel
theorem dX5_stepsFromHome_0 : decode cX5_stepsFromHome 0 = .ok (.aload_n 0, 1) := by decide +kernel
theorem dX5_stepsFromHome_1 : decode cX5_stepsFromHome 1 = .ok (.getfield 42, 3) := by decide +kernel
theorem dX5_stepsFromHome_4 : decode cX5_stepsFromHome 4 = .ok (.getfield 124, 3) := by decide +kernel
theorem dX5_stepsFromHome_7 : decode cX5_stepsFromHome 7 = .ok (.iload_n 1, 1) := by decide +kernel
theorem dX5_stepsFromHome_8 : decode cX5_stepsFromHome 8 = .ok (.iaload, 1) := by decide +kernel
theorem dX5_stepsFromHome_9 : decode cX5_stepsFromHome 9 = .ok (.aload_n 0, 1) := by decide +kernel
theorem dX5_stepsFromHome_10 : decode cX5_stepsFromHome 10 = .ok (.getfield 42, 3) := by decide +kernel
theorem dX5_stepsFromHome_13 : decode cX5_stepsFromHome 13 = .ok (.getfield 101, 3) := by decide +kernel
theorem dX5_stepsFromHome_16 : decode cX5_stepsFromHome 16 = .ok (.iload_n 2, 1) := by decide +kernel
theorem dX5_stepsFromHome_17 : decode cX5_stepsFromHome 17 = .ok (.iaload, 1) := by decide +kernel
theorem dX5_stepsFromHome_18 : decode cX5_stepsFromHome 18 = .ok (.isub, 1) := by decide +kernel
theorem dX5_stepsFromHome_19 : decode cX5_stepsFromHome 19 = .ok (.invokestatic 104, 3) := by decide +kernel
theorem dX5_stepsFromHome_22 : decode cX5_stepsFromHome 22 = .ok (.aload_n 0, 1) := by decide +kernel
theorem dX5_stepsFromHome_23 : decode cX5_stepsFromHome 23 = .ok (.getfield 42, 3) := by decide +kernel
theorem dX5_stepsFromHome_26 : decode cX5_stepsFromHome 26 = .ok (.getfield 127, 3) := by decide +kernel
theorem dX5_stepsFromHome_29 : decode cX5_stepsFromHome 29 = .ok (.iload_n 1, 1) := by decide +kernel
theorem dX5_stepsFromHome_30 : decode cX5_stepsFromHome 30 = .ok (.iaload, 1) := by decide +kernel
theorem dX5_stepsFromHome_31 : decode cX5_stepsFromHome 31 = .ok (.aload_n 0, 1) := by decide +kernel
theorem dX5_stepsFromHome_32 : decode cX5_stepsFromHome 32 = .ok (.getfield 42, 3) := by decide +kernel
theorem dX5_stepsFromHome_35 : decode cX5_stepsFromHome 35 = .ok (.getfield 108, 3) := by decide +kernel
theorem dX5_stepsFromHome_38 : decode cX5_stepsFromHome 38 = .ok (.iload_n 2, 1) := by decide +kernel
theorem dX5_stepsFromHome_39 : decode cX5_stepsFromHome 39 = .ok (.iaload, 1) := by decide +kernel
theorem dX5_stepsFromHome_40 : decode cX5_stepsFromHome 40 = .ok (.isub, 1) := by decide +kernel
theorem dX5_stepsFromHome_41 : decode cX5_stepsFromHome 41 = .ok (.invokestatic 104, 3) := by decide +kernel
theorem dX5_stepsFromHome_44 : decode cX5_stepsFromHome 44 = .ok (.iadd, 1) := by decide +kernel
theorem dX5_stepsFromHome_45 : decode cX5_stepsFromHome 45 = .ok (.ireturn, 1) := by decide +kernel
theorem dX5_roundOf_0 : decode cX5_roundOf 0 = .ok (.iload_n 1, 1) := by decide +kernel
theorem dX5_roundOf_1 : decode cX5_roundOf 1 = .ok (.aload_n 0, 1) := by decide +kernel
theorem dX5_roundOf_2 : decode cX5_roundOf 2 = .ok (.getfield 42, 3) := by decide +kernel
theorem dX5_roundOf_5 : decode cX5_roundOf 5 = .ok (.getfield 95, 3) := by decide +kernel
theorem dX5_roundOf_8 : decode cX5_roundOf 8 = .ok (.ishl, 1) := by decide +kernel
theorem dX5_roundOf_9 : decode cX5_roundOf 9 = .ok (.iload_n 2, 1) := by decide +kernel
theorem dX5_roundOf_10 : decode cX5_roundOf 10 = .ok (.iadd, 1) := by decide +kernel
theorem dX5_roundOf_11 : decode cX5_roundOf 11 = .ok (.istore_n 3, 1) := by decide +kernel
theorem dX5_roundOf_12 : decode cX5_roundOf 12 = .ok (.iload_n 3, 1) := by decide +kernel
theorem dX5_roundOf_13 : decode cX5_roundOf 13 = .ok (.ifCond .lt 21, 3) := by decide +kernel
theorem dX5_roundOf_16 : decode cX5_roundOf 16 = .ok (.iload_n 3, 1) := by decide +kernel
theorem dX5_roundOf_17 : decode cX5_roundOf 17 = .ok (.aload_n 0, 1) := by decide +kernel
theorem dX5_roundOf_18 : decode cX5_roundOf 18 = .ok (.getfield 36, 3) := by decide +kernel
theorem dX5_roundOf_21 : decode cX5_roundOf 21 = .ok (.arraylength, 1) := by decide +kernel
theorem dX5_roundOf_22 : decode cX5_roundOf 22 = .ok (.if_icmp .ge 12, 3) := by decide +kernel
theorem dX5_roundOf_25 : decode cX5_roundOf 25 = .ok (.aload_n 0, 1) := by decide +kernel
theorem dX5_roundOf_26 : decode cX5_roundOf 26 = .ok (.getfield 36, 3) := by decide +kernel
theorem dX5_roundOf_29 : decode cX5_roundOf 29 = .ok (.iload_n 3, 1) := by decide +kernel
theorem dX5_roundOf_30 : decode cX5_roundOf 30 = .ok (.iaload, 1) := by decide +kernel
theorem dX5_roundOf_31 : decode cX5_roundOf 31 = .ok (.goto 4, 3) := by decide +kernel
theorem dX5_roundOf_34 : decode cX5_roundOf 34 = .ok (.iconst 0, 1) := by decide +kernel
theorem dX5_roundOf_35 : decode cX5_roundOf 35 = .ok (.ireturn, 1) := by decide +kernel
theorem dX5_fillNets_0 : decode cX5_fillNets 0 = .ok (.aload_n 0, 1) := by decide +kernel
theorem dX5_fillNets_1 : decode cX5_fillNets 1 = .ok (.getfield 42, 3) := by decide +kernel
theorem dX5_fillNets_4 : decode cX5_fillNets 4 = .ok (.invokevirtual 69, 3) := by decide +kernel
theorem dX5_fillNets_7 : decode cX5_fillNets 7 = .ok (.istore 4, 2) := by decide +kernel
theorem dX5_fillNets_9 : decode cX5_fillNets 9 = .ok (.aload_n 0, 1) := by decide +kernel
theorem dX5_fillNets_10 : decode cX5_fillNets 10 = .ok (.getfield 42, 3) := by decide +kernel
theorem dX5_fillNets_13 : decode cX5_fillNets 13 = .ok (.getfield 130, 3) := by decide +kernel
theorem dX5_fillNets_16 : decode cX5_fillNets 16 = .ok (.iconst 1, 1) := by decide +kernel
theorem dX5_fillNets_17 : decode cX5_fillNets 17 = .ok (.if_icmp .ge 7, 3) := by decide +kernel
theorem dX5_fillNets_20 : decode cX5_fillNets 20 = .ok (.iconst 0, 1) := by decide +kernel
theorem dX5_fillNets_21 : decode cX5_fillNets 21 = .ok (.goto 17, 3) := by decide +kernel
theorem dX5_fillNets_24 : decode cX5_fillNets 24 = .ok (.aload_n 0, 1) := by decide +kernel
theorem dX5_fillNets_25 : decode cX5_fillNets 25 = .ok (.iload_n 1, 1) := by decide +kernel
theorem dX5_fillNets_26 : decode cX5_fillNets 26 = .ok (.iload_n 2, 1) := by decide +kernel
theorem dX5_fillNets_27 : decode cX5_fillNets 27 = .ok (.invokevirtual 133, 3) := by decide +kernel
theorem dX5_fillNets_30 : decode cX5_fillNets 30 = .ok (.aload_n 0, 1) := by decide +kernel
theorem dX5_fillNets_31 : decode cX5_fillNets 31 = .ok (.getfield 42, 3) := by decide +kernel
theorem dX5_fillNets_34 : decode cX5_fillNets 34 = .ok (.getfield 130, 3) := by decide +kernel
theorem dX5_fillNets_37 : decode cX5_fillNets 37 = .ok (.idiv, 1) := by decide +kernel
theorem dX5_fillNets_38 : decode cX5_fillNets 38 = .ok (.istore 5, 2) := by decide +kernel
theorem dX5_fillNets_40 : decode cX5_fillNets 40 = .ok (.iconst 0, 1) := by decide +kernel
theorem dX5_fillNets_41 : decode cX5_fillNets 41 = .ok (.istore 6, 2) := by decide +kernel
theorem dX5_fillNets_43 : decode cX5_fillNets 43 = .ok (.iload 6, 2) := by decide +kernel
theorem dX5_fillNets_45 : decode cX5_fillNets 45 = .ok (.iload 4, 2) := by decide +kernel
theorem dX5_fillNets_47 : decode cX5_fillNets 47 = .ok (.if_icmp .ge 19, 3) := by decide +kernel
theorem dX5_fillNets_50 : decode cX5_fillNets 50 = .ok (.aload_n 0, 1) := by decide +kernel
theorem dX5_fillNets_51 : decode cX5_fillNets 51 = .ok (.getfield 15, 3) := by decide +kernel
theorem dX5_fillNets_54 : decode cX5_fillNets 54 = .ok (.iload 6, 2) := by decide +kernel
theorem dX5_fillNets_56 : decode cX5_fillNets 56 = .ok (.iload 5, 2) := by decide +kernel
theorem dX5_fillNets_58 : decode cX5_fillNets 58 = .ok (.ineg, 1) := by decide +kernel
theorem dX5_fillNets_59 : decode cX5_fillNets 59 = .ok (.iastore, 1) := by decide +kernel
theorem dX5_fillNets_60 : decode cX5_fillNets 60 = .ok (.iinc 6 1, 3) := by decide +kernel
theorem dX5_fillNets_63 : decode cX5_fillNets 63 = .ok (.goto (-20), 3) := by decide +kernel
theorem dX5_fillNets_66 : decode cX5_fillNets 66 = .ok (.iconst 0, 1) := by decide +kernel
theorem dX5_fillNets_67 : decode cX5_fillNets 67 = .ok (.istore 6, 2) := by decide +kernel
theorem dX5_fillNets_69 : decode cX5_fillNets 69 = .ok (.iload 6, 2) := by decide +kernel
theorem dX5_fillNets_71 : decode cX5_fillNets 71 = .ok (.aload_n 0, 1) := by decide +kernel
theorem dX5_fillNets_72 : decode cX5_fillNets 72 = .ok (.getfield 42, 3) := by decide +kernel
theorem dX5_fillNets_75 : decode cX5_fillNets 75 = .ok (.getfield 95, 3) := by decide +kernel
theorem dX5_fillNets_78 : decode cX5_fillNets 78 = .ok (.if_icmp .ge 81, 3) := by decide +kernel
theorem dX5_fillNets_81 : decode cX5_fillNets 81 = .ok (.iload_n 2, 1) := by decide +kernel
theorem dX5_fillNets_82 : decode cX5_fillNets 82 = .ok (.iload 6, 2) := by decide +kernel
theorem dX5_fillNets_84 : decode cX5_fillNets 84 = .ok (.ishr, 1) := by decide +kernel
theorem dX5_fillNets_85 : decode cX5_fillNets 85 = .ok (.iconst 1, 1) := by decide +kernel
theorem dX5_fillNets_86 : decode cX5_fillNets 86 = .ok (.iand, 1) := by decide +kernel
theorem dX5_fillNets_87 : decode cX5_fillNets 87 = .ok (.ifCond .eq 66, 3) := by decide +kernel
theorem dX5_fillNets_90 : decode cX5_fillNets 90 = .ok (.aload_n 0, 1) := by decide +kernel
theorem dX5_fillNets_91 : decode cX5_fillNets 91 = .ok (.getfield 42, 3) := by decide +kernel
theorem dX5_fillNets_94 : decode cX5_fillNets 94 = .ok (.getfield 136, 3) := by decide +kernel
theorem dX5_fillNets_97 : decode cX5_fillNets 97 = .ok (.iload 6, 2) := by decide +kernel
theorem dX5_fillNets_99 : decode cX5_fillNets 99 = .ok (.iaload, 1) := by decide +kernel
theorem dX5_fillNets_100 : decode cX5_fillNets 100 = .ok (.iload_n 3, 1) := by decide +kernel
theorem dX5_fillNets_101 : decode cX5_fillNets 101 = .ok (.ishr, 1) := by decide +kernel
theorem dX5_fillNets_102 : decode cX5_fillNets 102 = .ok (.istore 7, 2) := by decide +kernel
theorem dX5_fillNets_104 : decode cX5_fillNets 104 = .ok (.iload 6, 2) := by decide +kernel
theorem dX5_fillNets_106 : decode cX5_fillNets 106 = .ok (.bipush 64, 2) := by decide +kernel
theorem dX5_fillNets_108 : decode cX5_fillNets 108 = .ok (.imul, 1) := by decide +kernel
theorem dX5_fillNets_109 : decode cX5_fillNets 109 = .ok (.istore 8, 2) := by decide +kernel
theorem dX5_fillNets_111 : decode cX5_fillNets 111 = .ok (.iconst 0, 1) := by decide +kernel
theorem dX5_fillNets_112 : decode cX5_fillNets 112 = .ok (.istore 9, 2) := by decide +kernel
theorem dX5_fillNets_114 : decode cX5_fillNets 114 = .ok (.iload 9, 2) := by decide +kernel
theorem dX5_fillNets_116 : decode cX5_fillNets 116 = .ok (.iload 4, 2) := by decide +kernel
theorem dX5_fillNets_118 : decode cX5_fillNets 118 = .ok (.if_icmp .ge 35, 3) := by decide +kernel
theorem dX5_fillNets_121 : decode cX5_fillNets 121 = .ok (.aload_n 0, 1) := by decide +kernel
theorem dX5_fillNets_122 : decode cX5_fillNets 122 = .ok (.getfield 15, 3) := by decide +kernel
theorem dX5_fillNets_125 : decode cX5_fillNets 125 = .ok (.iload 9, 2) := by decide +kernel
theorem dX5_fillNets_127 : decode cX5_fillNets 127 = .ok (.dup2, 1) := by decide +kernel
theorem dX5_fillNets_128 : decode cX5_fillNets 128 = .ok (.iaload, 1) := by decide +kernel
theorem dX5_fillNets_129 : decode cX5_fillNets 129 = .ok (.iload 7, 2) := by decide +kernel
theorem dX5_fillNets_131 : decode cX5_fillNets 131 = .ok (.aload_n 0, 1) := by decide +kernel
theorem dX5_fillNets_132 : decode cX5_fillNets 132 = .ok (.getfield 30, 3) := by decide +kernel
theorem dX5_fillNets_135 : decode cX5_fillNets 135 = .ok (.iload 8, 2) := by decide +kernel
theorem dX5_fillNets_137 : decode cX5_fillNets 137 = .ok (.iload 9, 2) := by decide +kernel
theorem dX5_fillNets_139 : decode cX5_fillNets 139 = .ok (.iadd, 1) := by decide +kernel
theorem dX5_fillNets_140 : decode cX5_fillNets 140 = .ok (.iaload, 1) := by decide +kernel
theorem dX5_fillNets_141 : decode cX5_fillNets 141 = .ok (.imul, 1) := by decide +kernel
theorem dX5_fillNets_142 : decode cX5_fillNets 142 = .ok (.bipush 8, 2) := by decide +kernel
theorem dX5_fillNets_144 : decode cX5_fillNets 144 = .ok (.idiv, 1) := by decide +kernel
theorem dX5_fillNets_145 : decode cX5_fillNets 145 = .ok (.iadd, 1) := by decide +kernel
theorem dX5_fillNets_146 : decode cX5_fillNets 146 = .ok (.iastore, 1) := by decide +kernel
theorem dX5_fillNets_147 : decode cX5_fillNets 147 = .ok (.iinc 9 1, 3) := by decide +kernel
theorem dX5_fillNets_150 : decode cX5_fillNets 150 = .ok (.goto (-36), 3) := by decide +kernel
theorem dX5_fillNets_153 : decode cX5_fillNets 153 = .ok (.iinc 6 1, 3) := by decide +kernel
theorem dX5_fillNets_156 : decode cX5_fillNets 156 = .ok (.goto (-87), 3) := by decide +kernel
theorem dX5_fillNets_159 : decode cX5_fillNets 159 = .ok (.iconst 0, 1) := by decide +kernel
theorem dX5_fillNets_160 : decode cX5_fillNets 160 = .ok (.istore 6, 2) := by decide +kernel
theorem dX5_fillNets_162 : decode cX5_fillNets 162 = .ok (.iload 6, 2) := by decide +kernel
theorem dX5_fillNets_164 : decode cX5_fillNets 164 = .ok (.iload 4, 2) := by decide +kernel
theorem dX5_fillNets_166 : decode cX5_fillNets 166 = .ok (.if_icmp .ge 27, 3) := by decide +kernel
theorem dX5_fillNets_169 : decode cX5_fillNets 169 = .ok (.aload_n 0, 1) := by decide +kernel
theorem dX5_fillNets_170 : decode cX5_fillNets 170 = .ok (.getfield 15, 3) := by decide +kernel
theorem dX5_fillNets_173 : decode cX5_fillNets 173 = .ok (.iload 6, 2) := by decide +kernel
theorem dX5_fillNets_175 : decode cX5_fillNets 175 = .ok (.iaload, 1) := by decide +kernel
theorem dX5_fillNets_176 : decode cX5_fillNets 176 = .ok (.ifCond .ge 11, 3) := by decide +kernel
theorem dX5_fillNets_179 : decode cX5_fillNets 179 = .ok (.aload_n 0, 1) := by decide +kernel
theorem dX5_fillNets_180 : decode cX5_fillNets 180 = .ok (.getfield 15, 3) := by decide +kernel
theorem dX5_fillNets_183 : decode cX5_fillNets 183 = .ok (.iload 6, 2) := by decide +kernel
theorem dX5_fillNets_185 : decode cX5_fillNets 185 = .ok (.iconst 0, 1) := by decide +kernel
theorem dX5_fillNets_186 : decode cX5_fillNets 186 = .ok (.iastore, 1) := by decide +kernel
theorem dX5_fillNets_187 : decode cX5_fillNets 187 = .ok (.iinc 6 1, 3) := by decide +kernel
theorem dX5_fillNets_190 : decode cX5_fillNets 190 = .ok (.goto (-28), 3) := by decide +kernel
theorem dX5_fillNets_193 : decode cX5_fillNets 193 = .ok (.return_, 1) := by decide +kernel
theorem dX5_weightAtMost_0 : decode cX5_weightAtMost 0 = .ok (.lconst 0, 1) := by decide +kernel
theorem dX5_weightAtMost_1 : decode cX5_weightAtMost 1 = .ok (.lstore_n 2, 1) := by decide +kernel
theorem dX5_weightAtMost_2 : decode cX5_weightAtMost 2 = .ok (.iconst 0, 1) := by decide +kernel
theorem dX5_weightAtMost_3 : decode cX5_weightAtMost 3 = .ok (.istore 4, 2) := by decide +kernel
theorem dX5_weightAtMost_5 : decode cX5_weightAtMost 5 = .ok (.iload 4, 2) := by decide +kernel
theorem dX5_weightAtMost_7 : decode cX5_weightAtMost 7 = .ok (.aload_n 0, 1) := by decide +kernel
theorem dX5_weightAtMost_8 : decode cX5_weightAtMost 8 = .ok (.getfield 42, 3) := by decide +kernel
theorem dX5_weightAtMost_11 : decode cX5_weightAtMost 11 = .ok (.invokevirtual 69, 3) := by decide +kernel
theorem dX5_weightAtMost_14 : decode cX5_weightAtMost 14 = .ok (.if_icmp .ge 30, 3) := by decide +kernel
theorem dX5_weightAtMost_17 : decode cX5_weightAtMost 17 = .ok (.aload_n 0, 1) := by decide +kernel
theorem dX5_weightAtMost_18 : decode cX5_weightAtMost 18 = .ok (.getfield 15, 3) := by decide +kernel
theorem dX5_weightAtMost_21 : decode cX5_weightAtMost 21 = .ok (.iload 4, 2) := by decide +kernel
theorem dX5_weightAtMost_23 : decode cX5_weightAtMost 23 = .ok (.iaload, 1) := by decide +kernel
theorem dX5_weightAtMost_24 : decode cX5_weightAtMost 24 = .ok (.iload_n 1, 1) := by decide +kernel
theorem dX5_weightAtMost_25 : decode cX5_weightAtMost 25 = .ok (.if_icmp .gt 13, 3) := by decide +kernel
theorem dX5_weightAtMost_28 : decode cX5_weightAtMost 28 = .ok (.lload_n 2, 1) := by decide +kernel
theorem dX5_weightAtMost_29 : decode cX5_weightAtMost 29 = .ok (.aload_n 0, 1) := by decide +kernel
theorem dX5_weightAtMost_30 : decode cX5_weightAtMost 30 = .ok (.getfield 9, 3) := by decide +kernel
theorem dX5_weightAtMost_33 : decode cX5_weightAtMost 33 = .ok (.iload 4, 2) := by decide +kernel
theorem dX5_weightAtMost_35 : decode cX5_weightAtMost 35 = .ok (.laload, 1) := by decide +kernel
theorem dX5_weightAtMost_36 : decode cX5_weightAtMost 36 = .ok (.ladd, 1) := by decide +kernel
theorem dX5_weightAtMost_37 : decode cX5_weightAtMost 37 = .ok (.lstore_n 2, 1) := by decide +kernel
theorem dX5_weightAtMost_38 : decode cX5_weightAtMost 38 = .ok (.iinc 4 1, 3) := by decide +kernel
theorem dX5_weightAtMost_41 : decode cX5_weightAtMost 41 = .ok (.goto (-36), 3) := by decide +kernel
theorem dX5_weightAtMost_44 : decode cX5_weightAtMost 44 = .ok (.lload_n 2, 1) := by decide +kernel
theorem dX5_weightAtMost_45 : decode cX5_weightAtMost 45 = .ok (.lreturn, 1) := by decide +kernel
theorem dX5_sumUp_0 : decode cX5_sumUp 0 = .ok (.aload_n 0, 1) := by decide +kernel
theorem dX5_sumUp_1 : decode cX5_sumUp 1 = .ok (.iload_n 1, 1) := by decide +kernel
theorem dX5_sumUp_2 : decode cX5_sumUp 2 = .ok (.iload_n 2, 1) := by decide +kernel
theorem dX5_sumUp_3 : decode cX5_sumUp 3 = .ok (.iconst 0, 1) := by decide +kernel
theorem dX5_sumUp_4 : decode cX5_sumUp 4 = .ok (.invokevirtual 139, 3) := by decide +kernel
theorem dX5_sumUp_7 : decode cX5_sumUp 7 = .ok (.aload_n 0, 1) := by decide +kernel
theorem dX5_sumUp_8 : decode cX5_sumUp 8 = .ok (.getfield 42, 3) := by decide +kernel
theorem dX5_sumUp_11 : decode cX5_sumUp 11 = .ok (.getfield 143, 3) := by decide +kernel
theorem dX5_sumUp_14 : decode cX5_sumUp 14 = .ok (.iload_n 1, 1) := by decide +kernel
theorem dX5_sumUp_15 : decode cX5_sumUp 15 = .ok (.iaload, 1) := by decide +kernel
theorem dX5_sumUp_16 : decode cX5_sumUp 16 = .ok (.istore_n 3, 1) := by decide +kernel
theorem dX5_sumUp_17 : decode cX5_sumUp 17 = .ok (.aload_n 0, 1) := by decide +kernel
theorem dX5_sumUp_18 : decode cX5_sumUp 18 = .ok (.getfield 42, 3) := by decide +kernel
theorem dX5_sumUp_21 : decode cX5_sumUp 21 = .ok (.invokevirtual 69, 3) := by decide +kernel
theorem dX5_sumUp_24 : decode cX5_sumUp 24 = .ok (.istore 4, 2) := by decide +kernel
theorem dX5_sumUp_26 : decode cX5_sumUp 26 = .ok (.aload_n 0, 1) := by decide +kernel
theorem dX5_sumUp_27 : decode cX5_sumUp 27 = .ok (.lconst 0, 1) := by decide +kernel
theorem dX5_sumUp_28 : decode cX5_sumUp 28 = .ok (.putfield 19, 3) := by decide +kernel
theorem dX5_sumUp_31 : decode cX5_sumUp 31 = .ok (.aload_n 0, 1) := by decide +kernel
theorem dX5_sumUp_32 : decode cX5_sumUp 32 = .ok (.lconst 0, 1) := by decide +kernel
theorem dX5_sumUp_33 : decode cX5_sumUp 33 = .ok (.putfield 23, 3) := by decide +kernel
theorem dX5_sumUp_36 : decode cX5_sumUp 36 = .ok (.iconst 0, 1) := by decide +kernel
theorem dX5_sumUp_37 : decode cX5_sumUp 37 = .ok (.istore 5, 2) := by decide +kernel
theorem dX5_sumUp_39 : decode cX5_sumUp 39 = .ok (.iload 5, 2) := by decide +kernel
theorem dX5_sumUp_41 : decode cX5_sumUp 41 = .ok (.iload 4, 2) := by decide +kernel
theorem dX5_sumUp_43 : decode cX5_sumUp 43 = .ok (.if_icmp .ge 66, 3) := by decide +kernel
theorem dX5_sumUp_46 : decode cX5_sumUp 46 = .ok (.aload_n 0, 1) := by decide +kernel
theorem dX5_sumUp_47 : decode cX5_sumUp 47 = .ok (.getfield 15, 3) := by decide +kernel
theorem dX5_sumUp_50 : decode cX5_sumUp 50 = .ok (.iload 5, 2) := by decide +kernel
theorem dX5_sumUp_52 : decode cX5_sumUp 52 = .ok (.iaload, 1) := by decide +kernel
theorem dX5_sumUp_53 : decode cX5_sumUp 53 = .ok (.istore 6, 2) := by decide +kernel
theorem dX5_sumUp_55 : decode cX5_sumUp 55 = .ok (.aload_n 0, 1) := by decide +kernel
theorem dX5_sumUp_56 : decode cX5_sumUp 56 = .ok (.dup, 1) := by decide +kernel
theorem dX5_sumUp_57 : decode cX5_sumUp 57 = .ok (.getfield 19, 3) := by decide +kernel
theorem dX5_sumUp_60 : decode cX5_sumUp 60 = .ok (.aload_n 0, 1) := by decide +kernel
theorem dX5_sumUp_61 : decode cX5_sumUp 61 = .ok (.getfield 9, 3) := by decide +kernel
theorem dX5_sumUp_64 : decode cX5_sumUp 64 = .ok (.iload 5, 2) := by decide +kernel
theorem dX5_sumUp_66 : decode cX5_sumUp 66 = .ok (.laload, 1) := by decide +kernel
theorem dX5_sumUp_67 : decode cX5_sumUp 67 = .ok (.iload 6, 2) := by decide +kernel
theorem dX5_sumUp_69 : decode cX5_sumUp 69 = .ok (.i2l, 1) := by decide +kernel
theorem dX5_sumUp_70 : decode cX5_sumUp 70 = .ok (.lmul, 1) := by decide +kernel
theorem dX5_sumUp_71 : decode cX5_sumUp 71 = .ok (.ladd, 1) := by decide +kernel
theorem dX5_sumUp_72 : decode cX5_sumUp 72 = .ok (.putfield 19, 3) := by decide +kernel
theorem dX5_sumUp_75 : decode cX5_sumUp 75 = .ok (.iload 6, 2) := by decide +kernel
theorem dX5_sumUp_77 : decode cX5_sumUp 77 = .ok (.iload_n 3, 1) := by decide +kernel
theorem dX5_sumUp_78 : decode cX5_sumUp 78 = .ok (.if_icmp .ge 25, 3) := by decide +kernel
theorem dX5_sumUp_81 : decode cX5_sumUp 81 = .ok (.aload_n 0, 1) := by decide +kernel
theorem dX5_sumUp_82 : decode cX5_sumUp 82 = .ok (.dup, 1) := by decide +kernel
theorem dX5_sumUp_83 : decode cX5_sumUp 83 = .ok (.getfield 23, 3) := by decide +kernel
theorem dX5_sumUp_86 : decode cX5_sumUp 86 = .ok (.aload_n 0, 1) := by decide +kernel
theorem dX5_sumUp_87 : decode cX5_sumUp 87 = .ok (.getfield 9, 3) := by decide +kernel
theorem dX5_sumUp_90 : decode cX5_sumUp 90 = .ok (.iload 5, 2) := by decide +kernel
theorem dX5_sumUp_92 : decode cX5_sumUp 92 = .ok (.laload, 1) := by decide +kernel
theorem dX5_sumUp_93 : decode cX5_sumUp 93 = .ok (.iload_n 3, 1) := by decide +kernel
theorem dX5_sumUp_94 : decode cX5_sumUp 94 = .ok (.iload 6, 2) := by decide +kernel
theorem dX5_sumUp_96 : decode cX5_sumUp 96 = .ok (.isub, 1) := by decide +kernel
theorem dX5_sumUp_97 : decode cX5_sumUp 97 = .ok (.i2l, 1) := by decide +kernel
theorem dX5_sumUp_98 : decode cX5_sumUp 98 = .ok (.lmul, 1) := by decide +kernel
theorem dX5_sumUp_99 : decode cX5_sumUp 99 = .ok (.ladd, 1) := by decide +kernel
theorem dX5_sumUp_100 : decode cX5_sumUp 100 = .ok (.putfield 23, 3) := by decide +kernel
theorem dX5_sumUp_103 : decode cX5_sumUp 103 = .ok (.iinc 5 1, 3) := by decide +kernel
theorem dX5_sumUp_106 : decode cX5_sumUp 106 = .ok (.goto (-67), 3) := by decide +kernel
theorem dX5_sumUp_109 : decode cX5_sumUp 109 = .ok (.return_, 1) := by decide +kernel
theorem dX5_worthOf_0 : decode cX5_worthOf 0 = .ok (.aload_n 0, 1) := by decide +kernel
theorem dX5_worthOf_1 : decode cX5_worthOf 1 = .ok (.iload_n 1, 1) := by decide +kernel
theorem dX5_worthOf_2 : decode cX5_worthOf 2 = .ok (.iload_n 2, 1) := by decide +kernel
theorem dX5_worthOf_3 : decode cX5_worthOf 3 = .ok (.invokevirtual 146, 3) := by decide +kernel
theorem dX5_worthOf_6 : decode cX5_worthOf 6 = .ok (.aload_n 0, 1) := by decide +kernel
theorem dX5_worthOf_7 : decode cX5_worthOf 7 = .ok (.getfield 19, 3) := by decide +kernel
theorem dX5_worthOf_10 : decode cX5_worthOf 10 = .ok (.aload_n 0, 1) := by decide +kernel
theorem dX5_worthOf_11 : decode cX5_worthOf 11 = .ok (.getfield 42, 3) := by decide +kernel
theorem dX5_worthOf_14 : decode cX5_worthOf 14 = .ok (.getfield 149, 3) := by decide +kernel
theorem dX5_worthOf_17 : decode cX5_worthOf 17 = .ok (.i2l, 1) := by decide +kernel
theorem dX5_worthOf_18 : decode cX5_worthOf 18 = .ok (.aload_n 0, 1) := by decide +kernel
theorem dX5_worthOf_19 : decode cX5_worthOf 19 = .ok (.getfield 23, 3) := by decide +kernel
theorem dX5_worthOf_22 : decode cX5_worthOf 22 = .ok (.lmul, 1) := by decide +kernel
theorem dX5_worthOf_23 : decode cX5_worthOf 23 = .ok (.lsub, 1) := by decide +kernel
theorem dX5_worthOf_24 : decode cX5_worthOf 24 = .ok (.lreturn, 1) := by decide +kernel
theorem dX5_halvingsUntilHungry_0 : decode cX5_halvingsUntilHungry 0 = .ok (.aload_n 0, 1) := by decide +kernel
theorem dX5_halvingsUntilHungry_1 : decode cX5_halvingsUntilHungry 1 = .ok (.getfield 42, 3) := by decide +kernel
theorem dX5_halvingsUntilHungry_4 : decode cX5_halvingsUntilHungry 4 = .ok (.iload_n 1, 1) := by decide +kernel
theorem dX5_halvingsUntilHungry_5 : decode cX5_halvingsUntilHungry 5 = .ok (.invokevirtual 152, 3) := by decide +kernel
theorem dX5_halvingsUntilHungry_8 : decode cX5_halvingsUntilHungry 8 = .ok (.istore_n 3, 1) := by decide +kernel
theorem dX5_halvingsUntilHungry_9 : decode cX5_halvingsUntilHungry 9 = .ok (.iconst 0, 1) := by decide +kernel
theorem dX5_halvingsUntilHungry_10 : decode cX5_halvingsUntilHungry 10 = .ok (.istore 4, 2) := by decide +kernel
theorem dX5_halvingsUntilHungry_12 : decode cX5_halvingsUntilHungry 12 = .ok (.iload 4, 2) := by decide +kernel
theorem dX5_halvingsUntilHungry_14 : decode cX5_halvingsUntilHungry 14 = .ok (.bipush 6, 2) := by decide +kernel
theorem dX5_halvingsUntilHungry_16 : decode cX5_halvingsUntilHungry 16 = .ok (.if_icmp .gt 50, 3) := by decide +kernel
theorem dX5_halvingsUntilHungry_19 : decode cX5_halvingsUntilHungry 19 = .ok (.aload_n 0, 1) := by decide +kernel
theorem dX5_halvingsUntilHungry_20 : decode cX5_halvingsUntilHungry 20 = .ok (.iload_n 1, 1) := by decide +kernel
theorem dX5_halvingsUntilHungry_21 : decode cX5_halvingsUntilHungry 21 = .ok (.iload_n 3, 1) := by decide +kernel
theorem dX5_halvingsUntilHungry_22 : decode cX5_halvingsUntilHungry 22 = .ok (.iload 4, 2) := by decide +kernel
theorem dX5_halvingsUntilHungry_24 : decode cX5_halvingsUntilHungry 24 = .ok (.invokevirtual 139, 3) := by decide +kernel
theorem dX5_halvingsUntilHungry_27 : decode cX5_halvingsUntilHungry 27 = .ok (.aload_n 0, 1) := by decide +kernel
theorem dX5_halvingsUntilHungry_28 : decode cX5_halvingsUntilHungry 28 = .ok (.aload_n 0, 1) := by decide +kernel
theorem dX5_halvingsUntilHungry_29 : decode cX5_halvingsUntilHungry 29 = .ok (.getfield 42, 3) := by decide +kernel
theorem dX5_halvingsUntilHungry_32 : decode cX5_halvingsUntilHungry 32 = .ok (.getfield 143, 3) := by decide +kernel
theorem dX5_halvingsUntilHungry_35 : decode cX5_halvingsUntilHungry 35 = .ok (.iload_n 1, 1) := by decide +kernel
theorem dX5_halvingsUntilHungry_36 : decode cX5_halvingsUntilHungry 36 = .ok (.iaload, 1) := by decide +kernel
theorem dX5_halvingsUntilHungry_37 : decode cX5_halvingsUntilHungry 37 = .ok (.iconst 1, 1) := by decide +kernel
theorem dX5_halvingsUntilHungry_38 : decode cX5_halvingsUntilHungry 38 = .ok (.isub, 1) := by decide +kernel
theorem dX5_halvingsUntilHungry_39 : decode cX5_halvingsUntilHungry 39 = .ok (.invokevirtual 155, 3) := by decide +kernel
theorem dX5_halvingsUntilHungry_42 : decode cX5_halvingsUntilHungry 42 = .ok (.ldc2_w 159, 3) := by decide +kernel
theorem dX5_halvingsUntilHungry_45 : decode cX5_halvingsUntilHungry 45 = .ok (.lmul, 1) := by decide +kernel
theorem dX5_halvingsUntilHungry_46 : decode cX5_halvingsUntilHungry 46 = .ok (.iload_n 2, 1) := by decide +kernel
theorem dX5_halvingsUntilHungry_47 : decode cX5_halvingsUntilHungry 47 = .ok (.i2l, 1) := by decide +kernel
theorem dX5_halvingsUntilHungry_48 : decode cX5_halvingsUntilHungry 48 = .ok (.aload_n 0, 1) := by decide +kernel
theorem dX5_halvingsUntilHungry_49 : decode cX5_halvingsUntilHungry 49 = .ok (.invokevirtual 161, 3) := by decide +kernel
theorem dX5_halvingsUntilHungry_52 : decode cX5_halvingsUntilHungry 52 = .ok (.lmul, 1) := by decide +kernel
theorem dX5_halvingsUntilHungry_53 : decode cX5_halvingsUntilHungry 53 = .ok (.lcmp, 1) := by decide +kernel
theorem dX5_halvingsUntilHungry_54 : decode cX5_halvingsUntilHungry 54 = .ok (.ifCond .lt 6, 3) := by decide +kernel
theorem dX5_halvingsUntilHungry_57 : decode cX5_halvingsUntilHungry 57 = .ok (.iload 4, 2) := by decide +kernel
theorem dX5_halvingsUntilHungry_59 : decode cX5_halvingsUntilHungry 59 = .ok (.ireturn, 1) := by decide +kernel
theorem dX5_halvingsUntilHungry_60 : decode cX5_halvingsUntilHungry 60 = .ok (.iinc 4 1, 3) := by decide +kernel
theorem dX5_halvingsUntilHungry_63 : decode cX5_halvingsUntilHungry 63 = .ok (.goto (-51), 3) := by decide +kernel
theorem dX5_halvingsUntilHungry_66 : decode cX5_halvingsUntilHungry 66 = .ok (.iconst (-1), 1) := by decide +kernel
theorem dX5_halvingsUntilHungry_67 : decode cX5_halvingsUntilHungry 67 = .ok (.ireturn, 1) := by decide +kernel
theorem dX5_hungryYears_0 : decode cX5_hungryYears 0 = .ok (.aload_n 0, 1) := by decide +kernel
theorem dX5_hungryYears_1 : decode cX5_hungryYears 1 = .ok (.iload_n 1, 1) := by decide +kernel
theorem dX5_hungryYears_2 : decode cX5_hungryYears 2 = .ok (.iload_n 2, 1) := by decide +kernel
theorem dX5_hungryYears_3 : decode cX5_hungryYears 3 = .ok (.iconst 0, 1) := by decide +kernel
theorem dX5_hungryYears_4 : decode cX5_hungryYears 4 = .ok (.invokevirtual 139, 3) := by decide +kernel
theorem dX5_hungryYears_7 : decode cX5_hungryYears 7 = .ok (.iconst 0, 1) := by decide +kernel
theorem dX5_hungryYears_8 : decode cX5_hungryYears 8 = .ok (.istore 5, 2) := by decide +kernel
theorem dX5_hungryYears_10 : decode cX5_hungryYears 10 = .ok (.iconst 0, 1) := by decide +kernel
theorem dX5_hungryYears_11 : decode cX5_hungryYears 11 = .ok (.istore 6, 2) := by decide +kernel
theorem dX5_hungryYears_13 : decode cX5_hungryYears 13 = .ok (.iload 6, 2) := by decide +kernel
theorem dX5_hungryYears_15 : decode cX5_hungryYears 15 = .ok (.iload 4, 2) := by decide +kernel
theorem dX5_hungryYears_17 : decode cX5_hungryYears 17 = .ok (.if_icmp .ge 50, 3) := by decide +kernel
theorem dX5_hungryYears_20 : decode cX5_hungryYears 20 = .ok (.aload_n 3, 1) := by decide +kernel
theorem dX5_hungryYears_21 : decode cX5_hungryYears 21 = .ok (.iload 6, 2) := by decide +kernel
theorem dX5_hungryYears_23 : decode cX5_hungryYears 23 = .ok (.laload, 1) := by decide +kernel
theorem dX5_hungryYears_24 : decode cX5_hungryYears 24 = .ok (.l2i, 1) := by decide +kernel
theorem dX5_hungryYears_25 : decode cX5_hungryYears 25 = .ok (.istore 7, 2) := by decide +kernel
theorem dX5_hungryYears_27 : decode cX5_hungryYears 27 = .ok (.aload_n 0, 1) := by decide +kernel
theorem dX5_hungryYears_28 : decode cX5_hungryYears 28 = .ok (.getfield 42, 3) := by decide +kernel
theorem dX5_hungryYears_31 : decode cX5_hungryYears 31 = .ok (.iload 7, 2) := by decide +kernel
theorem dX5_hungryYears_33 : decode cX5_hungryYears 33 = .ok (.invokevirtual 165, 3) := by decide +kernel
theorem dX5_hungryYears_36 : decode cX5_hungryYears 36 = .ok (.ifCond .eq 25, 3) := by decide +kernel
theorem dX5_hungryYears_39 : decode cX5_hungryYears 39 = .ok (.aload_n 0, 1) := by decide +kernel
theorem dX5_hungryYears_40 : decode cX5_hungryYears 40 = .ok (.getfield 15, 3) := by decide +kernel
theorem dX5_hungryYears_43 : decode cX5_hungryYears 43 = .ok (.iload 7, 2) := by decide +kernel
theorem dX5_hungryYears_45 : decode cX5_hungryYears 45 = .ok (.iaload, 1) := by decide +kernel
theorem dX5_hungryYears_46 : decode cX5_hungryYears 46 = .ok (.aload_n 0, 1) := by decide +kernel
theorem dX5_hungryYears_47 : decode cX5_hungryYears 47 = .ok (.getfield 42, 3) := by decide +kernel
theorem dX5_hungryYears_50 : decode cX5_hungryYears 50 = .ok (.getfield 143, 3) := by decide +kernel
theorem dX5_hungryYears_53 : decode cX5_hungryYears 53 = .ok (.iload_n 1, 1) := by decide +kernel
theorem dX5_hungryYears_54 : decode cX5_hungryYears 54 = .ok (.iaload, 1) := by decide +kernel
theorem dX5_hungryYears_55 : decode cX5_hungryYears 55 = .ok (.if_icmp .ge 6, 3) := by decide +kernel
theorem dX5_hungryYears_58 : decode cX5_hungryYears 58 = .ok (.iinc 5 1, 3) := by decide +kernel
theorem dX5_hungryYears_61 : decode cX5_hungryYears 61 = .ok (.iinc 6 1, 3) := by decide +kernel
theorem dX5_hungryYears_64 : decode cX5_hungryYears 64 = .ok (.goto (-51), 3) := by decide +kernel
theorem dX5_hungryYears_67 : decode cX5_hungryYears 67 = .ok (.iload 5, 2) := by decide +kernel
theorem dX5_hungryYears_69 : decode cX5_hungryYears 69 = .ok (.ireturn, 1) := by decide +kernel
theorem dX6_init_0 : decode cX6_init 0 = .ok (.aload_n 0, 1) := by decide +kernel
theorem dX6_init_1 : decode cX6_init 1 = .ok (.invokespecial 3, 3) := by decide +kernel
theorem dX6_init_4 : decode cX6_init 4 = .ok (.aload_n 0, 1) := by decide +kernel
theorem dX6_init_5 : decode cX6_init 5 = .ok (.sipush 600, 3) := by decide +kernel
theorem dX6_init_8 : decode cX6_init 8 = .ok (.newarray .byte, 2) := by decide +kernel
theorem dX6_init_10 : decode cX6_init 10 = .ok (.putfield 9, 3) := by decide +kernel
theorem dX6_init_13 : decode cX6_init 13 = .ok (.aload_n 0, 1) := by decide +kernel
theorem dX6_init_14 : decode cX6_init 14 = .ok (.iconst 0, 1) := by decide +kernel
theorem dX6_init_15 : decode cX6_init 15 = .ok (.putfield 15, 3) := by decide +kernel
theorem dX6_init_18 : decode cX6_init 18 = .ok (.aload_n 0, 1) := by decide +kernel
theorem dX6_init_19 : decode cX6_init 19 = .ok (.new 19, 3) := by decide +kernel
theorem dX6_init_22 : decode cX6_init 22 = .ok (.dup, 1) := by decide +kernel
theorem dX6_init_23 : decode cX6_init 23 = .ok (.invokespecial 21, 3) := by decide +kernel
theorem dX6_init_26 : decode cX6_init 26 = .ok (.putfield 22, 3) := by decide +kernel
theorem dX6_init_29 : decode cX6_init 29 = .ok (.aload_n 0, 1) := by decide +kernel
theorem dX6_init_30 : decode cX6_init 30 = .ok (.iconst 0, 1) := by decide +kernel
theorem dX6_init_31 : decode cX6_init 31 = .ok (.putfield 26, 3) := by decide +kernel
theorem dX6_init_34 : decode cX6_init 34 = .ok (.aload_n 0, 1) := by decide +kernel
theorem dX6_init_35 : decode cX6_init 35 = .ok (.iconst (-1), 1) := by decide +kernel
theorem dX6_init_36 : decode cX6_init 36 = .ok (.putfield 29, 3) := by decide +kernel
theorem dX6_init_39 : decode cX6_init 39 = .ok (.aload_n 0, 1) := by decide +kernel
theorem dX6_init_40 : decode cX6_init 40 = .ok (.iconst 0, 1) := by decide +kernel
theorem dX6_init_41 : decode cX6_init 41 = .ok (.putfield 32, 3) := by decide +kernel
theorem dX6_init_44 : decode cX6_init 44 = .ok (.aload_n 0, 1) := by decide +kernel
theorem dX6_init_45 : decode cX6_init 45 = .ok (.iconst 0, 1) := by decide +kernel
theorem dX6_init_46 : decode cX6_init 46 = .ok (.putfield 35, 3) := by decide +kernel
theorem dX6_init_49 : decode cX6_init 49 = .ok (.aload_n 0, 1) := by decide +kernel
theorem dX6_init_50 : decode cX6_init 50 = .ok (.iconst 0, 1) := by decide +kernel
theorem dX6_init_51 : decode cX6_init 51 = .ok (.putfield 38, 3) := by decide +kernel
theorem dX6_init_54 : decode cX6_init 54 = .ok (.aload_n 0, 1) := by decide +kernel
theorem dX6_init_55 : decode cX6_init 55 = .ok (.iconst 0, 1) := by decide +kernel
theorem dX6_init_56 : decode cX6_init 56 = .ok (.putfield 41, 3) := by decide +kernel
theorem dX6_init_59 : decode cX6_init 59 = .ok (.aload_n 0, 1) := by decide +kernel
theorem dX6_init_60 : decode cX6_init 60 = .ok (.iconst 0, 1) := by decide +kernel
theorem dX6_init_61 : decode cX6_init 61 = .ok (.putfield 44, 3) := by decide +kernel
theorem dX6_init_64 : decode cX6_init 64 = .ok (.aload_n 0, 1) := by decide +kernel
theorem dX6_init_65 : decode cX6_init 65 = .ok (.lconst 0, 1) := by decide +kernel
theorem dX6_init_66 : decode cX6_init 66 = .ok (.putfield 47, 3) := by decide +kernel
theorem dX6_init_69 : decode cX6_init 69 = .ok (.aload_n 0, 1) := by decide +kernel
theorem dX6_init_70 : decode cX6_init 70 = .ok (.bipush 10, 2) := by decide +kernel
theorem dX6_init_72 : decode cX6_init 72 = .ok (.newarray .long, 2) := by decide +kernel
theorem dX6_init_74 : decode cX6_init 74 = .ok (.putfield 51, 3) := by decide +kernel
theorem dX6_init_77 : decode cX6_init 77 = .ok (.aload_n 0, 1) := by decide +kernel
theorem dX6_init_78 : decode cX6_init 78 = .ok (.iconst 4, 1) := by decide +kernel
theorem dX6_init_79 : decode cX6_init 79 = .ok (.newarray .long, 2) := by decide +kernel
theorem dX6_init_81 : decode cX6_init 81 = .ok (.putfield 55, 3) := by decide +kernel
theorem dX6_init_84 : decode cX6_init 84 = .ok (.aload_n 0, 1) := by decide +kernel
theorem dX6_init_85 : decode cX6_init 85 = .ok (.bipush 6, 2) := by decide +kernel
theorem dX6_init_87 : decode cX6_init 87 = .ok (.newarray .int, 2) := by decide +kernel
theorem dX6_init_89 : decode cX6_init 89 = .ok (.putfield 58, 3) := by decide +kernel
theorem dX6_init_92 : decode cX6_init 92 = .ok (.aload_n 0, 1) := by decide +kernel
theorem dX6_init_93 : decode cX6_init 93 = .ok (.bipush 6, 2) := by decide +kernel
theorem dX6_init_95 : decode cX6_init 95 = .ok (.newarray .int, 2) := by decide +kernel
theorem dX6_init_97 : decode cX6_init 97 = .ok (.putfield 62, 3) := by decide +kernel
theorem dX6_init_100 : decode cX6_init 100 = .ok (.return_, 1) := by decide +kernel
theorem dX6_append_0 : decode cX6_append 0 = .ok (.bipush 24, 2) := by decide +kernel
theorem dX6_append_2 : decode cX6_append 2 = .ok (.istore_n 2, 1) := by decide +kernel
theorem dX6_append_3 : decode cX6_append 3 = .ok (.iload_n 2, 1) := by decide +kernel
theorem dX6_append_4 : decode cX6_append 4 = .ok (.ifCond .lt 42, 3) := by decide +kernel
theorem dX6_append_7 : decode cX6_append 7 = .ok (.aload_n 0, 1) := by decide +kernel
theorem dX6_append_8 : decode cX6_append 8 = .ok (.getfield 15, 3) := by decide +kernel
theorem dX6_append_11 : decode cX6_append 11 = .ok (.sipush 600, 3) := by decide +kernel
theorem dX6_append_14 : decode cX6_append 14 = .ok (.if_icmp .ge 26, 3) := by decide +kernel
theorem dX6_append_17 : decode cX6_append 17 = .ok (.aload_n 0, 1) := by decide +kernel
theorem dX6_append_18 : decode cX6_append 18 = .ok (.getfield 9, 3) := by decide +kernel
theorem dX6_append_21 : decode cX6_append 21 = .ok (.aload_n 0, 1) := by decide +kernel
theorem dX6_append_22 : decode cX6_append 22 = .ok (.getfield 15, 3) := by decide +kernel
theorem dX6_append_25 : decode cX6_append 25 = .ok (.iload_n 1, 1) := by decide +kernel
theorem dX6_append_26 : decode cX6_append 26 = .ok (.iload_n 2, 1) := by decide +kernel
theorem dX6_append_27 : decode cX6_append 27 = .ok (.ishr, 1) := by decide +kernel
theorem dX6_append_28 : decode cX6_append 28 = .ok (.i2b, 1) := by decide +kernel
theorem dX6_append_29 : decode cX6_append 29 = .ok (.bastore, 1) := by decide +kernel
theorem dX6_append_30 : decode cX6_append 30 = .ok (.aload_n 0, 1) := by decide +kernel
theorem dX6_append_31 : decode cX6_append 31 = .ok (.dup, 1) := by decide +kernel
theorem dX6_append_32 : decode cX6_append 32 = .ok (.getfield 15, 3) := by decide +kernel
theorem dX6_append_35 : decode cX6_append 35 = .ok (.iconst 1, 1) := by decide +kernel
theorem dX6_append_36 : decode cX6_append 36 = .ok (.iadd, 1) := by decide +kernel
theorem dX6_append_37 : decode cX6_append 37 = .ok (.putfield 15, 3) := by decide +kernel
theorem dX6_append_40 : decode cX6_append 40 = .ok (.iinc 2 (-8), 3) := by decide +kernel
theorem dX6_append_43 : decode cX6_append 43 = .ok (.goto (-40), 3) := by decide +kernel
theorem dX6_append_46 : decode cX6_append 46 = .ok (.return_, 1) := by decide +kernel
theorem dX6_parse_0 : decode cX6_parse 0 = .ok (.aload_n 0, 1) := by decide +kernel
theorem dX6_parse_1 : decode cX6_parse 1 = .ok (.iload_n 1, 1) := by decide +kernel
theorem dX6_parse_2 : decode cX6_parse 2 = .ok (.aload_n 0, 1) := by decide +kernel
theorem dX6_parse_3 : decode cX6_parse 3 = .ok (.getfield 15, 3) := by decide +kernel
theorem dX6_parse_6 : decode cX6_parse 6 = .ok (.invokestatic 65, 3) := by decide +kernel
theorem dX6_parse_9 : decode cX6_parse 9 = .ok (.putfield 32, 3) := by decide +kernel
theorem dX6_parse_12 : decode cX6_parse 12 = .ok (.aload_n 0, 1) := by decide +kernel
theorem dX6_parse_13 : decode cX6_parse 13 = .ok (.iconst 0, 1) := by decide +kernel
theorem dX6_parse_14 : decode cX6_parse 14 = .ok (.putfield 35, 3) := by decide +kernel
theorem dX6_parse_17 : decode cX6_parse 17 = .ok (.aload_n 0, 1) := by decide +kernel
theorem dX6_parse_18 : decode cX6_parse 18 = .ok (.iconst 0, 1) := by decide +kernel
theorem dX6_parse_19 : decode cX6_parse 19 = .ok (.putfield 26, 3) := by decide +kernel
theorem dX6_parse_22 : decode cX6_parse 22 = .ok (.aload_n 0, 1) := by decide +kernel
theorem dX6_parse_23 : decode cX6_parse 23 = .ok (.iconst (-1), 1) := by decide +kernel
theorem dX6_parse_24 : decode cX6_parse 24 = .ok (.putfield 29, 3) := by decide +kernel
theorem dX6_parse_27 : decode cX6_parse 27 = .ok (.aload_n 0, 1) := by decide +kernel
theorem dX6_parse_28 : decode cX6_parse 28 = .ok (.getfield 22, 3) := by decide +kernel
theorem dX6_parse_31 : decode cX6_parse 31 = .ok (.invokevirtual 71, 3) := by decide +kernel
theorem dX6_parse_34 : decode cX6_parse 34 = .ok (.aload_n 0, 1) := by decide +kernel
theorem dX6_parse_35 : decode cX6_parse 35 = .ok (.invokevirtual 74, 3) := by decide +kernel
theorem dX6_parse_38 : decode cX6_parse 38 = .ok (.iconst 0, 1) := by decide +kernel
theorem dX6_parse_39 : decode cX6_parse 39 = .ok (.istore_n 2, 1) := by decide +kernel
theorem dX6_parse_40 : decode cX6_parse 40 = .ok (.iload_n 2, 1) := by decide +kernel
theorem dX6_parse_41 : decode cX6_parse 41 = .ok (.sipush 600, 3) := by decide +kernel
theorem dX6_parse_44 : decode cX6_parse 44 = .ok (.if_icmp .gt 61, 3) := by decide +kernel
theorem dX6_parse_47 : decode cX6_parse 47 = .ok (.aload_n 0, 1) := by decide +kernel
theorem dX6_parse_48 : decode cX6_parse 48 = .ok (.getfield 26, 3) := by decide +kernel
theorem dX6_parse_51 : decode cX6_parse 51 = .ok (.ifCond .ne 54, 3) := by decide +kernel
theorem dX6_parse_54 : decode cX6_parse 54 = .ok (.aload_n 0, 1) := by decide +kernel
theorem dX6_parse_55 : decode cX6_parse 55 = .ok (.getfield 38, 3) := by decide +kernel
theorem dX6_parse_58 : decode cX6_parse 58 = .ok (.ifCond .eq 47, 3) := by decide +kernel
theorem dX6_parse_61 : decode cX6_parse 61 = .ok (.aload_n 0, 1) := by decide +kernel
theorem dX6_parse_62 : decode cX6_parse 62 = .ok (.ldc2_w 77, 3) := by decide +kernel
theorem dX6_parse_65 : decode cX6_parse 65 = .ok (.invokevirtual 79, 3) := by decide +kernel
theorem dX6_parse_68 : decode cX6_parse 68 = .ok (.ifCond .eq 10, 3) := by decide +kernel
theorem dX6_parse_71 : decode cX6_parse 71 = .ok (.aload_n 0, 1) := by decide +kernel
theorem dX6_parse_72 : decode cX6_parse 72 = .ok (.invokevirtual 83, 3) := by decide +kernel
theorem dX6_parse_75 : decode cX6_parse 75 = .ok (.goto 24, 3) := by decide +kernel
theorem dX6_parse_78 : decode cX6_parse 78 = .ok (.aload_n 0, 1) := by decide +kernel
theorem dX6_parse_79 : decode cX6_parse 79 = .ok (.ldc2_w 86, 3) := by decide +kernel
theorem dX6_parse_82 : decode cX6_parse 82 = .ok (.invokevirtual 79, 3) := by decide +kernel
theorem dX6_parse_85 : decode cX6_parse 85 = .ok (.ifCond .eq 10, 3) := by decide +kernel
theorem dX6_parse_88 : decode cX6_parse 88 = .ok (.aload_n 0, 1) := by decide +kernel
theorem dX6_parse_89 : decode cX6_parse 89 = .ok (.invokevirtual 88, 3) := by decide +kernel
theorem dX6_parse_92 : decode cX6_parse 92 = .ok (.goto 7, 3) := by decide +kernel
theorem dX6_parse_95 : decode cX6_parse 95 = .ok (.aload_n 0, 1) := by decide +kernel
theorem dX6_parse_96 : decode cX6_parse 96 = .ok (.invokevirtual 91, 3) := by decide +kernel
theorem dX6_parse_99 : decode cX6_parse 99 = .ok (.iinc 2 1, 3) := by decide +kernel
theorem dX6_parse_102 : decode cX6_parse 102 = .ok (.goto (-62), 3) := by decide +kernel
theorem dX6_parse_105 : decode cX6_parse 105 = .ok (.iconst 0, 1) := by decide +kernel
theorem dX6_parse_106 : decode cX6_parse 106 = .ok (.istore_n 2, 1) := by decide +kernel
theorem dX6_parse_107 : decode cX6_parse 107 = .ok (.iload_n 2, 1) := by decide +kernel
theorem dX6_parse_108 : decode cX6_parse 108 = .ok (.aload_n 0, 1) := by decide +kernel
theorem dX6_parse_109 : decode cX6_parse 109 = .ok (.getfield 22, 3) := by decide +kernel
theorem dX6_parse_112 : decode cX6_parse 112 = .ok (.getfield 94, 3) := by decide +kernel
theorem dX6_parse_115 : decode cX6_parse 115 = .ok (.if_icmp .ge 38, 3) := by decide +kernel
theorem dX6_parse_118 : decode cX6_parse 118 = .ok (.aload_n 0, 1) := by decide +kernel
theorem dX6_parse_119 : decode cX6_parse 119 = .ok (.getfield 22, 3) := by decide +kernel
theorem dX6_parse_122 : decode cX6_parse 122 = .ok (.getfield 97, 3) := by decide +kernel
theorem dX6_parse_125 : decode cX6_parse 125 = .ok (.iload_n 2, 1) := by decide +kernel
theorem dX6_parse_126 : decode cX6_parse 126 = .ok (.aload_n 0, 1) := by decide +kernel
theorem dX6_parse_127 : decode cX6_parse 127 = .ok (.getfield 22, 3) := by decide +kernel
theorem dX6_parse_130 : decode cX6_parse 130 = .ok (.iload_n 2, 1) := by decide +kernel
theorem dX6_parse_131 : decode cX6_parse 131 = .ok (.aload_n 0, 1) := by decide +kernel
theorem dX6_parse_132 : decode cX6_parse 132 = .ok (.getfield 58, 3) := by decide +kernel
theorem dX6_parse_135 : decode cX6_parse 135 = .ok (.iload_n 2, 1) := by decide +kernel
theorem dX6_parse_136 : decode cX6_parse 136 = .ok (.iaload, 1) := by decide +kernel
theorem dX6_parse_137 : decode cX6_parse 137 = .ok (.aload_n 0, 1) := by decide +kernel
theorem dX6_parse_138 : decode cX6_parse 138 = .ok (.getfield 62, 3) := by decide +kernel
theorem dX6_parse_141 : decode cX6_parse 141 = .ok (.iload_n 2, 1) := by decide +kernel
theorem dX6_parse_142 : decode cX6_parse 142 = .ok (.iaload, 1) := by decide +kernel
theorem dX6_parse_143 : decode cX6_parse 143 = .ok (.invokevirtual 100, 3) := by decide +kernel
theorem dX6_parse_146 : decode cX6_parse 146 = .ok (.iastore, 1) := by decide +kernel
theorem dX6_parse_147 : decode cX6_parse 147 = .ok (.iinc 2 1, 3) := by decide +kernel
theorem dX6_parse_150 : decode cX6_parse 150 = .ok (.goto (-43), 3) := by decide +kernel
theorem dX6_parse_153 : decode cX6_parse 153 = .ok (.aload_n 0, 1) := by decide +kernel
theorem dX6_parse_154 : decode cX6_parse 154 = .ok (.getfield 26, 3) := by decide +kernel
theorem dX6_parse_157 : decode cX6_parse 157 = .ok (.ifCond .ne 7, 3) := by decide +kernel
theorem dX6_parse_160 : decode cX6_parse 160 = .ok (.iconst 1, 1) := by decide +kernel
theorem dX6_parse_161 : decode cX6_parse 161 = .ok (.goto 4, 3) := by decide +kernel
theorem dX6_parse_164 : decode cX6_parse 164 = .ok (.iconst 0, 1) := by decide +kernel
theorem dX6_parse_165 : decode cX6_parse 165 = .ok (.ireturn, 1) := by decide +kernel
theorem dX6_readStrip_0 : decode cX6_readStrip 0 = .ok (.aload_n 0, 1) := by decide +kernel
theorem dX6_readStrip_1 : decode cX6_readStrip 1 = .ok (.getfield 22, 3) := by decide +kernel
theorem dX6_readStrip_4 : decode cX6_readStrip 4 = .ok (.getfield 104, 3) := by decide +kernel
theorem dX6_readStrip_7 : decode cX6_readStrip 7 = .ok (.istore_n 1, 1) := by decide +kernel
theorem dX6_readStrip_8 : decode cX6_readStrip 8 = .ok (.iload_n 1, 1) := by decide +kernel
theorem dX6_readStrip_9 : decode cX6_readStrip 9 = .ok (.bipush 10, 2) := by decide +kernel
theorem dX6_readStrip_11 : decode cX6_readStrip 11 = .ok (.if_icmp .lt 9, 3) := by decide +kernel
theorem dX6_readStrip_14 : decode cX6_readStrip 14 = .ok (.aload_n 0, 1) := by decide +kernel
theorem dX6_readStrip_15 : decode cX6_readStrip 15 = .ok (.iconst 5, 1) := by decide +kernel
theorem dX6_readStrip_16 : decode cX6_readStrip 16 = .ok (.invokevirtual 107, 3) := by decide +kernel
theorem dX6_readStrip_19 : decode cX6_readStrip 19 = .ok (.return_, 1) := by decide +kernel
theorem dX6_readStrip_20 : decode cX6_readStrip 20 = .ok (.aload_n 0, 1) := by decide +kernel
theorem dX6_readStrip_21 : decode cX6_readStrip 21 = .ok (.invokevirtual 74, 3) := by decide +kernel
theorem dX6_readStrip_24 : decode cX6_readStrip 24 = .ok (.aload_n 0, 1) := by decide +kernel
theorem dX6_readStrip_25 : decode cX6_readStrip 25 = .ok (.getfield 51, 3) := by decide +kernel
theorem dX6_readStrip_28 : decode cX6_readStrip 28 = .ok (.iload_n 1, 1) := by decide +kernel
theorem dX6_readStrip_29 : decode cX6_readStrip 29 = .ok (.aload_n 0, 1) := by decide +kernel
theorem dX6_readStrip_30 : decode cX6_readStrip 30 = .ok (.aload_n 0, 1) := by decide +kernel
theorem dX6_readStrip_31 : decode cX6_readStrip 31 = .ok (.getfield 51, 3) := by decide +kernel
theorem dX6_readStrip_34 : decode cX6_readStrip 34 = .ok (.iload_n 1, 1) := by decide +kernel
theorem dX6_readStrip_35 : decode cX6_readStrip 35 = .ok (.invokevirtual 111, 3) := by decide +kernel
theorem dX6_readStrip_38 : decode cX6_readStrip 38 = .ok (.lastore, 1) := by decide +kernel
theorem dX6_readStrip_39 : decode cX6_readStrip 39 = .ok (.aload_n 0, 1) := by decide +kernel
theorem dX6_readStrip_40 : decode cX6_readStrip 40 = .ok (.ldc2_w 115, 3) := by decide +kernel
theorem dX6_readStrip_43 : decode cX6_readStrip 43 = .ok (.invokevirtual 117, 3) := by decide +kernel
theorem dX6_readStrip_46 : decode cX6_readStrip 46 = .ok (.aload_n 0, 1) := by decide +kernel
theorem dX6_readStrip_47 : decode cX6_readStrip 47 = .ok (.getfield 22, 3) := by decide +kernel
theorem dX6_readStrip_50 : decode cX6_readStrip 50 = .ok (.getfield 121, 3) := by decide +kernel
theorem dX6_readStrip_53 : decode cX6_readStrip 53 = .ok (.iload_n 1, 1) := by decide +kernel
theorem dX6_readStrip_54 : decode cX6_readStrip 54 = .ok (.aload_n 0, 1) := by decide +kernel
theorem dX6_readStrip_55 : decode cX6_readStrip 55 = .ok (.iconst 0, 1) := by decide +kernel
theorem dX6_readStrip_56 : decode cX6_readStrip 56 = .ok (.bipush 99, 2) := by decide +kernel
theorem dX6_readStrip_58 : decode cX6_readStrip 58 = .ok (.invokevirtual 124, 3) := by decide +kernel
theorem dX6_readStrip_61 : decode cX6_readStrip 61 = .ok (.iastore, 1) := by decide +kernel
theorem dX6_readStrip_62 : decode cX6_readStrip 62 = .ok (.aload_n 0, 1) := by decide +kernel
theorem dX6_readStrip_63 : decode cX6_readStrip 63 = .ok (.getfield 22, 3) := by decide +kernel
theorem dX6_readStrip_66 : decode cX6_readStrip 66 = .ok (.getfield 127, 3) := by decide +kernel
theorem dX6_readStrip_69 : decode cX6_readStrip 69 = .ok (.iload_n 1, 1) := by decide +kernel
theorem dX6_readStrip_70 : decode cX6_readStrip 70 = .ok (.aload_n 0, 1) := by decide +kernel
theorem dX6_readStrip_71 : decode cX6_readStrip 71 = .ok (.iconst 0, 1) := by decide +kernel
theorem dX6_readStrip_72 : decode cX6_readStrip 72 = .ok (.bipush 99, 2) := by decide +kernel
theorem dX6_readStrip_74 : decode cX6_readStrip 74 = .ok (.invokevirtual 124, 3) := by decide +kernel
theorem dX6_readStrip_77 : decode cX6_readStrip 77 = .ok (.iastore, 1) := by decide +kernel
theorem dX6_readStrip_78 : decode cX6_readStrip 78 = .ok (.aload_n 0, 1) := by decide +kernel
theorem dX6_readStrip_79 : decode cX6_readStrip 79 = .ok (.ldc2_w 130, 3) := by decide +kernel
theorem dX6_readStrip_82 : decode cX6_readStrip 82 = .ok (.invokevirtual 117, 3) := by decide +kernel
theorem dX6_readStrip_85 : decode cX6_readStrip 85 = .ok (.aload_n 0, 1) := by decide +kernel
theorem dX6_readStrip_86 : decode cX6_readStrip 86 = .ok (.getfield 22, 3) := by decide +kernel
theorem dX6_readStrip_89 : decode cX6_readStrip 89 = .ok (.getfield 132, 3) := by decide +kernel
theorem dX6_readStrip_92 : decode cX6_readStrip 92 = .ok (.iload_n 1, 1) := by decide +kernel
theorem dX6_readStrip_93 : decode cX6_readStrip 93 = .ok (.aload_n 0, 1) := by decide +kernel
theorem dX6_readStrip_94 : decode cX6_readStrip 94 = .ok (.iconst 1, 1) := by decide +kernel
theorem dX6_readStrip_95 : decode cX6_readStrip 95 = .ok (.bipush 99, 2) := by decide +kernel
theorem dX6_readStrip_97 : decode cX6_readStrip 97 = .ok (.invokevirtual 124, 3) := by decide +kernel
theorem dX6_readStrip_100 : decode cX6_readStrip 100 = .ok (.iastore, 1) := by decide +kernel
theorem dX6_readStrip_101 : decode cX6_readStrip 101 = .ok (.aload_n 0, 1) := by decide +kernel
theorem dX6_readStrip_102 : decode cX6_readStrip 102 = .ok (.getfield 22, 3) := by decide +kernel
theorem dX6_readStrip_105 : decode cX6_readStrip 105 = .ok (.getfield 135, 3) := by decide +kernel
theorem dX6_readStrip_108 : decode cX6_readStrip 108 = .ok (.iload_n 1, 1) := by decide +kernel
theorem dX6_readStrip_109 : decode cX6_readStrip 109 = .ok (.iconst 1, 1) := by decide +kernel
theorem dX6_readStrip_110 : decode cX6_readStrip 110 = .ok (.iastore, 1) := by decide +kernel
theorem dX6_readStrip_111 : decode cX6_readStrip 111 = .ok (.aload_n 0, 1) := by decide +kernel
theorem dX6_readStrip_112 : decode cX6_readStrip 112 = .ok (.ldc2_w 138, 3) := by decide +kernel
theorem dX6_readStrip_115 : decode cX6_readStrip 115 = .ok (.invokevirtual 79, 3) := by decide +kernel
theorem dX6_readStrip_118 : decode cX6_readStrip 118 = .ok (.ifCond .eq 22, 3) := by decide +kernel
theorem dX6_readStrip_121 : decode cX6_readStrip 121 = .ok (.aload_n 0, 1) := by decide +kernel
theorem dX6_readStrip_122 : decode cX6_readStrip 122 = .ok (.invokevirtual 74, 3) := by decide +kernel
theorem dX6_readStrip_125 : decode cX6_readStrip 125 = .ok (.aload_n 0, 1) := by decide +kernel
theorem dX6_readStrip_126 : decode cX6_readStrip 126 = .ok (.getfield 22, 3) := by decide +kernel
theorem dX6_readStrip_129 : decode cX6_readStrip 129 = .ok (.getfield 135, 3) := by decide +kernel
theorem dX6_readStrip_132 : decode cX6_readStrip 132 = .ok (.iload_n 1, 1) := by decide +kernel
theorem dX6_readStrip_133 : decode cX6_readStrip 133 = .ok (.aload_n 0, 1) := by decide +kernel
theorem dX6_readStrip_134 : decode cX6_readStrip 134 = .ok (.iconst 1, 1) := by decide +kernel
theorem dX6_readStrip_135 : decode cX6_readStrip 135 = .ok (.iconst 3, 1) := by decide +kernel
theorem dX6_readStrip_136 : decode cX6_readStrip 136 = .ok (.invokevirtual 124, 3) := by decide +kernel
theorem dX6_readStrip_139 : decode cX6_readStrip 139 = .ok (.iastore, 1) := by decide +kernel
theorem dX6_readStrip_140 : decode cX6_readStrip 140 = .ok (.aload_n 0, 1) := by decide +kernel
theorem dX6_readStrip_141 : decode cX6_readStrip 141 = .ok (.invokevirtual 140, 3) := by decide +kernel
theorem dX6_readStrip_144 : decode cX6_readStrip 144 = .ok (.aload_n 0, 1) := by decide +kernel
theorem dX6_readStrip_145 : decode cX6_readStrip 145 = .ok (.getfield 22, 3) := by decide +kernel
theorem dX6_readStrip_148 : decode cX6_readStrip 148 = .ok (.getfield 143, 3) := by decide +kernel
theorem dX6_readStrip_151 : decode cX6_readStrip 151 = .ok (.iload_n 1, 1) := by decide +kernel
theorem dX6_readStrip_152 : decode cX6_readStrip 152 = .ok (.iconst (-1), 1) := by decide +kernel
theorem dX6_readStrip_153 : decode cX6_readStrip 153 = .ok (.iastore, 1) := by decide +kernel
theorem dX6_readStrip_154 : decode cX6_readStrip 154 = .ok (.aload_n 0, 1) := by decide +kernel
theorem dX6_readStrip_155 : decode cX6_readStrip 155 = .ok (.getfield 22, 3) := by decide +kernel
theorem dX6_readStrip_158 : decode cX6_readStrip 158 = .ok (.iload_n 1, 1) := by decide +kernel
theorem dX6_readStrip_159 : decode cX6_readStrip 159 = .ok (.iconst 1, 1) := by decide +kernel
theorem dX6_readStrip_160 : decode cX6_readStrip 160 = .ok (.iadd, 1) := by decide +kernel
theorem dX6_readStrip_161 : decode cX6_readStrip 161 = .ok (.putfield 104, 3) := by decide +kernel
theorem dX6_readStrip_164 : decode cX6_readStrip 164 = .ok (.return_, 1) := by decide +kernel
theorem dX6_readHarm_0 : decode cX6_readHarm 0 = .ok (.aload_n 0, 1) := by decide +kernel
theorem dX6_readHarm_1 : decode cX6_readHarm 1 = .ok (.getfield 22, 3) := by decide +kernel
theorem dX6_readHarm_4 : decode cX6_readHarm 4 = .ok (.getfield 94, 3) := by decide +kernel
theorem dX6_readHarm_7 : decode cX6_readHarm 7 = .ok (.istore_n 1, 1) := by decide +kernel
theorem dX6_readHarm_8 : decode cX6_readHarm 8 = .ok (.aload_n 0, 1) := by decide +kernel
theorem dX6_readHarm_9 : decode cX6_readHarm 9 = .ok (.invokevirtual 146, 3) := by decide +kernel
theorem dX6_readHarm_12 : decode cX6_readHarm 12 = .ok (.istore_n 2, 1) := by decide +kernel
theorem dX6_readHarm_13 : decode cX6_readHarm 13 = .ok (.iload_n 2, 1) := by decide +kernel
theorem dX6_readHarm_14 : decode cX6_readHarm 14 = .ok (.iconst (-1), 1) := by decide +kernel
theorem dX6_readHarm_15 : decode cX6_readHarm 15 = .ok (.if_icmp .eq 9, 3) := by decide +kernel
theorem dX6_readHarm_18 : decode cX6_readHarm 18 = .ok (.iload_n 1, 1) := by decide +kernel
theorem dX6_readHarm_19 : decode cX6_readHarm 19 = .ok (.bipush 6, 2) := by decide +kernel
theorem dX6_readHarm_21 : decode cX6_readHarm 21 = .ok (.if_icmp .lt 18, 3) := by decide +kernel
theorem dX6_readHarm_24 : decode cX6_readHarm 24 = .ok (.aload_n 0, 1) := by decide +kernel
theorem dX6_readHarm_25 : decode cX6_readHarm 25 = .ok (.iload_n 2, 1) := by decide +kernel
theorem dX6_readHarm_26 : decode cX6_readHarm 26 = .ok (.iconst (-1), 1) := by decide +kernel
theorem dX6_readHarm_27 : decode cX6_readHarm 27 = .ok (.if_icmp .ne 7, 3) := by decide +kernel
theorem dX6_readHarm_30 : decode cX6_readHarm 30 = .ok (.iconst 2, 1) := by decide +kernel
theorem dX6_readHarm_31 : decode cX6_readHarm 31 = .ok (.goto 4, 3) := by decide +kernel
theorem dX6_readHarm_34 : decode cX6_readHarm 34 = .ok (.iconst 5, 1) := by decide +kernel
theorem dX6_readHarm_35 : decode cX6_readHarm 35 = .ok (.invokevirtual 107, 3) := by decide +kernel
theorem dX6_readHarm_38 : decode cX6_readHarm 38 = .ok (.return_, 1) := by decide +kernel
theorem dX6_readHarm_39 : decode cX6_readHarm 39 = .ok (.aload_n 0, 1) := by decide +kernel
theorem dX6_readHarm_40 : decode cX6_readHarm 40 = .ok (.invokevirtual 74, 3) := by decide +kernel
theorem dX6_readHarm_43 : decode cX6_readHarm 43 = .ok (.iload_n 2, 1) := by decide +kernel
theorem dX6_readHarm_44 : decode cX6_readHarm 44 = .ok (.ifCond .ne 44, 3) := by decide +kernel
theorem dX6_readHarm_47 : decode cX6_readHarm 47 = .ok (.aload_n 0, 1) := by decide +kernel
theorem dX6_readHarm_48 : decode cX6_readHarm 48 = .ok (.getfield 58, 3) := by decide +kernel
theorem dX6_readHarm_51 : decode cX6_readHarm 51 = .ok (.iload_n 1, 1) := by decide +kernel
theorem dX6_readHarm_52 : decode cX6_readHarm 52 = .ok (.aload_n 0, 1) := by decide +kernel
theorem dX6_readHarm_53 : decode cX6_readHarm 53 = .ok (.iconst 0, 1) := by decide +kernel
theorem dX6_readHarm_54 : decode cX6_readHarm 54 = .ok (.bipush 99, 2) := by decide +kernel
theorem dX6_readHarm_56 : decode cX6_readHarm 56 = .ok (.invokevirtual 124, 3) := by decide +kernel
theorem dX6_readHarm_59 : decode cX6_readHarm 59 = .ok (.iastore, 1) := by decide +kernel
theorem dX6_readHarm_60 : decode cX6_readHarm 60 = .ok (.aload_n 0, 1) := by decide +kernel
theorem dX6_readHarm_61 : decode cX6_readHarm 61 = .ok (.ldc2_w 150, 3) := by decide +kernel
theorem dX6_readHarm_64 : decode cX6_readHarm 64 = .ok (.invokevirtual 117, 3) := by decide +kernel
theorem dX6_readHarm_67 : decode cX6_readHarm 67 = .ok (.aload_n 0, 1) := by decide +kernel
theorem dX6_readHarm_68 : decode cX6_readHarm 68 = .ok (.getfield 62, 3) := by decide +kernel
theorem dX6_readHarm_71 : decode cX6_readHarm 71 = .ok (.iload_n 1, 1) := by decide +kernel
theorem dX6_readHarm_72 : decode cX6_readHarm 72 = .ok (.aload_n 0, 1) := by decide +kernel
theorem dX6_readHarm_73 : decode cX6_readHarm 73 = .ok (.aload_n 0, 1) := by decide +kernel
theorem dX6_readHarm_74 : decode cX6_readHarm 74 = .ok (.getfield 58, 3) := by decide +kernel
theorem dX6_readHarm_77 : decode cX6_readHarm 77 = .ok (.iload_n 1, 1) := by decide +kernel
theorem dX6_readHarm_78 : decode cX6_readHarm 78 = .ok (.iaload, 1) := by decide +kernel
theorem dX6_readHarm_79 : decode cX6_readHarm 79 = .ok (.bipush 99, 2) := by decide +kernel
theorem dX6_readHarm_81 : decode cX6_readHarm 81 = .ok (.invokevirtual 124, 3) := by decide +kernel
theorem dX6_readHarm_84 : decode cX6_readHarm 84 = .ok (.iastore, 1) := by decide +kernel
theorem dX6_readHarm_85 : decode cX6_readHarm 85 = .ok (.goto 41, 3) := by decide +kernel
theorem dX6_readHarm_88 : decode cX6_readHarm 88 = .ok (.iload_n 2, 1) := by decide +kernel
theorem dX6_readHarm_89 : decode cX6_readHarm 89 = .ok (.iconst 1, 1) := by decide +kernel
theorem dX6_readHarm_90 : decode cX6_readHarm 90 = .ok (.if_icmp .ne 19, 3) := by decide +kernel
theorem dX6_readHarm_93 : decode cX6_readHarm 93 = .ok (.aload_n 0, 1) := by decide +kernel
theorem dX6_readHarm_94 : decode cX6_readHarm 94 = .ok (.getfield 58, 3) := by decide +kernel
theorem dX6_readHarm_97 : decode cX6_readHarm 97 = .ok (.iload_n 1, 1) := by decide +kernel
theorem dX6_readHarm_98 : decode cX6_readHarm 98 = .ok (.aload_n 0, 1) := by decide +kernel
theorem dX6_readHarm_99 : decode cX6_readHarm 99 = .ok (.iconst 0, 1) := by decide +kernel
theorem dX6_readHarm_100 : decode cX6_readHarm 100 = .ok (.bipush 99, 2) := by decide +kernel
theorem dX6_readHarm_102 : decode cX6_readHarm 102 = .ok (.invokevirtual 124, 3) := by decide +kernel
theorem dX6_readHarm_105 : decode cX6_readHarm 105 = .ok (.iastore, 1) := by decide +kernel
theorem dX6_readHarm_106 : decode cX6_readHarm 106 = .ok (.goto 20, 3) := by decide +kernel
theorem dX6_readHarm_109 : decode cX6_readHarm 109 = .ok (.iload_n 2, 1) := by decide +kernel
theorem dX6_readHarm_110 : decode cX6_readHarm 110 = .ok (.iconst 2, 1) := by decide +kernel
theorem dX6_readHarm_111 : decode cX6_readHarm 111 = .ok (.if_icmp .ne 15, 3) := by decide +kernel
theorem dX6_readHarm_114 : decode cX6_readHarm 114 = .ok (.aload_n 0, 1) := by decide +kernel
theorem dX6_readHarm_115 : decode cX6_readHarm 115 = .ok (.getfield 58, 3) := by decide +kernel
theorem dX6_readHarm_118 : decode cX6_readHarm 118 = .ok (.iload_n 1, 1) := by decide +kernel
theorem dX6_readHarm_119 : decode cX6_readHarm 119 = .ok (.aload_n 0, 1) := by decide +kernel
theorem dX6_readHarm_120 : decode cX6_readHarm 120 = .ok (.iconst 1, 1) := by decide +kernel
theorem dX6_readHarm_121 : decode cX6_readHarm 121 = .ok (.iconst 3, 1) := by decide +kernel
theorem dX6_readHarm_122 : decode cX6_readHarm 122 = .ok (.invokevirtual 124, 3) := by decide +kernel
theorem dX6_readHarm_125 : decode cX6_readHarm 125 = .ok (.iastore, 1) := by decide +kernel
theorem dX6_readHarm_126 : decode cX6_readHarm 126 = .ok (.aload_n 0, 1) := by decide +kernel
theorem dX6_readHarm_127 : decode cX6_readHarm 127 = .ok (.ldc2_w 152, 3) := by decide +kernel
theorem dX6_readHarm_130 : decode cX6_readHarm 130 = .ok (.invokevirtual 117, 3) := by decide +kernel
theorem dX6_readHarm_133 : decode cX6_readHarm 133 = .ok (.aload_n 0, 1) := by decide +kernel
theorem dX6_readHarm_134 : decode cX6_readHarm 134 = .ok (.getfield 22, 3) := by decide +kernel
theorem dX6_readHarm_137 : decode cX6_readHarm 137 = .ok (.getfield 154, 3) := by decide +kernel
theorem dX6_readHarm_140 : decode cX6_readHarm 140 = .ok (.iload_n 1, 1) := by decide +kernel
theorem dX6_readHarm_141 : decode cX6_readHarm 141 = .ok (.aload_n 0, 1) := by decide +kernel
theorem dX6_readHarm_142 : decode cX6_readHarm 142 = .ok (.iconst 0, 1) := by decide +kernel
theorem dX6_readHarm_143 : decode cX6_readHarm 143 = .ok (.bipush 8, 2) := by decide +kernel
theorem dX6_readHarm_145 : decode cX6_readHarm 145 = .ok (.invokevirtual 124, 3) := by decide +kernel
theorem dX6_readHarm_148 : decode cX6_readHarm 148 = .ok (.iastore, 1) := by decide +kernel
theorem dX6_readHarm_149 : decode cX6_readHarm 149 = .ok (.aload_n 0, 1) := by decide +kernel
theorem dX6_readHarm_150 : decode cX6_readHarm 150 = .ok (.ldc2_w 157, 3) := by decide +kernel
theorem dX6_readHarm_153 : decode cX6_readHarm 153 = .ok (.invokevirtual 117, 3) := by decide +kernel
theorem dX6_readHarm_156 : decode cX6_readHarm 156 = .ok (.aload_n 0, 1) := by decide +kernel
theorem dX6_readHarm_157 : decode cX6_readHarm 157 = .ok (.getfield 22, 3) := by decide +kernel
theorem dX6_readHarm_160 : decode cX6_readHarm 160 = .ok (.getfield 159, 3) := by decide +kernel
theorem dX6_readHarm_163 : decode cX6_readHarm 163 = .ok (.iload_n 1, 1) := by decide +kernel
theorem dX6_readHarm_164 : decode cX6_readHarm 164 = .ok (.aload_n 0, 1) := by decide +kernel
theorem dX6_readHarm_165 : decode cX6_readHarm 165 = .ok (.iconst 0, 1) := by decide +kernel
theorem dX6_readHarm_166 : decode cX6_readHarm 166 = .ok (.bipush 16, 2) := by decide +kernel
theorem dX6_readHarm_168 : decode cX6_readHarm 168 = .ok (.invokevirtual 124, 3) := by decide +kernel
theorem dX6_readHarm_171 : decode cX6_readHarm 171 = .ok (.iastore, 1) := by decide +kernel
theorem dX6_readHarm_172 : decode cX6_readHarm 172 = .ok (.aload_n 0, 1) := by decide +kernel
theorem dX6_readHarm_173 : decode cX6_readHarm 173 = .ok (.invokevirtual 140, 3) := by decide +kernel
theorem dX6_readHarm_176 : decode cX6_readHarm 176 = .ok (.aload_n 0, 1) := by decide +kernel
theorem dX6_readHarm_177 : decode cX6_readHarm 177 = .ok (.getfield 22, 3) := by decide +kernel
theorem dX6_readHarm_180 : decode cX6_readHarm 180 = .ok (.getfield 162, 3) := by decide +kernel
theorem dX6_readHarm_183 : decode cX6_readHarm 183 = .ok (.iload_n 1, 1) := by decide +kernel
theorem dX6_readHarm_184 : decode cX6_readHarm 184 = .ok (.iload_n 2, 1) := by decide +kernel
theorem dX6_readHarm_185 : decode cX6_readHarm 185 = .ok (.iastore, 1) := by decide +kernel
theorem dX6_readHarm_186 : decode cX6_readHarm 186 = .ok (.aload_n 0, 1) := by decide +kernel
theorem dX6_readHarm_187 : decode cX6_readHarm 187 = .ok (.getfield 22, 3) := by decide +kernel
theorem dX6_readHarm_190 : decode cX6_readHarm 190 = .ok (.iload_n 1, 1) := by decide +kernel
theorem dX6_readHarm_191 : decode cX6_readHarm 191 = .ok (.iconst 1, 1) := by decide +kernel
theorem dX6_readHarm_192 : decode cX6_readHarm 192 = .ok (.iadd, 1) := by decide +kernel
theorem dX6_readHarm_193 : decode cX6_readHarm 193 = .ok (.putfield 94, 3) := by decide +kernel
theorem dX6_readHarm_196 : decode cX6_readHarm 196 = .ok (.return_, 1) := by decide +kernel
theorem dX6_kindOfHarm_0 : decode cX6_kindOfHarm 0 = .ok (.aload_n 0, 1) := by decide +kernel
theorem dX6_kindOfHarm_1 : decode cX6_kindOfHarm 1 = .ok (.ldc2_w 165, 3) := by decide +kernel
theorem dX6_kindOfHarm_4 : decode cX6_kindOfHarm 4 = .ok (.invokevirtual 79, 3) := by decide +kernel
theorem dX6_kindOfHarm_7 : decode cX6_kindOfHarm 7 = .ok (.ifCond .eq 5, 3) := by decide +kernel
theorem dX6_kindOfHarm_10 : decode cX6_kindOfHarm 10 = .ok (.iconst 0, 1) := by decide +kernel
theorem dX6_kindOfHarm_11 : decode cX6_kindOfHarm 11 = .ok (.ireturn, 1) := by decide +kernel
theorem dX6_kindOfHarm_12 : decode cX6_kindOfHarm 12 = .ok (.aload_n 0, 1) := by decide +kernel
theorem dX6_kindOfHarm_13 : decode cX6_kindOfHarm 13 = .ok (.ldc2_w 167, 3) := by decide +kernel
theorem dX6_kindOfHarm_16 : decode cX6_kindOfHarm 16 = .ok (.invokevirtual 79, 3) := by decide +kernel
theorem dX6_kindOfHarm_19 : decode cX6_kindOfHarm 19 = .ok (.ifCond .eq 5, 3) := by decide +kernel
theorem dX6_kindOfHarm_22 : decode cX6_kindOfHarm 22 = .ok (.iconst 1, 1) := by decide +kernel
theorem dX6_kindOfHarm_23 : decode cX6_kindOfHarm 23 = .ok (.ireturn, 1) := by decide +kernel
theorem dX6_kindOfHarm_24 : decode cX6_kindOfHarm 24 = .ok (.aload_n 0, 1) := by decide +kernel
theorem dX6_kindOfHarm_25 : decode cX6_kindOfHarm 25 = .ok (.ldc2_w 169, 3) := by decide +kernel
theorem dX6_kindOfHarm_28 : decode cX6_kindOfHarm 28 = .ok (.invokevirtual 79, 3) := by decide +kernel
theorem dX6_kindOfHarm_31 : decode cX6_kindOfHarm 31 = .ok (.ifCond .eq 5, 3) := by decide +kernel
theorem dX6_kindOfHarm_34 : decode cX6_kindOfHarm 34 = .ok (.iconst 2, 1) := by decide +kernel
theorem dX6_kindOfHarm_35 : decode cX6_kindOfHarm 35 = .ok (.ireturn, 1) := by decide +kernel
theorem dX6_kindOfHarm_36 : decode cX6_kindOfHarm 36 = .ok (.aload_n 0, 1) := by decide +kernel
theorem dX6_kindOfHarm_37 : decode cX6_kindOfHarm 37 = .ok (.ldc2_w 171, 3) := by decide +kernel
theorem dX6_kindOfHarm_40 : decode cX6_kindOfHarm 40 = .ok (.invokevirtual 79, 3) := by decide +kernel
theorem dX6_kindOfHarm_43 : decode cX6_kindOfHarm 43 = .ok (.ifCond .eq 7, 3) := by decide +kernel
theorem dX6_kindOfHarm_46 : decode cX6_kindOfHarm 46 = .ok (.iconst 3, 1) := by decide +kernel
theorem dX6_kindOfHarm_47 : decode cX6_kindOfHarm 47 = .ok (.goto 4, 3) := by decide +kernel
theorem dX6_kindOfHarm_50 : decode cX6_kindOfHarm 50 = .ok (.iconst (-1), 1) := by decide +kernel
theorem dX6_kindOfHarm_51 : decode cX6_kindOfHarm 51 = .ok (.ireturn, 1) := by decide +kernel
theorem dX6_readFamily_0 : decode cX6_readFamily 0 = .ok (.aload_n 0, 1) := by decide +kernel
theorem dX6_readFamily_1 : decode cX6_readFamily 1 = .ok (.getfield 22, 3) := by decide +kernel
theorem dX6_readFamily_4 : decode cX6_readFamily 4 = .ok (.getfield 173, 3) := by decide +kernel
theorem dX6_readFamily_7 : decode cX6_readFamily 7 = .ok (.istore_n 1, 1) := by decide +kernel
theorem dX6_readFamily_8 : decode cX6_readFamily 8 = .ok (.iload_n 1, 1) := by decide +kernel
theorem dX6_readFamily_9 : decode cX6_readFamily 9 = .ok (.iconst 4, 1) := by decide +kernel
theorem dX6_readFamily_10 : decode cX6_readFamily 10 = .ok (.if_icmp .lt 9, 3) := by decide +kernel
theorem dX6_readFamily_13 : decode cX6_readFamily 13 = .ok (.aload_n 0, 1) := by decide +kernel
theorem dX6_readFamily_14 : decode cX6_readFamily 14 = .ok (.iconst 5, 1) := by decide +kernel
theorem dX6_readFamily_15 : decode cX6_readFamily 15 = .ok (.invokevirtual 107, 3) := by decide +kernel
theorem dX6_readFamily_18 : decode cX6_readFamily 18 = .ok (.return_, 1) := by decide +kernel
theorem dX6_readFamily_19 : decode cX6_readFamily 19 = .ok (.aload_n 0, 1) := by decide +kernel
theorem dX6_readFamily_20 : decode cX6_readFamily 20 = .ok (.invokevirtual 74, 3) := by decide +kernel
theorem dX6_readFamily_23 : decode cX6_readFamily 23 = .ok (.aload_n 0, 1) := by decide +kernel
theorem dX6_readFamily_24 : decode cX6_readFamily 24 = .ok (.getfield 55, 3) := by decide +kernel
theorem dX6_readFamily_27 : decode cX6_readFamily 27 = .ok (.iload_n 1, 1) := by decide +kernel
theorem dX6_readFamily_28 : decode cX6_readFamily 28 = .ok (.aload_n 0, 1) := by decide +kernel
theorem dX6_readFamily_29 : decode cX6_readFamily 29 = .ok (.aload_n 0, 1) := by decide +kernel
theorem dX6_readFamily_30 : decode cX6_readFamily 30 = .ok (.getfield 55, 3) := by decide +kernel
theorem dX6_readFamily_33 : decode cX6_readFamily 33 = .ok (.iload_n 1, 1) := by decide +kernel
theorem dX6_readFamily_34 : decode cX6_readFamily 34 = .ok (.invokevirtual 111, 3) := by decide +kernel
theorem dX6_readFamily_37 : decode cX6_readFamily 37 = .ok (.lastore, 1) := by decide +kernel
theorem dX6_readFamily_38 : decode cX6_readFamily 38 = .ok (.aload_n 0, 1) := by decide +kernel
theorem dX6_readFamily_39 : decode cX6_readFamily 39 = .ok (.ldc2_w 115, 3) := by decide +kernel
theorem dX6_readFamily_42 : decode cX6_readFamily 42 = .ok (.invokevirtual 117, 3) := by decide +kernel
theorem dX6_readFamily_45 : decode cX6_readFamily 45 = .ok (.aload_n 0, 1) := by decide +kernel
theorem dX6_readFamily_46 : decode cX6_readFamily 46 = .ok (.getfield 22, 3) := by decide +kernel
theorem dX6_readFamily_49 : decode cX6_readFamily 49 = .ok (.getfield 176, 3) := by decide +kernel
theorem dX6_readFamily_52 : decode cX6_readFamily 52 = .ok (.iload_n 1, 1) := by decide +kernel
theorem dX6_readFamily_53 : decode cX6_readFamily 53 = .ok (.aload_n 0, 1) := by decide +kernel
theorem dX6_readFamily_54 : decode cX6_readFamily 54 = .ok (.iconst 0, 1) := by decide +kernel
theorem dX6_readFamily_55 : decode cX6_readFamily 55 = .ok (.bipush 99, 2) := by decide +kernel
theorem dX6_readFamily_57 : decode cX6_readFamily 57 = .ok (.invokevirtual 124, 3) := by decide +kernel
theorem dX6_readFamily_60 : decode cX6_readFamily 60 = .ok (.iastore, 1) := by decide +kernel
theorem dX6_readFamily_61 : decode cX6_readFamily 61 = .ok (.aload_n 0, 1) := by decide +kernel
theorem dX6_readFamily_62 : decode cX6_readFamily 62 = .ok (.getfield 22, 3) := by decide +kernel
theorem dX6_readFamily_65 : decode cX6_readFamily 65 = .ok (.getfield 179, 3) := by decide +kernel
theorem dX6_readFamily_68 : decode cX6_readFamily 68 = .ok (.iload_n 1, 1) := by decide +kernel
theorem dX6_readFamily_69 : decode cX6_readFamily 69 = .ok (.aload_n 0, 1) := by decide +kernel
theorem dX6_readFamily_70 : decode cX6_readFamily 70 = .ok (.iconst 0, 1) := by decide +kernel
theorem dX6_readFamily_71 : decode cX6_readFamily 71 = .ok (.bipush 99, 2) := by decide +kernel
theorem dX6_readFamily_73 : decode cX6_readFamily 73 = .ok (.invokevirtual 124, 3) := by decide +kernel
theorem dX6_readFamily_76 : decode cX6_readFamily 76 = .ok (.iastore, 1) := by decide +kernel
theorem dX6_readFamily_77 : decode cX6_readFamily 77 = .ok (.aload_n 0, 1) := by decide +kernel
theorem dX6_readFamily_78 : decode cX6_readFamily 78 = .ok (.ldc2_w 182, 3) := by decide +kernel
theorem dX6_readFamily_81 : decode cX6_readFamily 81 = .ok (.invokevirtual 117, 3) := by decide +kernel
theorem dX6_readFamily_84 : decode cX6_readFamily 84 = .ok (.aload_n 0, 1) := by decide +kernel
theorem dX6_readFamily_85 : decode cX6_readFamily 85 = .ok (.getfield 22, 3) := by decide +kernel
theorem dX6_readFamily_88 : decode cX6_readFamily 88 = .ok (.getfield 184, 3) := by decide +kernel
theorem dX6_readFamily_91 : decode cX6_readFamily 91 = .ok (.iload_n 1, 1) := by decide +kernel
theorem dX6_readFamily_92 : decode cX6_readFamily 92 = .ok (.aload_n 0, 1) := by decide +kernel
theorem dX6_readFamily_93 : decode cX6_readFamily 93 = .ok (.iconst 0, 1) := by decide +kernel
theorem dX6_readFamily_94 : decode cX6_readFamily 94 = .ok (.bipush 99, 2) := by decide +kernel
theorem dX6_readFamily_96 : decode cX6_readFamily 96 = .ok (.invokevirtual 124, 3) := by decide +kernel
theorem dX6_readFamily_99 : decode cX6_readFamily 99 = .ok (.iastore, 1) := by decide +kernel
theorem dX6_readFamily_100 : decode cX6_readFamily 100 = .ok (.iconst 0, 1) := by decide +kernel
theorem dX6_readFamily_101 : decode cX6_readFamily 101 = .ok (.istore_n 2, 1) := by decide +kernel
theorem dX6_readFamily_102 : decode cX6_readFamily 102 = .ok (.iload_n 2, 1) := by decide +kernel
theorem dX6_readFamily_103 : decode cX6_readFamily 103 = .ok (.sipush 600, 3) := by decide +kernel
theorem dX6_readFamily_106 : decode cX6_readFamily 106 = .ok (.if_icmp .gt 28, 3) := by decide +kernel
theorem dX6_readFamily_109 : decode cX6_readFamily 109 = .ok (.aload_n 0, 1) := by decide +kernel
theorem dX6_readFamily_110 : decode cX6_readFamily 110 = .ok (.ldc2_w 187, 3) := by decide +kernel
theorem dX6_readFamily_113 : decode cX6_readFamily 113 = .ok (.invokevirtual 79, 3) := by decide +kernel
theorem dX6_readFamily_116 : decode cX6_readFamily 116 = .ok (.ifCond .eq 18, 3) := by decide +kernel
theorem dX6_readFamily_119 : decode cX6_readFamily 119 = .ok (.aload_n 0, 1) := by decide +kernel
theorem dX6_readFamily_120 : decode cX6_readFamily 120 = .ok (.invokevirtual 74, 3) := by decide +kernel
theorem dX6_readFamily_123 : decode cX6_readFamily 123 = .ok (.aload_n 0, 1) := by decide +kernel
theorem dX6_readFamily_124 : decode cX6_readFamily 124 = .ok (.iload_n 1, 1) := by decide +kernel
theorem dX6_readFamily_125 : decode cX6_readFamily 125 = .ok (.invokevirtual 189, 3) := by decide +kernel
theorem dX6_readFamily_128 : decode cX6_readFamily 128 = .ok (.iinc 2 1, 3) := by decide +kernel
theorem dX6_readFamily_131 : decode cX6_readFamily 131 = .ok (.goto (-29), 3) := by decide +kernel
theorem dX6_readFamily_134 : decode cX6_readFamily 134 = .ok (.aload_n 0, 1) := by decide +kernel
theorem dX6_readFamily_135 : decode cX6_readFamily 135 = .ok (.invokevirtual 140, 3) := by decide +kernel
theorem dX6_readFamily_138 : decode cX6_readFamily 138 = .ok (.aload_n 0, 1) := by decide +kernel
theorem dX6_readFamily_139 : decode cX6_readFamily 139 = .ok (.getfield 22, 3) := by decide +kernel
theorem dX6_readFamily_142 : decode cX6_readFamily 142 = .ok (.iload_n 1, 1) := by decide +kernel
theorem dX6_readFamily_143 : decode cX6_readFamily 143 = .ok (.iconst 1, 1) := by decide +kernel
theorem dX6_readFamily_144 : decode cX6_readFamily 144 = .ok (.iadd, 1) := by decide +kernel
theorem dX6_readFamily_145 : decode cX6_readFamily 145 = .ok (.putfield 173, 3) := by decide +kernel
theorem dX6_readFamily_148 : decode cX6_readFamily 148 = .ok (.return_, 1) := by decide +kernel
theorem dX6_readHeld_0 : decode cX6_readHeld 0 = .ok (.aload_n 0, 1) := by decide +kernel
theorem dX6_readHeld_1 : decode cX6_readHeld 1 = .ok (.invokevirtual 192, 3) := by decide +kernel
theorem dX6_readHeld_4 : decode cX6_readHeld 4 = .ok (.ifCond .ne 9, 3) := by decide +kernel
theorem dX6_readHeld_7 : decode cX6_readHeld 7 = .ok (.aload_n 0, 1) := by decide +kernel
theorem dX6_readHeld_8 : decode cX6_readHeld 8 = .ok (.iconst 2, 1) := by decide +kernel
theorem dX6_readHeld_9 : decode cX6_readHeld 9 = .ok (.invokevirtual 107, 3) := by decide +kernel
theorem dX6_readHeld_12 : decode cX6_readHeld 12 = .ok (.return_, 1) := by decide +kernel
theorem dX6_readHeld_13 : decode cX6_readHeld 13 = .ok (.aload_n 0, 1) := by decide +kernel
theorem dX6_readHeld_14 : decode cX6_readHeld 14 = .ok (.aload_n 0, 1) := by decide +kernel
theorem dX6_readHeld_15 : decode cX6_readHeld 15 = .ok (.getfield 51, 3) := by decide +kernel
theorem dX6_readHeld_18 : decode cX6_readHeld 18 = .ok (.aload_n 0, 1) := by decide +kernel
theorem dX6_readHeld_19 : decode cX6_readHeld 19 = .ok (.getfield 22, 3) := by decide +kernel
theorem dX6_readHeld_22 : decode cX6_readHeld 22 = .ok (.getfield 104, 3) := by decide +kernel
theorem dX6_readHeld_25 : decode cX6_readHeld 25 = .ok (.invokevirtual 196, 3) := by decide +kernel
theorem dX6_readHeld_28 : decode cX6_readHeld 28 = .ok (.istore_n 2, 1) := by decide +kernel
theorem dX6_readHeld_29 : decode cX6_readHeld 29 = .ok (.iload_n 2, 1) := by decide +kernel
theorem dX6_readHeld_30 : decode cX6_readHeld 30 = .ok (.iconst (-1), 1) := by decide +kernel
theorem dX6_readHeld_31 : decode cX6_readHeld 31 = .ok (.if_icmp .ne 11, 3) := by decide +kernel
theorem dX6_readHeld_34 : decode cX6_readHeld 34 = .ok (.aload_n 0, 1) := by decide +kernel
theorem dX6_readHeld_35 : decode cX6_readHeld 35 = .ok (.iconst 3, 1) := by decide +kernel
theorem dX6_readHeld_36 : decode cX6_readHeld 36 = .ok (.invokevirtual 107, 3) := by decide +kernel
theorem dX6_readHeld_39 : decode cX6_readHeld 39 = .ok (.goto 39, 3) := by decide +kernel
theorem dX6_readHeld_42 : decode cX6_readHeld 42 = .ok (.aload_n 0, 1) := by decide +kernel
theorem dX6_readHeld_43 : decode cX6_readHeld 43 = .ok (.getfield 22, 3) := by decide +kernel
theorem dX6_readHeld_46 : decode cX6_readHeld 46 = .ok (.getfield 143, 3) := by decide +kernel
theorem dX6_readHeld_49 : decode cX6_readHeld 49 = .ok (.iload_n 2, 1) := by decide +kernel
theorem dX6_readHeld_50 : decode cX6_readHeld 50 = .ok (.iaload, 1) := by decide +kernel
theorem dX6_readHeld_51 : decode cX6_readHeld 51 = .ok (.iconst (-1), 1) := by decide +kernel
theorem dX6_readHeld_52 : decode cX6_readHeld 52 = .ok (.if_icmp .eq 12, 3) := by decide +kernel
theorem dX6_readHeld_55 : decode cX6_readHeld 55 = .ok (.aload_n 0, 1) := by decide +kernel
theorem dX6_readHeld_56 : decode cX6_readHeld 56 = .ok (.bipush 6, 2) := by decide +kernel
theorem dX6_readHeld_58 : decode cX6_readHeld 58 = .ok (.invokevirtual 107, 3) := by decide +kernel
theorem dX6_readHeld_61 : decode cX6_readHeld 61 = .ok (.goto 17, 3) := by decide +kernel
theorem dX6_readHeld_64 : decode cX6_readHeld 64 = .ok (.aload_n 0, 1) := by decide +kernel
theorem dX6_readHeld_65 : decode cX6_readHeld 65 = .ok (.getfield 22, 3) := by decide +kernel
theorem dX6_readHeld_68 : decode cX6_readHeld 68 = .ok (.getfield 143, 3) := by decide +kernel
theorem dX6_readHeld_71 : decode cX6_readHeld 71 = .ok (.iload_n 2, 1) := by decide +kernel
theorem dX6_readHeld_72 : decode cX6_readHeld 72 = .ok (.iload_n 1, 1) := by decide +kernel
theorem dX6_readHeld_73 : decode cX6_readHeld 73 = .ok (.iastore, 1) := by decide +kernel
theorem dX6_readHeld_74 : decode cX6_readHeld 74 = .ok (.aload_n 0, 1) := by decide +kernel
theorem dX6_readHeld_75 : decode cX6_readHeld 75 = .ok (.invokevirtual 74, 3) := by decide +kernel
theorem dX6_readHeld_78 : decode cX6_readHeld 78 = .ok (.return_, 1) := by decide +kernel
theorem dX6_readNewName_0 : decode cX6_readNewName 0 = .ok (.aload_n 0, 1) := by decide +kernel
theorem dX6_readNewName_1 : decode cX6_readNewName 1 = .ok (.invokevirtual 192, 3) := by decide +kernel
theorem dX6_readNewName_4 : decode cX6_readNewName 4 = .ok (.ifCond .ne 11, 3) := by decide +kernel
theorem dX6_readNewName_7 : decode cX6_readNewName 7 = .ok (.aload_n 0, 1) := by decide +kernel
theorem dX6_readNewName_8 : decode cX6_readNewName 8 = .ok (.iconst 2, 1) := by decide +kernel
theorem dX6_readNewName_9 : decode cX6_readNewName 9 = .ok (.invokevirtual 107, 3) := by decide +kernel
theorem dX6_readNewName_12 : decode cX6_readNewName 12 = .ok (.goto 18, 3) := by decide +kernel
theorem dX6_readNewName_15 : decode cX6_readNewName 15 = .ok (.aload_n 0, 1) := by decide +kernel
theorem dX6_readNewName_16 : decode cX6_readNewName 16 = .ok (.aload_n 1, 1) := by decide +kernel
theorem dX6_readNewName_17 : decode cX6_readNewName 17 = .ok (.iload_n 2, 1) := by decide +kernel
theorem dX6_readNewName_18 : decode cX6_readNewName 18 = .ok (.invokevirtual 196, 3) := by decide +kernel
theorem dX6_readNewName_21 : decode cX6_readNewName 21 = .ok (.iconst (-1), 1) := by decide +kernel
theorem dX6_readNewName_22 : decode cX6_readNewName 22 = .ok (.if_icmp .eq 8, 3) := by decide +kernel
theorem dX6_readNewName_25 : decode cX6_readNewName 25 = .ok (.aload_n 0, 1) := by decide +kernel
theorem dX6_readNewName_26 : decode cX6_readNewName 26 = .ok (.iconst 3, 1) := by decide +kernel
theorem dX6_readNewName_27 : decode cX6_readNewName 27 = .ok (.invokevirtual 107, 3) := by decide +kernel
theorem dX6_readNewName_30 : decode cX6_readNewName 30 = .ok (.aload_n 0, 1) := by decide +kernel
theorem dX6_readNewName_31 : decode cX6_readNewName 31 = .ok (.getfield 47, 3) := by decide +kernel
theorem dX6_readNewName_34 : decode cX6_readNewName 34 = .ok (.lstore_n 3, 1) := by decide +kernel
theorem dX6_readNewName_35 : decode cX6_readNewName 35 = .ok (.aload_n 0, 1) := by decide +kernel
theorem dX6_readNewName_36 : decode cX6_readNewName 36 = .ok (.invokevirtual 74, 3) := by decide +kernel
theorem dX6_readNewName_39 : decode cX6_readNewName 39 = .ok (.lload_n 3, 1) := by decide +kernel
theorem dX6_readNewName_40 : decode cX6_readNewName 40 = .ok (.lreturn, 1) := by decide +kernel
theorem dX6_readNumber_0 : decode cX6_readNumber 0 = .ok (.aload_n 0, 1) := by decide +kernel
theorem dX6_readNumber_1 : decode cX6_readNumber 1 = .ok (.getfield 38, 3) := by decide +kernel
theorem dX6_readNumber_4 : decode cX6_readNumber 4 = .ok (.iconst 2, 1) := by decide +kernel
theorem dX6_readNumber_5 : decode cX6_readNumber 5 = .ok (.if_icmp .eq 11, 3) := by decide +kernel
theorem dX6_readNumber_8 : decode cX6_readNumber 8 = .ok (.aload_n 0, 1) := by decide +kernel
theorem dX6_readNumber_9 : decode cX6_readNumber 9 = .ok (.iconst 2, 1) := by decide +kernel
theorem dX6_readNumber_10 : decode cX6_readNumber 10 = .ok (.invokevirtual 107, 3) := by decide +kernel
theorem dX6_readNumber_13 : decode cX6_readNumber 13 = .ok (.goto 24, 3) := by decide +kernel
theorem dX6_readNumber_16 : decode cX6_readNumber 16 = .ok (.aload_n 0, 1) := by decide +kernel
theorem dX6_readNumber_17 : decode cX6_readNumber 17 = .ok (.getfield 44, 3) := by decide +kernel
theorem dX6_readNumber_20 : decode cX6_readNumber 20 = .ok (.iload_n 1, 1) := by decide +kernel
theorem dX6_readNumber_21 : decode cX6_readNumber 21 = .ok (.if_icmp .lt 11, 3) := by decide +kernel
theorem dX6_readNumber_24 : decode cX6_readNumber 24 = .ok (.aload_n 0, 1) := by decide +kernel
theorem dX6_readNumber_25 : decode cX6_readNumber 25 = .ok (.getfield 44, 3) := by decide +kernel
theorem dX6_readNumber_28 : decode cX6_readNumber 28 = .ok (.iload_n 2, 1) := by decide +kernel
theorem dX6_readNumber_29 : decode cX6_readNumber 29 = .ok (.if_icmp .le 8, 3) := by decide +kernel
theorem dX6_readNumber_32 : decode cX6_readNumber 32 = .ok (.aload_n 0, 1) := by decide +kernel
theorem dX6_readNumber_33 : decode cX6_readNumber 33 = .ok (.iconst 4, 1) := by decide +kernel
theorem dX6_readNumber_34 : decode cX6_readNumber 34 = .ok (.invokevirtual 107, 3) := by decide +kernel
theorem dX6_readNumber_37 : decode cX6_readNumber 37 = .ok (.aload_n 0, 1) := by decide +kernel
theorem dX6_readNumber_38 : decode cX6_readNumber 38 = .ok (.getfield 44, 3) := by decide +kernel
theorem dX6_readNumber_41 : decode cX6_readNumber 41 = .ok (.istore_n 3, 1) := by decide +kernel
theorem dX6_readNumber_42 : decode cX6_readNumber 42 = .ok (.aload_n 0, 1) := by decide +kernel
theorem dX6_readNumber_43 : decode cX6_readNumber 43 = .ok (.invokevirtual 74, 3) := by decide +kernel
theorem dX6_readNumber_46 : decode cX6_readNumber 46 = .ok (.iload_n 3, 1) := by decide +kernel
theorem dX6_readNumber_47 : decode cX6_readNumber 47 = .ok (.ireturn, 1) := by decide +kernel
theorem dX6_expectWord_0 : decode cX6_expectWord 0 = .ok (.aload_n 0, 1) := by decide +kernel
theorem dX6_expectWord_1 : decode cX6_expectWord 1 = .ok (.lload_n 1, 1) := by decide +kernel
theorem dX6_expectWord_2 : decode cX6_expectWord 2 = .ok (.invokevirtual 79, 3) := by decide +kernel
theorem dX6_expectWord_5 : decode cX6_expectWord 5 = .ok (.ifCond .ne 8, 3) := by decide +kernel
theorem dX6_expectWord_8 : decode cX6_expectWord 8 = .ok (.aload_n 0, 1) := by decide +kernel
theorem dX6_expectWord_9 : decode cX6_expectWord 9 = .ok (.iconst 2, 1) := by decide +kernel
theorem dX6_expectWord_10 : decode cX6_expectWord 10 = .ok (.invokevirtual 107, 3) := by decide +kernel
theorem dX6_expectWord_13 : decode cX6_expectWord 13 = .ok (.aload_n 0, 1) := by decide +kernel
theorem dX6_expectWord_14 : decode cX6_expectWord 14 = .ok (.invokevirtual 74, 3) := by decide +kernel
theorem dX6_expectWord_17 : decode cX6_expectWord 17 = .ok (.return_, 1) := by decide +kernel
theorem dX6_expectSign_0 : decode cX6_expectSign 0 = .ok (.aload_n 0, 1) := by decide +kernel
theorem dX6_expectSign_1 : decode cX6_expectSign 1 = .ok (.getfield 38, 3) := by decide +kernel
theorem dX6_expectSign_4 : decode cX6_expectSign 4 = .ok (.iconst 3, 1) := by decide +kernel
theorem dX6_expectSign_5 : decode cX6_expectSign 5 = .ok (.if_icmp .eq 8, 3) := by decide +kernel
theorem dX6_expectSign_8 : decode cX6_expectSign 8 = .ok (.aload_n 0, 1) := by decide +kernel
theorem dX6_expectSign_9 : decode cX6_expectSign 9 = .ok (.iconst 2, 1) := by decide +kernel
theorem dX6_expectSign_10 : decode cX6_expectSign 10 = .ok (.invokevirtual 107, 3) := by decide +kernel
theorem dX6_expectSign_13 : decode cX6_expectSign 13 = .ok (.aload_n 0, 1) := by decide +kernel
theorem dX6_expectSign_14 : decode cX6_expectSign 14 = .ok (.invokevirtual 74, 3) := by decide +kernel
theorem dX6_expectSign_17 : decode cX6_expectSign 17 = .ok (.return_, 1) := by decide +kernel
theorem dX6_sees_0 : decode cX6_sees 0 = .ok (.aload_n 0, 1) := by decide +kernel
theorem dX6_sees_1 : decode cX6_sees 1 = .ok (.getfield 26, 3) := by decide +kernel
theorem dX6_sees_4 : decode cX6_sees 4 = .ok (.ifCond .ne 24, 3) := by decide +kernel
theorem dX6_sees_7 : decode cX6_sees 7 = .ok (.aload_n 0, 1) := by decide +kernel
theorem dX6_sees_8 : decode cX6_sees 8 = .ok (.getfield 38, 3) := by decide +kernel
theorem dX6_sees_11 : decode cX6_sees 11 = .ok (.iconst 1, 1) := by decide +kernel
theorem dX6_sees_12 : decode cX6_sees 12 = .ok (.if_icmp .ne 16, 3) := by decide +kernel
theorem dX6_sees_15 : decode cX6_sees 15 = .ok (.aload_n 0, 1) := by decide +kernel
theorem dX6_sees_16 : decode cX6_sees 16 = .ok (.getfield 47, 3) := by decide +kernel
theorem dX6_sees_19 : decode cX6_sees 19 = .ok (.lload_n 1, 1) := by decide +kernel
