theorem dX4_writeWords_11 : decode cX4_writeWords 11 = .ok (.aload_n 0, 1) := by decide +kernel
theorem dX4_writeWords_12 : decode cX4_writeWords 12 = .ok (.aload_n 1, 1) := by decide +kernel
theorem dX4_writeWords_13 : decode cX4_writeWords 13 = .ok (.aload_n 0, 1) := by decide +kernel
theorem dX4_writeWords_14 : decode cX4_writeWords 14 = .ok (.getfield 13, 3) := by decide +kernel
theorem dX4_writeWords_17 : decode cX4_writeWords 17 = .ok (.iload_n 2, 1) := by decide +kernel
theorem dX4_writeWords_18 : decode cX4_writeWords 18 = .ok (.invokevirtual 35, 3) := by decide +kernel
theorem dX4_writeWords_21 : decode cX4_writeWords 21 = .ok (.invokevirtual 41, 3) := by decide +kernel
theorem dX4_writeWords_24 : decode cX4_writeWords 24 = .ok (.aload_n 0, 1) := by decide +kernel
theorem dX4_writeWords_25 : decode cX4_writeWords 25 = .ok (.aload_n 1, 1) := by decide +kernel
theorem dX4_writeWords_26 : decode cX4_writeWords 26 = .ok (.bipush 35, 2) := by decide +kernel
theorem dX4_writeWords_28 : decode cX4_writeWords 28 = .ok (.aload_n 0, 1) := by decide +kernel
theorem dX4_writeWords_29 : decode cX4_writeWords 29 = .ok (.getfield 17, 3) := by decide +kernel
theorem dX4_writeWords_32 : decode cX4_writeWords 32 = .ok (.iload_n 2, 1) := by decide +kernel
theorem dX4_writeWords_33 : decode cX4_writeWords 33 = .ok (.iconst 0, 1) := by decide +kernel
theorem dX4_writeWords_34 : decode cX4_writeWords 34 = .ok (.invokevirtual 47, 3) := by decide +kernel
theorem dX4_writeWords_37 : decode cX4_writeWords 37 = .ok (.invokevirtual 51, 3) := by decide +kernel
theorem dX4_writeWords_40 : decode cX4_writeWords 40 = .ok (.aload_n 0, 1) := by decide +kernel
theorem dX4_writeWords_41 : decode cX4_writeWords 41 = .ok (.getfield 17, 3) := by decide +kernel
theorem dX4_writeWords_44 : decode cX4_writeWords 44 = .ok (.iload_n 2, 1) := by decide +kernel
theorem dX4_writeWords_45 : decode cX4_writeWords 45 = .ok (.iconst 1, 1) := by decide +kernel
theorem dX4_writeWords_46 : decode cX4_writeWords 46 = .ok (.invokevirtual 47, 3) := by decide +kernel
theorem dX4_writeWords_49 : decode cX4_writeWords 49 = .ok (.istore 4, 2) := by decide +kernel
theorem dX4_writeWords_51 : decode cX4_writeWords 51 = .ok (.iload 4, 2) := by decide +kernel
theorem dX4_writeWords_53 : decode cX4_writeWords 53 = .ok (.ifCond .le 15, 3) := by decide +kernel
theorem dX4_writeWords_56 : decode cX4_writeWords 56 = .ok (.aload_n 1, 1) := by decide +kernel
theorem dX4_writeWords_57 : decode cX4_writeWords 57 = .ok (.bipush 43, 2) := by decide +kernel
theorem dX4_writeWords_59 : decode cX4_writeWords 59 = .ok (.invokevirtual 32, 3) := by decide +kernel
theorem dX4_writeWords_62 : decode cX4_writeWords 62 = .ok (.aload_n 1, 1) := by decide +kernel
theorem dX4_writeWords_63 : decode cX4_writeWords 63 = .ok (.iload 4, 2) := by decide +kernel
theorem dX4_writeWords_65 : decode cX4_writeWords 65 = .ok (.invokevirtual 28, 3) := by decide +kernel
theorem dX4_writeWords_68 : decode cX4_writeWords 68 = .ok (.iload_n 3, 1) := by decide +kernel
theorem dX4_writeWords_69 : decode cX4_writeWords 69 = .ok (.iconst 1, 1) := by decide +kernel
theorem dX4_writeWords_70 : decode cX4_writeWords 70 = .ok (.if_icmp .ne 35, 3) := by decide +kernel
theorem dX4_writeWords_73 : decode cX4_writeWords 73 = .ok (.aload_n 0, 1) := by decide +kernel
theorem dX4_writeWords_74 : decode cX4_writeWords 74 = .ok (.aload_n 1, 1) := by decide +kernel
theorem dX4_writeWords_75 : decode cX4_writeWords 75 = .ok (.bipush 33, 2) := by decide +kernel
theorem dX4_writeWords_77 : decode cX4_writeWords 77 = .ok (.aload_n 0, 1) := by decide +kernel
theorem dX4_writeWords_78 : decode cX4_writeWords 78 = .ok (.getfield 17, 3) := by decide +kernel
theorem dX4_writeWords_81 : decode cX4_writeWords 81 = .ok (.iload_n 2, 1) := by decide +kernel
theorem dX4_writeWords_82 : decode cX4_writeWords 82 = .ok (.iconst 2, 1) := by decide +kernel
theorem dX4_writeWords_83 : decode cX4_writeWords 83 = .ok (.invokevirtual 47, 3) := by decide +kernel
theorem dX4_writeWords_86 : decode cX4_writeWords 86 = .ok (.invokevirtual 51, 3) := by decide +kernel
theorem dX4_writeWords_89 : decode cX4_writeWords 89 = .ok (.aload_n 0, 1) := by decide +kernel
theorem dX4_writeWords_90 : decode cX4_writeWords 90 = .ok (.aload_n 1, 1) := by decide +kernel
theorem dX4_writeWords_91 : decode cX4_writeWords 91 = .ok (.bipush 63, 2) := by decide +kernel
theorem dX4_writeWords_93 : decode cX4_writeWords 93 = .ok (.aload_n 0, 1) := by decide +kernel
theorem dX4_writeWords_94 : decode cX4_writeWords 94 = .ok (.getfield 17, 3) := by decide +kernel
theorem dX4_writeWords_97 : decode cX4_writeWords 97 = .ok (.iload_n 2, 1) := by decide +kernel
theorem dX4_writeWords_98 : decode cX4_writeWords 98 = .ok (.iconst 3, 1) := by decide +kernel
theorem dX4_writeWords_99 : decode cX4_writeWords 99 = .ok (.invokevirtual 47, 3) := by decide +kernel
theorem dX4_writeWords_102 : decode cX4_writeWords 102 = .ok (.invokevirtual 51, 3) := by decide +kernel
theorem dX4_writeWords_105 : decode cX4_writeWords 105 = .ok (.aload_n 0, 1) := by decide +kernel
theorem dX4_writeWords_106 : decode cX4_writeWords 106 = .ok (.getfield 17, 3) := by decide +kernel
theorem dX4_writeWords_109 : decode cX4_writeWords 109 = .ok (.iload_n 2, 1) := by decide +kernel
theorem dX4_writeWords_110 : decode cX4_writeWords 110 = .ok (.invokevirtual 55, 3) := by decide +kernel
theorem dX4_writeWords_113 : decode cX4_writeWords 113 = .ok (.istore 5, 2) := by decide +kernel
theorem dX4_writeWords_115 : decode cX4_writeWords 115 = .ok (.iload 5, 2) := by decide +kernel
theorem dX4_writeWords_117 : decode cX4_writeWords 117 = .ok (.ifCond .eq 20, 3) := by decide +kernel
theorem dX4_writeWords_120 : decode cX4_writeWords 120 = .ok (.aload_n 1, 1) := by decide +kernel
theorem dX4_writeWords_121 : decode cX4_writeWords 121 = .ok (.bipush 42, 2) := by decide +kernel
theorem dX4_writeWords_123 : decode cX4_writeWords 123 = .ok (.invokevirtual 32, 3) := by decide +kernel
theorem dX4_writeWords_126 : decode cX4_writeWords 126 = .ok (.aload_n 0, 1) := by decide +kernel
theorem dX4_writeWords_127 : decode cX4_writeWords 127 = .ok (.aload_n 1, 1) := by decide +kernel
theorem dX4_writeWords_128 : decode cX4_writeWords 128 = .ok (.iload 5, 2) := by decide +kernel
theorem dX4_writeWords_130 : decode cX4_writeWords 130 = .ok (.iload 5, 2) := by decide +kernel
theorem dX4_writeWords_132 : decode cX4_writeWords 132 = .ok (.ineg, 1) := by decide +kernel
theorem dX4_writeWords_133 : decode cX4_writeWords 133 = .ok (.iand, 1) := by decide +kernel
theorem dX4_writeWords_134 : decode cX4_writeWords 134 = .ok (.invokevirtual 41, 3) := by decide +kernel
theorem dX4_writeWords_137 : decode cX4_writeWords 137 = .ok (.iload_n 3, 1) := by decide +kernel
theorem dX4_writeWords_138 : decode cX4_writeWords 138 = .ok (.iconst 1, 1) := by decide +kernel
theorem dX4_writeWords_139 : decode cX4_writeWords 139 = .ok (.if_icmp .ne 19, 3) := by decide +kernel
theorem dX4_writeWords_142 : decode cX4_writeWords 142 = .ok (.aload_n 0, 1) := by decide +kernel
theorem dX4_writeWords_143 : decode cX4_writeWords 143 = .ok (.aload_n 1, 1) := by decide +kernel
theorem dX4_writeWords_144 : decode cX4_writeWords 144 = .ok (.bipush 61, 2) := by decide +kernel
theorem dX4_writeWords_146 : decode cX4_writeWords 146 = .ok (.aload_n 0, 1) := by decide +kernel
theorem dX4_writeWords_147 : decode cX4_writeWords 147 = .ok (.getfield 17, 3) := by decide +kernel
theorem dX4_writeWords_150 : decode cX4_writeWords 150 = .ok (.iload_n 2, 1) := by decide +kernel
theorem dX4_writeWords_151 : decode cX4_writeWords 151 = .ok (.iconst 5, 1) := by decide +kernel
theorem dX4_writeWords_152 : decode cX4_writeWords 152 = .ok (.invokevirtual 47, 3) := by decide +kernel
theorem dX4_writeWords_155 : decode cX4_writeWords 155 = .ok (.invokevirtual 51, 3) := by decide +kernel
theorem dX4_writeWords_158 : decode cX4_writeWords 158 = .ok (.return_, 1) := by decide +kernel
theorem dX4_writeCell_0 : decode cX4_writeCell 0 = .ok (.aload_n 1, 1) := by decide +kernel
theorem dX4_writeCell_1 : decode cX4_writeCell 1 = .ok (.bipush 97, 2) := by decide +kernel
theorem dX4_writeCell_3 : decode cX4_writeCell 3 = .ok (.aload_n 0, 1) := by decide +kernel
theorem dX4_writeCell_4 : decode cX4_writeCell 4 = .ok (.getfield 7, 3) := by decide +kernel
theorem dX4_writeCell_7 : decode cX4_writeCell 7 = .ok (.iload_n 2, 1) := by decide +kernel
theorem dX4_writeCell_8 : decode cX4_writeCell 8 = .ok (.invokevirtual 58, 3) := by decide +kernel
theorem dX4_writeCell_11 : decode cX4_writeCell 11 = .ok (.iadd, 1) := by decide +kernel
theorem dX4_writeCell_12 : decode cX4_writeCell 12 = .ok (.invokevirtual 32, 3) := by decide +kernel
theorem dX4_writeCell_15 : decode cX4_writeCell 15 = .ok (.aload_n 1, 1) := by decide +kernel
theorem dX4_writeCell_16 : decode cX4_writeCell 16 = .ok (.bipush 49, 2) := by decide +kernel
theorem dX4_writeCell_18 : decode cX4_writeCell 18 = .ok (.aload_n 0, 1) := by decide +kernel
theorem dX4_writeCell_19 : decode cX4_writeCell 19 = .ok (.getfield 7, 3) := by decide +kernel
theorem dX4_writeCell_22 : decode cX4_writeCell 22 = .ok (.iload_n 2, 1) := by decide +kernel
theorem dX4_writeCell_23 : decode cX4_writeCell 23 = .ok (.invokevirtual 63, 3) := by decide +kernel
theorem dX4_writeCell_26 : decode cX4_writeCell 26 = .ok (.iadd, 1) := by decide +kernel
theorem dX4_writeCell_27 : decode cX4_writeCell 27 = .ok (.invokevirtual 32, 3) := by decide +kernel
theorem dX4_writeCell_30 : decode cX4_writeCell 30 = .ok (.return_, 1) := by decide +kernel
theorem dX4_writeSigns_0 : decode cX4_writeSigns 0 = .ok (.iconst 0, 1) := by decide +kernel
theorem dX4_writeSigns_1 : decode cX4_writeSigns 1 = .ok (.istore 4, 2) := by decide +kernel
theorem dX4_writeSigns_3 : decode cX4_writeSigns 3 = .ok (.iload 4, 2) := by decide +kernel
theorem dX4_writeSigns_5 : decode cX4_writeSigns 5 = .ok (.iload_n 3, 1) := by decide +kernel
theorem dX4_writeSigns_6 : decode cX4_writeSigns 6 = .ok (.if_icmp .ge 14, 3) := by decide +kernel
theorem dX4_writeSigns_9 : decode cX4_writeSigns 9 = .ok (.aload_n 1, 1) := by decide +kernel
theorem dX4_writeSigns_10 : decode cX4_writeSigns 10 = .ok (.iload_n 2, 1) := by decide +kernel
theorem dX4_writeSigns_11 : decode cX4_writeSigns 11 = .ok (.invokevirtual 32, 3) := by decide +kernel
theorem dX4_writeSigns_14 : decode cX4_writeSigns 14 = .ok (.iinc 4 1, 3) := by decide +kernel
theorem dX4_writeSigns_17 : decode cX4_writeSigns 17 = .ok (.goto (-14), 3) := by decide +kernel
theorem dX4_writeSigns_20 : decode cX4_writeSigns 20 = .ok (.return_, 1) := by decide +kernel
theorem dX4_lengthOfAllWords_0 : decode cX4_lengthOfAllWords 0 = .ok (.aload_n 0, 1) := by decide +kernel
theorem dX4_lengthOfAllWords_1 : decode cX4_lengthOfAllWords 1 = .ok (.getfield 24, 3) := by decide +kernel
theorem dX4_lengthOfAllWords_4 : decode cX4_lengthOfAllWords 4 = .ok (.invokevirtual 66, 3) := by decide +kernel
theorem dX4_lengthOfAllWords_7 : decode cX4_lengthOfAllWords 7 = .ok (.aload_n 0, 1) := by decide +kernel
theorem dX4_lengthOfAllWords_8 : decode cX4_lengthOfAllWords 8 = .ok (.aload_n 0, 1) := by decide +kernel
theorem dX4_lengthOfAllWords_9 : decode cX4_lengthOfAllWords 9 = .ok (.getfield 24, 3) := by decide +kernel
theorem dX4_lengthOfAllWords_12 : decode cX4_lengthOfAllWords 12 = .ok (.iload_n 1, 1) := by decide +kernel
theorem dX4_lengthOfAllWords_13 : decode cX4_lengthOfAllWords 13 = .ok (.iconst 1, 1) := by decide +kernel
theorem dX4_lengthOfAllWords_14 : decode cX4_lengthOfAllWords 14 = .ok (.invokevirtual 69, 3) := by decide +kernel
theorem dX4_lengthOfAllWords_17 : decode cX4_lengthOfAllWords 17 = .ok (.aload_n 0, 1) := by decide +kernel
theorem dX4_lengthOfAllWords_18 : decode cX4_lengthOfAllWords 18 = .ok (.getfield 24, 3) := by decide +kernel
theorem dX4_lengthOfAllWords_21 : decode cX4_lengthOfAllWords 21 = .ok (.getfield 73, 3) := by decide +kernel
theorem dX4_lengthOfAllWords_24 : decode cX4_lengthOfAllWords 24 = .ok (.ireturn, 1) := by decide +kernel
theorem dX5_init_0 : decode cX5_init 0 = .ok (.aload_n 0, 1) := by decide +kernel
theorem dX5_init_1 : decode cX5_init 1 = .ok (.invokespecial 1, 3) := by decide +kernel
theorem dX5_init_4 : decode cX5_init 4 = .ok (.aload_n 0, 1) := by decide +kernel
theorem dX5_init_5 : decode cX5_init 5 = .ok (.aload_n 1, 1) := by decide +kernel
theorem dX5_init_6 : decode cX5_init 6 = .ok (.putfield 7, 3) := by decide +kernel
theorem dX5_init_9 : decode cX5_init 9 = .ok (.return_, 1) := by decide +kernel
theorem dX5_lowestReaching_0 : decode cX5_lowestReaching 0 = .ok (.aload_n 0, 1) := by decide +kernel
theorem dX5_lowestReaching_1 : decode cX5_lowestReaching 1 = .ok (.getfield 7, 3) := by decide +kernel
theorem dX5_lowestReaching_4 : decode cX5_lowestReaching 4 = .ok (.iload_n 1, 1) := by decide +kernel
theorem dX5_lowestReaching_5 : decode cX5_lowestReaching 5 = .ok (.invokevirtual 13, 3) := by decide +kernel
theorem dX5_lowestReaching_8 : decode cX5_lowestReaching 8 = .ok (.istore 6, 2) := by decide +kernel
theorem dX5_lowestReaching_10 : decode cX5_lowestReaching 10 = .ok (.iload_n 3, 1) := by decide +kernel
theorem dX5_lowestReaching_11 : decode cX5_lowestReaching 11 = .ok (.istore 7, 2) := by decide +kernel
theorem dX5_lowestReaching_13 : decode cX5_lowestReaching 13 = .ok (.iconst 0, 1) := by decide +kernel
theorem dX5_lowestReaching_14 : decode cX5_lowestReaching 14 = .ok (.istore 8, 2) := by decide +kernel
theorem dX5_lowestReaching_16 : decode cX5_lowestReaching 16 = .ok (.iload 8, 2) := by decide +kernel
theorem dX5_lowestReaching_18 : decode cX5_lowestReaching 18 = .ok (.bipush 16, 2) := by decide +kernel
theorem dX5_lowestReaching_20 : decode cX5_lowestReaching 20 = .ok (.if_icmp .ge 83, 3) := by decide +kernel
theorem dX5_lowestReaching_23 : decode cX5_lowestReaching 23 = .ok (.iload 7, 2) := by decide +kernel
theorem dX5_lowestReaching_25 : decode cX5_lowestReaching 25 = .ok (.ifCond .eq 78, 3) := by decide +kernel
theorem dX5_lowestReaching_28 : decode cX5_lowestReaching 28 = .ok (.iload 7, 2) := by decide +kernel
theorem dX5_lowestReaching_30 : decode cX5_lowestReaching 30 = .ok (.iload 7, 2) := by decide +kernel
theorem dX5_lowestReaching_32 : decode cX5_lowestReaching 32 = .ok (.ineg, 1) := by decide +kernel
theorem dX5_lowestReaching_33 : decode cX5_lowestReaching 33 = .ok (.iand, 1) := by decide +kernel
theorem dX5_lowestReaching_34 : decode cX5_lowestReaching 34 = .ok (.istore 9, 2) := by decide +kernel
theorem dX5_lowestReaching_36 : decode cX5_lowestReaching 36 = .ok (.iload 6, 2) := by decide +kernel
theorem dX5_lowestReaching_38 : decode cX5_lowestReaching 38 = .ok (.iload 9, 2) := by decide +kernel
theorem dX5_lowestReaching_40 : decode cX5_lowestReaching 40 = .ok (.iand, 1) := by decide +kernel
theorem dX5_lowestReaching_41 : decode cX5_lowestReaching 41 = .ok (.ifCond .eq 7, 3) := by decide +kernel
theorem dX5_lowestReaching_44 : decode cX5_lowestReaching 44 = .ok (.iconst 1, 1) := by decide +kernel
theorem dX5_lowestReaching_45 : decode cX5_lowestReaching 45 = .ok (.goto 4, 3) := by decide +kernel
theorem dX5_lowestReaching_48 : decode cX5_lowestReaching 48 = .ok (.iconst 0, 1) := by decide +kernel
theorem dX5_lowestReaching_49 : decode cX5_lowestReaching 49 = .ok (.istore 10, 2) := by decide +kernel
theorem dX5_lowestReaching_51 : decode cX5_lowestReaching 51 = .ok (.iload 10, 2) := by decide +kernel
theorem dX5_lowestReaching_53 : decode cX5_lowestReaching 53 = .ok (.ifCond .eq 16, 3) := by decide +kernel
theorem dX5_lowestReaching_56 : decode cX5_lowestReaching 56 = .ok (.aload_n 0, 1) := by decide +kernel
theorem dX5_lowestReaching_57 : decode cX5_lowestReaching 57 = .ok (.getfield 7, 3) := by decide +kernel
theorem dX5_lowestReaching_60 : decode cX5_lowestReaching 60 = .ok (.getfield 19, 3) := by decide +kernel
theorem dX5_lowestReaching_63 : decode cX5_lowestReaching 63 = .ok (.ifCond .ne 27, 3) := by decide +kernel
theorem dX5_lowestReaching_66 : decode cX5_lowestReaching 66 = .ok (.goto 21, 3) := by decide +kernel
theorem dX5_lowestReaching_69 : decode cX5_lowestReaching 69 = .ok (.aload_n 0, 1) := by decide +kernel
theorem dX5_lowestReaching_70 : decode cX5_lowestReaching 70 = .ok (.iload_n 2, 1) := by decide +kernel
theorem dX5_lowestReaching_71 : decode cX5_lowestReaching 71 = .ok (.iload_n 1, 1) := by decide +kernel
theorem dX5_lowestReaching_72 : decode cX5_lowestReaching 72 = .ok (.iload 9, 2) := by decide +kernel
theorem dX5_lowestReaching_74 : decode cX5_lowestReaching 74 = .ok (.ior, 1) := by decide +kernel
theorem dX5_lowestReaching_75 : decode cX5_lowestReaching 75 = .ok (.iload 4, 2) := by decide +kernel
theorem dX5_lowestReaching_77 : decode cX5_lowestReaching 77 = .ok (.iconst 1, 1) := by decide +kernel
theorem dX5_lowestReaching_78 : decode cX5_lowestReaching 78 = .ok (.iload 5, 2) := by decide +kernel
theorem dX5_lowestReaching_80 : decode cX5_lowestReaching 80 = .ok (.isub, 1) := by decide +kernel
theorem dX5_lowestReaching_81 : decode cX5_lowestReaching 81 = .ok (.invokevirtual 23, 3) := by decide +kernel
theorem dX5_lowestReaching_84 : decode cX5_lowestReaching 84 = .ok (.ifCond .ne 6, 3) := by decide +kernel
theorem dX5_lowestReaching_87 : decode cX5_lowestReaching 87 = .ok (.iload 9, 2) := by decide +kernel
theorem dX5_lowestReaching_89 : decode cX5_lowestReaching 89 = .ok (.ireturn, 1) := by decide +kernel
theorem dX5_lowestReaching_90 : decode cX5_lowestReaching 90 = .ok (.iload 7, 2) := by decide +kernel
theorem dX5_lowestReaching_92 : decode cX5_lowestReaching 92 = .ok (.iload 9, 2) := by decide +kernel
theorem dX5_lowestReaching_94 : decode cX5_lowestReaching 94 = .ok (.ixor, 1) := by decide +kernel
theorem dX5_lowestReaching_95 : decode cX5_lowestReaching 95 = .ok (.istore 7, 2) := by decide +kernel
theorem dX5_lowestReaching_97 : decode cX5_lowestReaching 97 = .ok (.iinc 8 1, 3) := by decide +kernel
theorem dX5_lowestReaching_100 : decode cX5_lowestReaching 100 = .ok (.goto (-84), 3) := by decide +kernel
theorem dX5_lowestReaching_103 : decode cX5_lowestReaching 103 = .ok (.iconst 0, 1) := by decide +kernel
theorem dX5_lowestReaching_104 : decode cX5_lowestReaching 104 = .ok (.ireturn, 1) := by decide +kernel
theorem dX5_valueFor_0 : decode cX5_valueFor 0 = .ok (.aload_n 0, 1) := by decide +kernel
theorem dX5_valueFor_1 : decode cX5_valueFor 1 = .ok (.iload_n 1, 1) := by decide +kernel
theorem dX5_valueFor_2 : decode cX5_valueFor 2 = .ok (.iload_n 2, 1) := by decide +kernel
theorem dX5_valueFor_3 : decode cX5_valueFor 3 = .ok (.iload_n 3, 1) := by decide +kernel
theorem dX5_valueFor_4 : decode cX5_valueFor 4 = .ok (.iconst 0, 1) := by decide +kernel
theorem dX5_valueFor_5 : decode cX5_valueFor 5 = .ok (.invokevirtual 23, 3) := by decide +kernel
theorem dX5_valueFor_8 : decode cX5_valueFor 8 = .ok (.ifCond .ne 5, 3) := by decide +kernel
theorem dX5_valueFor_11 : decode cX5_valueFor 11 = .ok (.iconst (-1), 1) := by decide +kernel
theorem dX5_valueFor_12 : decode cX5_valueFor 12 = .ok (.ireturn, 1) := by decide +kernel
theorem dX5_valueFor_13 : decode cX5_valueFor 13 = .ok (.aload_n 0, 1) := by decide +kernel
theorem dX5_valueFor_14 : decode cX5_valueFor 14 = .ok (.iload_n 1, 1) := by decide +kernel
theorem dX5_valueFor_15 : decode cX5_valueFor 15 = .ok (.iload_n 2, 1) := by decide +kernel
theorem dX5_valueFor_16 : decode cX5_valueFor 16 = .ok (.iload_n 3, 1) := by decide +kernel
theorem dX5_valueFor_17 : decode cX5_valueFor 17 = .ok (.iconst 1, 1) := by decide +kernel
theorem dX5_valueFor_18 : decode cX5_valueFor 18 = .ok (.invokevirtual 23, 3) := by decide +kernel
theorem dX5_valueFor_21 : decode cX5_valueFor 21 = .ok (.ifCond .eq 7, 3) := by decide +kernel
theorem dX5_valueFor_24 : decode cX5_valueFor 24 = .ok (.iconst 1, 1) := by decide +kernel
theorem dX5_valueFor_25 : decode cX5_valueFor 25 = .ok (.goto 4, 3) := by decide +kernel
theorem dX5_valueFor_28 : decode cX5_valueFor 28 = .ok (.iconst 0, 1) := by decide +kernel
theorem dX5_valueFor_29 : decode cX5_valueFor 29 = .ok (.ireturn, 1) := by decide +kernel
theorem dX5_reaches_0 : decode cX5_reaches 0 = .ok (.aload_n 0, 1) := by decide +kernel
theorem dX5_reaches_1 : decode cX5_reaches 1 = .ok (.getfield 7, 3) := by decide +kernel
theorem dX5_reaches_4 : decode cX5_reaches 4 = .ok (.iload_n 1, 1) := by decide +kernel
theorem dX5_reaches_5 : decode cX5_reaches 5 = .ok (.iload_n 2, 1) := by decide +kernel
theorem dX5_reaches_6 : decode cX5_reaches 6 = .ok (.ior, 1) := by decide +kernel
theorem dX5_reaches_7 : decode cX5_reaches 7 = .ok (.invokevirtual 27, 3) := by decide +kernel
theorem dX5_reaches_10 : decode cX5_reaches 10 = .ok (.istore 5, 2) := by decide +kernel
theorem dX5_reaches_12 : decode cX5_reaches 12 = .ok (.iload 5, 2) := by decide +kernel
theorem dX5_reaches_14 : decode cX5_reaches 14 = .ok (.ifCond .eq 13, 3) := by decide +kernel
theorem dX5_reaches_17 : decode cX5_reaches 17 = .ok (.iload_n 3, 1) := by decide +kernel
theorem dX5_reaches_18 : decode cX5_reaches 18 = .ok (.iconst 1, 1) := by decide +kernel
theorem dX5_reaches_19 : decode cX5_reaches 19 = .ok (.if_icmp .lt 8, 3) := by decide +kernel
theorem dX5_reaches_22 : decode cX5_reaches 22 = .ok (.iload_n 3, 1) := by decide +kernel
theorem dX5_reaches_23 : decode cX5_reaches 23 = .ok (.iconst 5, 1) := by decide +kernel
theorem dX5_reaches_24 : decode cX5_reaches 24 = .ok (.if_icmp .le 14, 3) := by decide +kernel
theorem dX5_reaches_27 : decode cX5_reaches 27 = .ok (.iload 4, 2) := by decide +kernel
theorem dX5_reaches_29 : decode cX5_reaches 29 = .ok (.ifCond .gt 7, 3) := by decide +kernel
theorem dX5_reaches_32 : decode cX5_reaches 32 = .ok (.iconst 1, 1) := by decide +kernel
theorem dX5_reaches_33 : decode cX5_reaches 33 = .ok (.goto 4, 3) := by decide +kernel
theorem dX5_reaches_36 : decode cX5_reaches 36 = .ok (.iconst 0, 1) := by decide +kernel
theorem dX5_reaches_37 : decode cX5_reaches 37 = .ok (.ireturn, 1) := by decide +kernel
theorem dX5_reaches_38 : decode cX5_reaches 38 = .ok (.aload_n 0, 1) := by decide +kernel
theorem dX5_reaches_39 : decode cX5_reaches 39 = .ok (.getfield 7, 3) := by decide +kernel
theorem dX5_reaches_42 : decode cX5_reaches 42 = .ok (.iload_n 1, 1) := by decide +kernel
theorem dX5_reaches_43 : decode cX5_reaches 43 = .ok (.invokevirtual 13, 3) := by decide +kernel
theorem dX5_reaches_46 : decode cX5_reaches 46 = .ok (.iload 5, 2) := by decide +kernel
theorem dX5_reaches_48 : decode cX5_reaches 48 = .ok (.iand, 1) := by decide +kernel
theorem dX5_reaches_49 : decode cX5_reaches 49 = .ok (.istore 6, 2) := by decide +kernel
theorem dX5_reaches_51 : decode cX5_reaches 51 = .ok (.iload 6, 2) := by decide +kernel
theorem dX5_reaches_53 : decode cX5_reaches 53 = .ok (.ifCond .eq 15, 3) := by decide +kernel
theorem dX5_reaches_56 : decode cX5_reaches 56 = .ok (.aload_n 0, 1) := by decide +kernel
theorem dX5_reaches_57 : decode cX5_reaches 57 = .ok (.getfield 7, 3) := by decide +kernel
theorem dX5_reaches_60 : decode cX5_reaches 60 = .ok (.getfield 19, 3) := by decide +kernel
theorem dX5_reaches_63 : decode cX5_reaches 63 = .ok (.ifCond .ne 5, 3) := by decide +kernel
theorem dX5_reaches_66 : decode cX5_reaches 66 = .ok (.iconst 1, 1) := by decide +kernel
theorem dX5_reaches_67 : decode cX5_reaches 67 = .ok (.ireturn, 1) := by decide +kernel
theorem dX5_reaches_68 : decode cX5_reaches 68 = .ok (.iload 5, 2) := by decide +kernel
theorem dX5_reaches_70 : decode cX5_reaches 70 = .ok (.iload 6, 2) := by decide +kernel
theorem dX5_reaches_72 : decode cX5_reaches 72 = .ok (.iconst (-1), 1) := by decide +kernel
theorem dX5_reaches_73 : decode cX5_reaches 73 = .ok (.ixor, 1) := by decide +kernel
theorem dX5_reaches_74 : decode cX5_reaches 74 = .ok (.iand, 1) := by decide +kernel
theorem dX5_reaches_75 : decode cX5_reaches 75 = .ok (.istore 7, 2) := by decide +kernel
theorem dX5_reaches_77 : decode cX5_reaches 77 = .ok (.iload_n 3, 1) := by decide +kernel
theorem dX5_reaches_78 : decode cX5_reaches 78 = .ok (.iconst 1, 1) := by decide +kernel
theorem dX5_reaches_79 : decode cX5_reaches 79 = .ok (.if_icmp .ne 19, 3) := by decide +kernel
theorem dX5_reaches_82 : decode cX5_reaches 82 = .ok (.iload 4, 2) := by decide +kernel
theorem dX5_reaches_84 : decode cX5_reaches 84 = .ok (.ifCond .gt 12, 3) := by decide +kernel
theorem dX5_reaches_87 : decode cX5_reaches 87 = .ok (.iload 7, 2) := by decide +kernel
theorem dX5_reaches_89 : decode cX5_reaches 89 = .ok (.ifCond .eq 7, 3) := by decide +kernel
theorem dX5_reaches_92 : decode cX5_reaches 92 = .ok (.iconst 1, 1) := by decide +kernel
theorem dX5_reaches_93 : decode cX5_reaches 93 = .ok (.goto 4, 3) := by decide +kernel
theorem dX5_reaches_96 : decode cX5_reaches 96 = .ok (.iconst 0, 1) := by decide +kernel
theorem dX5_reaches_97 : decode cX5_reaches 97 = .ok (.ireturn, 1) := by decide +kernel
theorem dX5_reaches_98 : decode cX5_reaches 98 = .ok (.iconst 0, 1) := by decide +kernel
theorem dX5_reaches_99 : decode cX5_reaches 99 = .ok (.istore 8, 2) := by decide +kernel
theorem dX5_reaches_101 : decode cX5_reaches 101 = .ok (.iload 8, 2) := by decide +kernel
theorem dX5_reaches_103 : decode cX5_reaches 103 = .ok (.bipush 16, 2) := by decide +kernel
theorem dX5_reaches_105 : decode cX5_reaches 105 = .ok (.if_icmp .ge 50, 3) := by decide +kernel
theorem dX5_reaches_108 : decode cX5_reaches 108 = .ok (.iload 7, 2) := by decide +kernel
theorem dX5_reaches_110 : decode cX5_reaches 110 = .ok (.ifCond .eq 45, 3) := by decide +kernel
theorem dX5_reaches_113 : decode cX5_reaches 113 = .ok (.iload 7, 2) := by decide +kernel
theorem dX5_reaches_115 : decode cX5_reaches 115 = .ok (.iload 7, 2) := by decide +kernel
theorem dX5_reaches_117 : decode cX5_reaches 117 = .ok (.ineg, 1) := by decide +kernel
theorem dX5_reaches_118 : decode cX5_reaches 118 = .ok (.iand, 1) := by decide +kernel
theorem dX5_reaches_119 : decode cX5_reaches 119 = .ok (.istore 9, 2) := by decide +kernel
theorem dX5_reaches_121 : decode cX5_reaches 121 = .ok (.aload_n 0, 1) := by decide +kernel
theorem dX5_reaches_122 : decode cX5_reaches 122 = .ok (.iload_n 2, 1) := by decide +kernel
theorem dX5_reaches_123 : decode cX5_reaches 123 = .ok (.iload_n 1, 1) := by decide +kernel
theorem dX5_reaches_124 : decode cX5_reaches 124 = .ok (.iload 9, 2) := by decide +kernel
theorem dX5_reaches_126 : decode cX5_reaches 126 = .ok (.ior, 1) := by decide +kernel
theorem dX5_reaches_127 : decode cX5_reaches 127 = .ok (.iload_n 3, 1) := by decide +kernel
theorem dX5_reaches_128 : decode cX5_reaches 128 = .ok (.iconst 1, 1) := by decide +kernel
theorem dX5_reaches_129 : decode cX5_reaches 129 = .ok (.isub, 1) := by decide +kernel
theorem dX5_reaches_130 : decode cX5_reaches 130 = .ok (.iconst 1, 1) := by decide +kernel
theorem dX5_reaches_131 : decode cX5_reaches 131 = .ok (.iload 4, 2) := by decide +kernel
theorem dX5_reaches_133 : decode cX5_reaches 133 = .ok (.isub, 1) := by decide +kernel
theorem dX5_reaches_134 : decode cX5_reaches 134 = .ok (.invokevirtual 23, 3) := by decide +kernel
theorem dX5_reaches_137 : decode cX5_reaches 137 = .ok (.ifCond .ne 5, 3) := by decide +kernel
theorem dX5_reaches_140 : decode cX5_reaches 140 = .ok (.iconst 1, 1) := by decide +kernel
theorem dX5_reaches_141 : decode cX5_reaches 141 = .ok (.ireturn, 1) := by decide +kernel
theorem dX5_reaches_142 : decode cX5_reaches 142 = .ok (.iload 7, 2) := by decide +kernel
theorem dX5_reaches_144 : decode cX5_reaches 144 = .ok (.iload 9, 2) := by decide +kernel
theorem dX5_reaches_146 : decode cX5_reaches 146 = .ok (.ixor, 1) := by decide +kernel
theorem dX5_reaches_147 : decode cX5_reaches 147 = .ok (.istore 7, 2) := by decide +kernel
theorem dX5_reaches_149 : decode cX5_reaches 149 = .ok (.iinc 8 1, 3) := by decide +kernel
theorem dX5_reaches_152 : decode cX5_reaches 152 = .ok (.goto (-51), 3) := by decide +kernel
theorem dX5_reaches_155 : decode cX5_reaches 155 = .ok (.iconst 0, 1) := by decide +kernel
theorem dX5_reaches_156 : decode cX5_reaches 156 = .ok (.ireturn, 1) := by decide +kernel
theorem dX6_init_0 : decode cX6_init 0 = .ok (.aload_n 0, 1) := by decide +kernel
theorem dX6_init_1 : decode cX6_init 1 = .ok (.invokespecial 3, 3) := by decide +kernel
theorem dX6_init_4 : decode cX6_init 4 = .ok (.aload_n 0, 1) := by decide +kernel
theorem dX6_init_5 : decode cX6_init 5 = .ok (.bipush 120, 2) := by decide +kernel
theorem dX6_init_7 : decode cX6_init 7 = .ok (.newarray .int, 2) := by decide +kernel
theorem dX6_init_9 : decode cX6_init 9 = .ok (.putfield 11, 3) := by decide +kernel
theorem dX6_init_12 : decode cX6_init 12 = .ok (.return_, 1) := by decide +kernel
theorem dX6_hasRoomForTwenty_0 : decode cX6_hasRoomForTwenty 0 = .ok (.aload_n 0, 1) := by decide +kernel
theorem dX6_hasRoomForTwenty_1 : decode cX6_hasRoomForTwenty 1 = .ok (.getfield 15, 3) := by decide +kernel
theorem dX6_hasRoomForTwenty_4 : decode cX6_hasRoomForTwenty 4 = .ok (.bipush 20, 2) := by decide +kernel
theorem dX6_hasRoomForTwenty_6 : decode cX6_hasRoomForTwenty 6 = .ok (.iadd, 1) := by decide +kernel
theorem dX6_hasRoomForTwenty_7 : decode cX6_hasRoomForTwenty 7 = .ok (.bipush 120, 2) := by decide +kernel
theorem dX6_hasRoomForTwenty_9 : decode cX6_hasRoomForTwenty 9 = .ok (.if_icmp .gt 7, 3) := by decide +kernel
theorem dX6_hasRoomForTwenty_12 : decode cX6_hasRoomForTwenty 12 = .ok (.iconst 1, 1) := by decide +kernel
theorem dX6_hasRoomForTwenty_13 : decode cX6_hasRoomForTwenty 13 = .ok (.goto 4, 3) := by decide +kernel
theorem dX6_hasRoomForTwenty_16 : decode cX6_hasRoomForTwenty 16 = .ok (.iconst 0, 1) := by decide +kernel
theorem dX6_hasRoomForTwenty_17 : decode cX6_hasRoomForTwenty 17 = .ok (.ireturn, 1) := by decide +kernel
theorem dX6_addFour_0 : decode cX6_addFour 0 = .ok (.bipush 24, 2) := by decide +kernel
theorem dX6_addFour_2 : decode cX6_addFour 2 = .ok (.istore_n 2, 1) := by decide +kernel
theorem dX6_addFour_3 : decode cX6_addFour 3 = .ok (.iload_n 2, 1) := by decide +kernel
theorem dX6_addFour_4 : decode cX6_addFour 4 = .ok (.ifCond .lt 47, 3) := by decide +kernel
theorem dX6_addFour_7 : decode cX6_addFour 7 = .ok (.aload_n 0, 1) := by decide +kernel
theorem dX6_addFour_8 : decode cX6_addFour 8 = .ok (.getfield 15, 3) := by decide +kernel
theorem dX6_addFour_11 : decode cX6_addFour 11 = .ok (.aload_n 0, 1) := by decide +kernel
theorem dX6_addFour_12 : decode cX6_addFour 12 = .ok (.getfield 11, 3) := by decide +kernel
theorem dX6_addFour_15 : decode cX6_addFour 15 = .ok (.arraylength, 1) := by decide +kernel
theorem dX6_addFour_16 : decode cX6_addFour 16 = .ok (.if_icmp .ge 29, 3) := by decide +kernel
theorem dX6_addFour_19 : decode cX6_addFour 19 = .ok (.aload_n 0, 1) := by decide +kernel
theorem dX6_addFour_20 : decode cX6_addFour 20 = .ok (.getfield 11, 3) := by decide +kernel
theorem dX6_addFour_23 : decode cX6_addFour 23 = .ok (.aload_n 0, 1) := by decide +kernel
theorem dX6_addFour_24 : decode cX6_addFour 24 = .ok (.getfield 15, 3) := by decide +kernel
theorem dX6_addFour_27 : decode cX6_addFour 27 = .ok (.iload_n 1, 1) := by decide +kernel
theorem dX6_addFour_28 : decode cX6_addFour 28 = .ok (.iload_n 2, 1) := by decide +kernel
theorem dX6_addFour_29 : decode cX6_addFour 29 = .ok (.iushr, 1) := by decide +kernel
theorem dX6_addFour_30 : decode cX6_addFour 30 = .ok (.sipush 255, 3) := by decide +kernel
theorem dX6_addFour_33 : decode cX6_addFour 33 = .ok (.iand, 1) := by decide +kernel
theorem dX6_addFour_34 : decode cX6_addFour 34 = .ok (.iastore, 1) := by decide +kernel
theorem dX6_addFour_35 : decode cX6_addFour 35 = .ok (.aload_n 0, 1) := by decide +kernel
theorem dX6_addFour_36 : decode cX6_addFour 36 = .ok (.dup, 1) := by decide +kernel
theorem dX6_addFour_37 : decode cX6_addFour 37 = .ok (.getfield 15, 3) := by decide +kernel
theorem dX6_addFour_40 : decode cX6_addFour 40 = .ok (.iconst 1, 1) := by decide +kernel
theorem dX6_addFour_41 : decode cX6_addFour 41 = .ok (.iadd, 1) := by decide +kernel
theorem dX6_addFour_42 : decode cX6_addFour 42 = .ok (.putfield 15, 3) := by decide +kernel
theorem dX6_addFour_45 : decode cX6_addFour 45 = .ok (.iinc 2 (-8), 3) := by decide +kernel
theorem dX6_addFour_48 : decode cX6_addFour 48 = .ok (.goto (-45), 3) := by decide +kernel
theorem dX6_addFour_51 : decode cX6_addFour 51 = .ok (.return_, 1) := by decide +kernel
theorem dX6_finish_0 : decode cX6_finish 0 = .ok (.aload_n 0, 1) := by decide +kernel
theorem dX6_finish_1 : decode cX6_finish 1 = .ok (.iload_n 1, 1) := by decide +kernel
theorem dX6_finish_2 : decode cX6_finish 2 = .ok (.putfield 19, 3) := by decide +kernel
theorem dX6_finish_5 : decode cX6_finish 5 = .ok (.aload_n 0, 1) := by decide +kernel
theorem dX6_finish_6 : decode cX6_finish 6 = .ok (.iconst 0, 1) := by decide +kernel
theorem dX6_finish_7 : decode cX6_finish 7 = .ok (.putfield 15, 3) := by decide +kernel
theorem dX6_finish_10 : decode cX6_finish 10 = .ok (.return_, 1) := by decide +kernel
theorem dX6_readWords_0 : decode cX6_readWords 0 = .ok (.aload_n 0, 1) := by decide +kernel
theorem dX6_readWords_1 : decode cX6_readWords 1 = .ok (.iload_n 1, 1) := by decide +kernel
theorem dX6_readWords_2 : decode cX6_readWords 2 = .ok (.iload_n 2, 1) := by decide +kernel
theorem dX6_readWords_3 : decode cX6_readWords 3 = .ok (.iload_n 3, 1) := by decide +kernel
theorem dX6_readWords_4 : decode cX6_readWords 4 = .ok (.invokevirtual 22, 3) := by decide +kernel
theorem dX6_readWords_7 : decode cX6_readWords 7 = .ok (.istore 4, 2) := by decide +kernel
theorem dX6_readWords_9 : decode cX6_readWords 9 = .ok (.aload_n 0, 1) := by decide +kernel
theorem dX6_readWords_10 : decode cX6_readWords 10 = .ok (.iload 4, 2) := by decide +kernel
theorem dX6_readWords_12 : decode cX6_readWords 12 = .ok (.iload_n 2, 1) := by decide +kernel
theorem dX6_readWords_13 : decode cX6_readWords 13 = .ok (.invokevirtual 26, 3) := by decide +kernel
theorem dX6_readWords_16 : decode cX6_readWords 16 = .ok (.ifCond .ne 5, 3) := by decide +kernel
theorem dX6_readWords_19 : decode cX6_readWords 19 = .ok (.iconst 0, 1) := by decide +kernel
theorem dX6_readWords_20 : decode cX6_readWords 20 = .ok (.ireturn, 1) := by decide +kernel
theorem dX6_readWords_21 : decode cX6_readWords 21 = .ok (.aload_n 0, 1) := by decide +kernel
theorem dX6_readWords_22 : decode cX6_readWords 22 = .ok (.aload_n 0, 1) := by decide +kernel
theorem dX6_readWords_23 : decode cX6_readWords 23 = .ok (.iload 4, 2) := by decide +kernel
theorem dX6_readWords_25 : decode cX6_readWords 25 = .ok (.iload_n 2, 1) := by decide +kernel
theorem dX6_readWords_26 : decode cX6_readWords 26 = .ok (.invokevirtual 30, 3) := by decide +kernel
theorem dX6_readWords_29 : decode cX6_readWords 29 = .ok (.bipush 97, 2) := by decide +kernel
theorem dX6_readWords_31 : decode cX6_readWords 31 = .ok (.isub, 1) := by decide +kernel
theorem dX6_readWords_32 : decode cX6_readWords 32 = .ok (.putfield 34, 3) := by decide +kernel
theorem dX6_readWords_35 : decode cX6_readWords 35 = .ok (.aload_n 0, 1) := by decide +kernel
theorem dX6_readWords_36 : decode cX6_readWords 36 = .ok (.aload_n 0, 1) := by decide +kernel
theorem dX6_readWords_37 : decode cX6_readWords 37 = .ok (.iload 4, 2) := by decide +kernel
theorem dX6_readWords_39 : decode cX6_readWords 39 = .ok (.iconst 1, 1) := by decide +kernel
theorem dX6_readWords_40 : decode cX6_readWords 40 = .ok (.iadd, 1) := by decide +kernel
theorem dX6_readWords_41 : decode cX6_readWords 41 = .ok (.iload_n 2, 1) := by decide +kernel
theorem dX6_readWords_42 : decode cX6_readWords 42 = .ok (.invokevirtual 30, 3) := by decide +kernel
theorem dX6_readWords_45 : decode cX6_readWords 45 = .ok (.bipush 49, 2) := by decide +kernel
theorem dX6_readWords_47 : decode cX6_readWords 47 = .ok (.isub, 1) := by decide +kernel
theorem dX6_readWords_48 : decode cX6_readWords 48 = .ok (.putfield 37, 3) := by decide +kernel
theorem dX6_readWords_51 : decode cX6_readWords 51 = .ok (.aload_n 0, 1) := by decide +kernel
theorem dX6_readWords_52 : decode cX6_readWords 52 = .ok (.aload_n 0, 1) := by decide +kernel
theorem dX6_readWords_53 : decode cX6_readWords 53 = .ok (.iload 4, 2) := by decide +kernel
theorem dX6_readWords_55 : decode cX6_readWords 55 = .ok (.iconst 2, 1) := by decide +kernel
theorem dX6_readWords_56 : decode cX6_readWords 56 = .ok (.iadd, 1) := by decide +kernel
theorem dX6_readWords_57 : decode cX6_readWords 57 = .ok (.iload_n 2, 1) := by decide +kernel
theorem dX6_readWords_58 : decode cX6_readWords 58 = .ok (.invokevirtual 40, 3) := by decide +kernel
theorem dX6_readWords_61 : decode cX6_readWords 61 = .ok (.putfield 43, 3) := by decide +kernel
theorem dX6_readWords_64 : decode cX6_readWords 64 = .ok (.aload_n 0, 1) := by decide +kernel
theorem dX6_readWords_65 : decode cX6_readWords 65 = .ok (.getfield 43, 3) := by decide +kernel
theorem dX6_readWords_68 : decode cX6_readWords 68 = .ok (.iload_n 2, 1) := by decide +kernel
theorem dX6_readWords_69 : decode cX6_readWords 69 = .ok (.if_icmp .eq 17, 3) := by decide +kernel
theorem dX6_readWords_72 : decode cX6_readWords 72 = .ok (.aload_n 0, 1) := by decide +kernel
theorem dX6_readWords_73 : decode cX6_readWords 73 = .ok (.aload_n 0, 1) := by decide +kernel
theorem dX6_readWords_74 : decode cX6_readWords 74 = .ok (.getfield 43, 3) := by decide +kernel
theorem dX6_readWords_77 : decode cX6_readWords 77 = .ok (.iload_n 2, 1) := by decide +kernel
theorem dX6_readWords_78 : decode cX6_readWords 78 = .ok (.invokevirtual 30, 3) := by decide +kernel
theorem dX6_readWords_81 : decode cX6_readWords 81 = .ok (.bipush 32, 2) := by decide +kernel
theorem dX6_readWords_83 : decode cX6_readWords 83 = .ok (.if_icmp .ne 7, 3) := by decide +kernel
theorem dX6_readWords_86 : decode cX6_readWords 86 = .ok (.iconst 1, 1) := by decide +kernel
theorem dX6_readWords_87 : decode cX6_readWords 87 = .ok (.goto 4, 3) := by decide +kernel
theorem dX6_readWords_90 : decode cX6_readWords 90 = .ok (.iconst 0, 1) := by decide +kernel
theorem dX6_readWords_91 : decode cX6_readWords 91 = .ok (.ireturn, 1) := by decide +kernel
theorem dX6_behindNumber_0 : decode cX6_behindNumber 0 = .ok (.iload_n 1, 1) := by decide +kernel
theorem dX6_behindNumber_1 : decode cX6_behindNumber 1 = .ok (.istore 4, 2) := by decide +kernel
theorem dX6_behindNumber_3 : decode cX6_behindNumber 3 = .ok (.iload_n 3, 1) := by decide +kernel
theorem dX6_behindNumber_4 : decode cX6_behindNumber 4 = .ok (.bipush 10, 2) := by decide +kernel
theorem dX6_behindNumber_6 : decode cX6_behindNumber 6 = .ok (.if_icmp .lt 25, 3) := by decide +kernel
theorem dX6_behindNumber_9 : decode cX6_behindNumber 9 = .ok (.aload_n 0, 1) := by decide +kernel
theorem dX6_behindNumber_10 : decode cX6_behindNumber 10 = .ok (.iload 4, 2) := by decide +kernel
theorem dX6_behindNumber_12 : decode cX6_behindNumber 12 = .ok (.iload_n 2, 1) := by decide +kernel
theorem dX6_behindNumber_13 : decode cX6_behindNumber 13 = .ok (.invokevirtual 30, 3) := by decide +kernel
theorem dX6_behindNumber_16 : decode cX6_behindNumber 16 = .ok (.bipush 48, 2) := by decide +kernel
theorem dX6_behindNumber_18 : decode cX6_behindNumber 18 = .ok (.iload_n 3, 1) := by decide +kernel
theorem dX6_behindNumber_19 : decode cX6_behindNumber 19 = .ok (.bipush 10, 2) := by decide +kernel
theorem dX6_behindNumber_21 : decode cX6_behindNumber 21 = .ok (.idiv, 1) := by decide +kernel
theorem dX6_behindNumber_22 : decode cX6_behindNumber 22 = .ok (.iadd, 1) := by decide +kernel
theorem dX6_behindNumber_23 : decode cX6_behindNumber 23 = .ok (.if_icmp .eq 5, 3) := by decide +kernel
theorem dX6_behindNumber_26 : decode cX6_behindNumber 26 = .ok (.iload_n 1, 1) := by decide +kernel
theorem dX6_behindNumber_27 : decode cX6_behindNumber 27 = .ok (.ireturn, 1) := by decide +kernel
theorem dX6_behindNumber_28 : decode cX6_behindNumber 28 = .ok (.iinc 4 1, 3) := by decide +kernel
theorem dX6_behindNumber_31 : decode cX6_behindNumber 31 = .ok (.aload_n 0, 1) := by decide +kernel
theorem dX6_behindNumber_32 : decode cX6_behindNumber 32 = .ok (.iload 4, 2) := by decide +kernel
theorem dX6_behindNumber_34 : decode cX6_behindNumber 34 = .ok (.iload_n 2, 1) := by decide +kernel
theorem dX6_behindNumber_35 : decode cX6_behindNumber 35 = .ok (.invokevirtual 30, 3) := by decide +kernel
theorem dX6_behindNumber_38 : decode cX6_behindNumber 38 = .ok (.bipush 48, 2) := by decide +kernel
theorem dX6_behindNumber_40 : decode cX6_behindNumber 40 = .ok (.iload_n 3, 1) := by decide +kernel
theorem dX6_behindNumber_41 : decode cX6_behindNumber 41 = .ok (.bipush 10, 2) := by decide +kernel
theorem dX6_behindNumber_43 : decode cX6_behindNumber 43 = .ok (.irem, 1) := by decide +kernel
theorem dX6_behindNumber_44 : decode cX6_behindNumber 44 = .ok (.iadd, 1) := by decide +kernel
theorem dX6_behindNumber_45 : decode cX6_behindNumber 45 = .ok (.if_icmp .ne 21, 3) := by decide +kernel
theorem dX6_behindNumber_48 : decode cX6_behindNumber 48 = .ok (.aload_n 0, 1) := by decide +kernel
theorem dX6_behindNumber_49 : decode cX6_behindNumber 49 = .ok (.iload 4, 2) := by decide +kernel
theorem dX6_behindNumber_51 : decode cX6_behindNumber 51 = .ok (.iconst 1, 1) := by decide +kernel
theorem dX6_behindNumber_52 : decode cX6_behindNumber 52 = .ok (.iadd, 1) := by decide +kernel
theorem dX6_behindNumber_53 : decode cX6_behindNumber 53 = .ok (.iload_n 2, 1) := by decide +kernel
theorem dX6_behindNumber_54 : decode cX6_behindNumber 54 = .ok (.invokevirtual 30, 3) := by decide +kernel
theorem dX6_behindNumber_57 : decode cX6_behindNumber 57 = .ok (.bipush 46, 2) := by decide +kernel
theorem dX6_behindNumber_59 : decode cX6_behindNumber 59 = .ok (.if_icmp .ne 7, 3) := by decide +kernel
theorem dX6_behindNumber_62 : decode cX6_behindNumber 62 = .ok (.iconst 1, 1) := by decide +kernel
theorem dX6_behindNumber_63 : decode cX6_behindNumber 63 = .ok (.goto 4, 3) := by decide +kernel
theorem dX6_behindNumber_66 : decode cX6_behindNumber 66 = .ok (.iconst 0, 1) := by decide +kernel
theorem dX6_behindNumber_67 : decode cX6_behindNumber 67 = .ok (.istore 5, 2) := by decide +kernel
theorem dX6_behindNumber_69 : decode cX6_behindNumber 69 = .ok (.iload 5, 2) := by decide +kernel
theorem dX6_behindNumber_71 : decode cX6_behindNumber 71 = .ok (.ifCond .eq 10, 3) := by decide +kernel
theorem dX6_behindNumber_74 : decode cX6_behindNumber 74 = .ok (.iload 4, 2) := by decide +kernel
theorem dX6_behindNumber_76 : decode cX6_behindNumber 76 = .ok (.iconst 2, 1) := by decide +kernel
theorem dX6_behindNumber_77 : decode cX6_behindNumber 77 = .ok (.iadd, 1) := by decide +kernel
theorem dX6_behindNumber_78 : decode cX6_behindNumber 78 = .ok (.goto 4, 3) := by decide +kernel
theorem dX6_behindNumber_81 : decode cX6_behindNumber 81 = .ok (.iload_n 1, 1) := by decide +kernel
theorem dX6_behindNumber_82 : decode cX6_behindNumber 82 = .ok (.ireturn, 1) := by decide +kernel
theorem dX6_behindSigns_0 : decode cX6_behindSigns 0 = .ok (.iload_n 1, 1) := by decide +kernel
theorem dX6_behindSigns_1 : decode cX6_behindSigns 1 = .ok (.istore_n 3, 1) := by decide +kernel
theorem dX6_behindSigns_2 : decode cX6_behindSigns 2 = .ok (.iconst 0, 1) := by decide +kernel
theorem dX6_behindSigns_3 : decode cX6_behindSigns 3 = .ok (.istore 4, 2) := by decide +kernel
theorem dX6_behindSigns_5 : decode cX6_behindSigns 5 = .ok (.iload 4, 2) := by decide +kernel
theorem dX6_behindSigns_7 : decode cX6_behindSigns 7 = .ok (.bipush 120, 2) := by decide +kernel
theorem dX6_behindSigns_9 : decode cX6_behindSigns 9 = .ok (.if_icmp .ge 29, 3) := by decide +kernel
theorem dX6_behindSigns_12 : decode cX6_behindSigns 12 = .ok (.aload_n 0, 1) := by decide +kernel
theorem dX6_behindSigns_13 : decode cX6_behindSigns 13 = .ok (.iload_n 3, 1) := by decide +kernel
theorem dX6_behindSigns_14 : decode cX6_behindSigns 14 = .ok (.iload_n 2, 1) := by decide +kernel
theorem dX6_behindSigns_15 : decode cX6_behindSigns 15 = .ok (.invokevirtual 46, 3) := by decide +kernel
theorem dX6_behindSigns_18 : decode cX6_behindSigns 18 = .ok (.istore 5, 2) := by decide +kernel
theorem dX6_behindSigns_20 : decode cX6_behindSigns 20 = .ok (.iload 5, 2) := by decide +kernel
theorem dX6_behindSigns_22 : decode cX6_behindSigns 22 = .ok (.iload_n 3, 1) := by decide +kernel
theorem dX6_behindSigns_23 : decode cX6_behindSigns 23 = .ok (.if_icmp .ne 6, 3) := by decide +kernel
theorem dX6_behindSigns_26 : decode cX6_behindSigns 26 = .ok (.goto 12, 3) := by decide +kernel
theorem dX6_behindSigns_29 : decode cX6_behindSigns 29 = .ok (.iload 5, 2) := by decide +kernel
theorem dX6_behindSigns_31 : decode cX6_behindSigns 31 = .ok (.istore_n 3, 1) := by decide +kernel
theorem dX6_behindSigns_32 : decode cX6_behindSigns 32 = .ok (.iinc 4 1, 3) := by decide +kernel
theorem dX6_behindSigns_35 : decode cX6_behindSigns 35 = .ok (.goto (-30), 3) := by decide +kernel
theorem dX6_behindSigns_38 : decode cX6_behindSigns 38 = .ok (.iload_n 3, 1) := by decide +kernel
theorem dX6_behindSigns_39 : decode cX6_behindSigns 39 = .ok (.ireturn, 1) := by decide +kernel
theorem dX6_behindSign_0 : decode cX6_behindSign 0 = .ok (.aload_n 0, 1) := by decide +kernel
theorem dX6_behindSign_1 : decode cX6_behindSign 1 = .ok (.iload_n 1, 1) := by decide +kernel
theorem dX6_behindSign_2 : decode cX6_behindSign 2 = .ok (.iload_n 2, 1) := by decide +kernel
theorem dX6_behindSign_3 : decode cX6_behindSign 3 = .ok (.invokevirtual 30, 3) := by decide +kernel
theorem dX6_behindSign_6 : decode cX6_behindSign 6 = .ok (.lookupswitch 115 #[(33, 58), (35, 58), (42, 62), (43, 81), (61, 58), (63, 58)], 58) := by decide +kernel
theorem dX6_behindSign_64 : decode cX6_behindSign 64 = .ok (.iload_n 1, 1) := by decide +kernel
theorem dX6_behindSign_65 : decode cX6_behindSign 65 = .ok (.iconst 1, 1) := by decide +kernel
theorem dX6_behindSign_66 : decode cX6_behindSign 66 = .ok (.iadd, 1) := by decide +kernel
theorem dX6_behindSign_67 : decode cX6_behindSign 67 = .ok (.ireturn, 1) := by decide +kernel
theorem dX6_behindSign_68 : decode cX6_behindSign 68 = .ok (.aload_n 0, 1) := by decide +kernel
theorem dX6_behindSign_69 : decode cX6_behindSign 69 = .ok (.iload_n 1, 1) := by decide +kernel
theorem dX6_behindSign_70 : decode cX6_behindSign 70 = .ok (.iconst 1, 1) := by decide +kernel
theorem dX6_behindSign_71 : decode cX6_behindSign 71 = .ok (.iadd, 1) := by decide +kernel
theorem dX6_behindSign_72 : decode cX6_behindSign 72 = .ok (.iload_n 2, 1) := by decide +kernel
theorem dX6_behindSign_73 : decode cX6_behindSign 73 = .ok (.invokevirtual 26, 3) := by decide +kernel
theorem dX6_behindSign_76 : decode cX6_behindSign 76 = .ok (.ifCond .eq 9, 3) := by decide +kernel
theorem dX6_behindSign_79 : decode cX6_behindSign 79 = .ok (.iload_n 1, 1) := by decide +kernel
theorem dX6_behindSign_80 : decode cX6_behindSign 80 = .ok (.iconst 3, 1) := by decide +kernel
theorem dX6_behindSign_81 : decode cX6_behindSign 81 = .ok (.iadd, 1) := by decide +kernel
theorem dX6_behindSign_82 : decode cX6_behindSign 82 = .ok (.goto 4, 3) := by decide +kernel
theorem dX6_behindSign_85 : decode cX6_behindSign 85 = .ok (.iload_n 1, 1) := by decide +kernel
theorem dX6_behindSign_86 : decode cX6_behindSign 86 = .ok (.ireturn, 1) := by decide +kernel
theorem dX6_behindSign_87 : decode cX6_behindSign 87 = .ok (.aload_n 0, 1) := by decide +kernel
theorem dX6_behindSign_88 : decode cX6_behindSign 88 = .ok (.iload_n 1, 1) := by decide +kernel
theorem dX6_behindSign_89 : decode cX6_behindSign 89 = .ok (.iconst 1, 1) := by decide +kernel
theorem dX6_behindSign_90 : decode cX6_behindSign 90 = .ok (.iadd, 1) := by decide +kernel
theorem dX6_behindSign_91 : decode cX6_behindSign 91 = .ok (.iload_n 2, 1) := by decide +kernel
theorem dX6_behindSign_92 : decode cX6_behindSign 92 = .ok (.invokevirtual 49, 3) := by decide +kernel
theorem dX6_behindSign_95 : decode cX6_behindSign 95 = .ok (.ifCond .ne 5, 3) := by decide +kernel
theorem dX6_behindSign_98 : decode cX6_behindSign 98 = .ok (.iload_n 1, 1) := by decide +kernel
theorem dX6_behindSign_99 : decode cX6_behindSign 99 = .ok (.ireturn, 1) := by decide +kernel
theorem dX6_behindSign_100 : decode cX6_behindSign 100 = .ok (.aload_n 0, 1) := by decide +kernel
theorem dX6_behindSign_101 : decode cX6_behindSign 101 = .ok (.iload_n 1, 1) := by decide +kernel
theorem dX6_behindSign_102 : decode cX6_behindSign 102 = .ok (.iconst 2, 1) := by decide +kernel
theorem dX6_behindSign_103 : decode cX6_behindSign 103 = .ok (.iadd, 1) := by decide +kernel
theorem dX6_behindSign_104 : decode cX6_behindSign 104 = .ok (.iload_n 2, 1) := by decide +kernel
theorem dX6_behindSign_105 : decode cX6_behindSign 105 = .ok (.invokevirtual 49, 3) := by decide +kernel
theorem dX6_behindSign_108 : decode cX6_behindSign 108 = .ok (.ifCond .eq 9, 3) := by decide +kernel
theorem dX6_behindSign_111 : decode cX6_behindSign 111 = .ok (.iload_n 1, 1) := by decide +kernel
theorem dX6_behindSign_112 : decode cX6_behindSign 112 = .ok (.iconst 3, 1) := by decide +kernel
theorem dX6_behindSign_113 : decode cX6_behindSign 113 = .ok (.iadd, 1) := by decide +kernel
theorem dX6_behindSign_114 : decode cX6_behindSign 114 = .ok (.goto 6, 3) := by decide +kernel
theorem dX6_behindSign_117 : decode cX6_behindSign 117 = .ok (.iload_n 1, 1) := by decide +kernel
theorem dX6_behindSign_118 : decode cX6_behindSign 118 = .ok (.iconst 2, 1) := by decide +kernel
theorem dX6_behindSign_119 : decode cX6_behindSign 119 = .ok (.iadd, 1) := by decide +kernel
theorem dX6_behindSign_120 : decode cX6_behindSign 120 = .ok (.ireturn, 1) := by decide +kernel
theorem dX6_behindSign_121 : decode cX6_behindSign 121 = .ok (.iload_n 1, 1) := by decide +kernel
theorem dX6_behindSign_122 : decode cX6_behindSign 122 = .ok (.ireturn, 1) := by decide +kernel
theorem dX6_isCellAt_0 : decode cX6_isCellAt 0 = .ok (.aload_n 0, 1) := by decide +kernel
theorem dX6_isCellAt_1 : decode cX6_isCellAt 1 = .ok (.iload_n 1, 1) := by decide +kernel
theorem dX6_isCellAt_2 : decode cX6_isCellAt 2 = .ok (.iload_n 2, 1) := by decide +kernel
theorem dX6_isCellAt_3 : decode cX6_isCellAt 3 = .ok (.invokevirtual 30, 3) := by decide +kernel
theorem dX6_isCellAt_6 : decode cX6_isCellAt 6 = .ok (.istore_n 3, 1) := by decide +kernel
theorem dX6_isCellAt_7 : decode cX6_isCellAt 7 = .ok (.aload_n 0, 1) := by decide +kernel
theorem dX6_isCellAt_8 : decode cX6_isCellAt 8 = .ok (.iload_n 1, 1) := by decide +kernel
theorem dX6_isCellAt_9 : decode cX6_isCellAt 9 = .ok (.iconst 1, 1) := by decide +kernel
theorem dX6_isCellAt_10 : decode cX6_isCellAt 10 = .ok (.iadd, 1) := by decide +kernel
theorem dX6_isCellAt_11 : decode cX6_isCellAt 11 = .ok (.iload_n 2, 1) := by decide +kernel
theorem dX6_isCellAt_12 : decode cX6_isCellAt 12 = .ok (.invokevirtual 30, 3) := by decide +kernel
theorem dX6_isCellAt_15 : decode cX6_isCellAt 15 = .ok (.istore 4, 2) := by decide +kernel
theorem dX6_isCellAt_17 : decode cX6_isCellAt 17 = .ok (.iload_n 3, 1) := by decide +kernel
theorem dX6_isCellAt_18 : decode cX6_isCellAt 18 = .ok (.bipush 97, 2) := by decide +kernel
theorem dX6_isCellAt_20 : decode cX6_isCellAt 20 = .ok (.if_icmp .lt 27, 3) := by decide +kernel
theorem dX6_isCellAt_23 : decode cX6_isCellAt 23 = .ok (.iload_n 3, 1) := by decide +kernel
theorem dX6_isCellAt_24 : decode cX6_isCellAt 24 = .ok (.bipush 100, 2) := by decide +kernel
theorem dX6_isCellAt_26 : decode cX6_isCellAt 26 = .ok (.if_icmp .gt 21, 3) := by decide +kernel
theorem dX6_isCellAt_29 : decode cX6_isCellAt 29 = .ok (.iload 4, 2) := by decide +kernel
theorem dX6_isCellAt_31 : decode cX6_isCellAt 31 = .ok (.bipush 49, 2) := by decide +kernel
theorem dX6_isCellAt_33 : decode cX6_isCellAt 33 = .ok (.if_icmp .lt 14, 3) := by decide +kernel
theorem dX6_isCellAt_36 : decode cX6_isCellAt 36 = .ok (.iload 4, 2) := by decide +kernel
theorem dX6_isCellAt_38 : decode cX6_isCellAt 38 = .ok (.bipush 52, 2) := by decide +kernel
theorem dX6_isCellAt_40 : decode cX6_isCellAt 40 = .ok (.if_icmp .gt 7, 3) := by decide +kernel
theorem dX6_isCellAt_43 : decode cX6_isCellAt 43 = .ok (.iconst 1, 1) := by decide +kernel
theorem dX6_isCellAt_44 : decode cX6_isCellAt 44 = .ok (.goto 4, 3) := by decide +kernel
theorem dX6_isCellAt_47 : decode cX6_isCellAt 47 = .ok (.iconst 0, 1) := by decide +kernel
theorem dX6_isCellAt_48 : decode cX6_isCellAt 48 = .ok (.ireturn, 1) := by decide +kernel
theorem dX6_isDigitAt_0 : decode cX6_isDigitAt 0 = .ok (.aload_n 0, 1) := by decide +kernel
theorem dX6_isDigitAt_1 : decode cX6_isDigitAt 1 = .ok (.iload_n 1, 1) := by decide +kernel
theorem dX6_isDigitAt_2 : decode cX6_isDigitAt 2 = .ok (.iload_n 2, 1) := by decide +kernel
theorem dX6_isDigitAt_3 : decode cX6_isDigitAt 3 = .ok (.invokevirtual 30, 3) := by decide +kernel
theorem dX6_isDigitAt_6 : decode cX6_isDigitAt 6 = .ok (.istore_n 3, 1) := by decide +kernel
theorem dX6_isDigitAt_7 : decode cX6_isDigitAt 7 = .ok (.iload_n 3, 1) := by decide +kernel
theorem dX6_isDigitAt_8 : decode cX6_isDigitAt 8 = .ok (.bipush 48, 2) := by decide +kernel
theorem dX6_isDigitAt_10 : decode cX6_isDigitAt 10 = .ok (.if_icmp .lt 13, 3) := by decide +kernel
theorem dX6_isDigitAt_13 : decode cX6_isDigitAt 13 = .ok (.iload_n 3, 1) := by decide +kernel
theorem dX6_isDigitAt_14 : decode cX6_isDigitAt 14 = .ok (.bipush 57, 2) := by decide +kernel
theorem dX6_isDigitAt_16 : decode cX6_isDigitAt 16 = .ok (.if_icmp .gt 7, 3) := by decide +kernel
theorem dX6_isDigitAt_19 : decode cX6_isDigitAt 19 = .ok (.iconst 1, 1) := by decide +kernel
theorem dX6_isDigitAt_20 : decode cX6_isDigitAt 20 = .ok (.goto 4, 3) := by decide +kernel
theorem dX6_isDigitAt_23 : decode cX6_isDigitAt 23 = .ok (.iconst 0, 1) := by decide +kernel
theorem dX6_isDigitAt_24 : decode cX6_isDigitAt 24 = .ok (.ireturn, 1) := by decide +kernel
theorem dX6_byteAt_0 : decode cX6_byteAt 0 = .ok (.iload_n 1, 1) := by decide +kernel
theorem dX6_byteAt_1 : decode cX6_byteAt 1 = .ok (.ifCond .lt 26, 3) := by decide +kernel
theorem dX6_byteAt_4 : decode cX6_byteAt 4 = .ok (.iload_n 1, 1) := by decide +kernel
theorem dX6_byteAt_5 : decode cX6_byteAt 5 = .ok (.iload_n 2, 1) := by decide +kernel
theorem dX6_byteAt_6 : decode cX6_byteAt 6 = .ok (.if_icmp .ge 21, 3) := by decide +kernel
theorem dX6_byteAt_9 : decode cX6_byteAt 9 = .ok (.iload_n 1, 1) := by decide +kernel
theorem dX6_byteAt_10 : decode cX6_byteAt 10 = .ok (.aload_n 0, 1) := by decide +kernel
theorem dX6_byteAt_11 : decode cX6_byteAt 11 = .ok (.getfield 11, 3) := by decide +kernel
theorem dX6_byteAt_14 : decode cX6_byteAt 14 = .ok (.arraylength, 1) := by decide +kernel
theorem dX6_byteAt_15 : decode cX6_byteAt 15 = .ok (.if_icmp .ge 12, 3) := by decide +kernel
theorem dX6_byteAt_18 : decode cX6_byteAt 18 = .ok (.aload_n 0, 1) := by decide +kernel
theorem dX6_byteAt_19 : decode cX6_byteAt 19 = .ok (.getfield 11, 3) := by decide +kernel
theorem dX6_byteAt_22 : decode cX6_byteAt 22 = .ok (.iload_n 1, 1) := by decide +kernel
theorem dX6_byteAt_23 : decode cX6_byteAt 23 = .ok (.iaload, 1) := by decide +kernel
theorem dX6_byteAt_24 : decode cX6_byteAt 24 = .ok (.goto 4, 3) := by decide +kernel
theorem dX6_byteAt_27 : decode cX6_byteAt 27 = .ok (.iconst (-1), 1) := by decide +kernel
theorem dX6_byteAt_28 : decode cX6_byteAt 28 = .ok (.ireturn, 1) := by decide +kernel
theorem dX7_init_0 : decode cX7_init 0 = .ok (.aload_n 0, 1) := by decide +kernel
theorem dX7_init_1 : decode cX7_init 1 = .ok (.invokespecial 3, 3) := by decide +kernel
theorem dX7_init_4 : decode cX7_init 4 = .ok (.aload_n 0, 1) := by decide +kernel
theorem dX7_init_5 : decode cX7_init 5 = .ok (.sipush 272, 3) := by decide +kernel
theorem dX7_init_8 : decode cX7_init 8 = .ok (.newarray .byte, 2) := by decide +kernel
theorem dX7_init_10 : decode cX7_init 10 = .ok (.putfield 11, 3) := by decide +kernel
theorem dX7_init_13 : decode cX7_init 13 = .ok (.return_, 1) := by decide +kernel
theorem dX7_clear_0 : decode cX7_clear 0 = .ok (.aload_n 0, 1) := by decide +kernel
theorem dX7_clear_1 : decode cX7_clear 1 = .ok (.iconst 0, 1) := by decide +kernel
theorem dX7_clear_2 : decode cX7_clear 2 = .ok (.putfield 15, 3) := by decide +kernel
theorem dX7_clear_5 : decode cX7_clear 5 = .ok (.return_, 1) := by decide +kernel
theorem dX7_addByte_0 : decode cX7_addByte 0 = .ok (.aload_n 0, 1) := by decide +kernel
theorem dX7_addByte_1 : decode cX7_addByte 1 = .ok (.getfield 15, 3) := by decide +kernel
theorem dX7_addByte_4 : decode cX7_addByte 4 = .ok (.aload_n 0, 1) := by decide +kernel
theorem dX7_addByte_5 : decode cX7_addByte 5 = .ok (.getfield 11, 3) := by decide +kernel
theorem dX7_addByte_8 : decode cX7_addByte 8 = .ok (.arraylength, 1) := by decide +kernel
theorem dX7_addByte_9 : decode cX7_addByte 9 = .ok (.if_icmp .ge 24, 3) := by decide +kernel
theorem dX7_addByte_12 : decode cX7_addByte 12 = .ok (.aload_n 0, 1) := by decide +kernel
theorem dX7_addByte_13 : decode cX7_addByte 13 = .ok (.getfield 11, 3) := by decide +kernel
theorem dX7_addByte_16 : decode cX7_addByte 16 = .ok (.aload_n 0, 1) := by decide +kernel
theorem dX7_addByte_17 : decode cX7_addByte 17 = .ok (.getfield 15, 3) := by decide +kernel
theorem dX7_addByte_20 : decode cX7_addByte 20 = .ok (.iload_n 1, 1) := by decide +kernel
theorem dX7_addByte_21 : decode cX7_addByte 21 = .ok (.i2b, 1) := by decide +kernel
theorem dX7_addByte_22 : decode cX7_addByte 22 = .ok (.bastore, 1) := by decide +kernel
theorem dX7_addByte_23 : decode cX7_addByte 23 = .ok (.aload_n 0, 1) := by decide +kernel
theorem dX7_addByte_24 : decode cX7_addByte 24 = .ok (.dup, 1) := by decide +kernel
theorem dX7_addByte_25 : decode cX7_addByte 25 = .ok (.getfield 15, 3) := by decide +kernel
theorem dX7_addByte_28 : decode cX7_addByte 28 = .ok (.iconst 1, 1) := by decide +kernel
theorem dX7_addByte_29 : decode cX7_addByte 29 = .ok (.iadd, 1) := by decide +kernel
theorem dX7_addByte_30 : decode cX7_addByte 30 = .ok (.putfield 15, 3) := by decide +kernel
theorem dX7_addByte_33 : decode cX7_addByte 33 = .ok (.return_, 1) := by decide +kernel
theorem dX7_addNumber_0 : decode cX7_addNumber 0 = .ok (.iload_n 1, 1) := by decide +kernel
theorem dX7_addNumber_1 : decode cX7_addNumber 1 = .ok (.bipush 10, 2) := by decide +kernel
theorem dX7_addNumber_3 : decode cX7_addNumber 3 = .ok (.if_icmp .lt 14, 3) := by decide +kernel
theorem dX7_addNumber_6 : decode cX7_addNumber 6 = .ok (.aload_n 0, 1) := by decide +kernel
theorem dX7_addNumber_7 : decode cX7_addNumber 7 = .ok (.bipush 48, 2) := by decide +kernel
theorem dX7_addNumber_9 : decode cX7_addNumber 9 = .ok (.iload_n 1, 1) := by decide +kernel
theorem dX7_addNumber_10 : decode cX7_addNumber 10 = .ok (.bipush 10, 2) := by decide +kernel
theorem dX7_addNumber_12 : decode cX7_addNumber 12 = .ok (.idiv, 1) := by decide +kernel
theorem dX7_addNumber_13 : decode cX7_addNumber 13 = .ok (.iadd, 1) := by decide +kernel
theorem dX7_addNumber_14 : decode cX7_addNumber 14 = .ok (.invokevirtual 19, 3) := by decide +kernel
theorem dX7_addNumber_17 : decode cX7_addNumber 17 = .ok (.aload_n 0, 1) := by decide +kernel
theorem dX7_addNumber_18 : decode cX7_addNumber 18 = .ok (.bipush 48, 2) := by decide +kernel
theorem dX7_addNumber_20 : decode cX7_addNumber 20 = .ok (.iload_n 1, 1) := by decide +kernel
theorem dX7_addNumber_21 : decode cX7_addNumber 21 = .ok (.bipush 10, 2) := by decide +kernel
theorem dX7_addNumber_23 : decode cX7_addNumber 23 = .ok (.irem, 1) := by decide +kernel
theorem dX7_addNumber_24 : decode cX7_addNumber 24 = .ok (.iadd, 1) := by decide +kernel
theorem dX7_addNumber_25 : decode cX7_addNumber 25 = .ok (.invokevirtual 19, 3) := by decide +kernel
theorem dX7_addNumber_28 : decode cX7_addNumber 28 = .ok (.return_, 1) := by decide +kernel
theorem dX7_byteAt_0 : decode cX7_byteAt 0 = .ok (.iload_n 1, 1) := by decide +kernel
theorem dX7_byteAt_1 : decode cX7_byteAt 1 = .ok (.ifCond .lt 29, 3) := by decide +kernel
theorem dX7_byteAt_4 : decode cX7_byteAt 4 = .ok (.iload_n 1, 1) := by decide +kernel
theorem dX7_byteAt_5 : decode cX7_byteAt 5 = .ok (.aload_n 0, 1) := by decide +kernel
theorem dX7_byteAt_6 : decode cX7_byteAt 6 = .ok (.getfield 15, 3) := by decide +kernel
theorem dX7_byteAt_9 : decode cX7_byteAt 9 = .ok (.if_icmp .ge 21, 3) := by decide +kernel
theorem dX7_byteAt_12 : decode cX7_byteAt 12 = .ok (.iload_n 1, 1) := by decide +kernel
theorem dX7_byteAt_13 : decode cX7_byteAt 13 = .ok (.aload_n 0, 1) := by decide +kernel
theorem dX7_byteAt_14 : decode cX7_byteAt 14 = .ok (.getfield 11, 3) := by decide +kernel
theorem dX7_byteAt_17 : decode cX7_byteAt 17 = .ok (.arraylength, 1) := by decide +kernel
theorem dX7_byteAt_18 : decode cX7_byteAt 18 = .ok (.if_icmp .ge 12, 3) := by decide +kernel
theorem dX7_byteAt_21 : decode cX7_byteAt 21 = .ok (.aload_n 0, 1) := by decide +kernel
theorem dX7_byteAt_22 : decode cX7_byteAt 22 = .ok (.getfield 11, 3) := by decide +kernel
theorem dX7_byteAt_25 : decode cX7_byteAt 25 = .ok (.iload_n 1, 1) := by decide +kernel
theorem dX7_byteAt_26 : decode cX7_byteAt 26 = .ok (.baload, 1) := by decide +kernel
theorem dX7_byteAt_27 : decode cX7_byteAt 27 = .ok (.goto 4, 3) := by decide +kernel
theorem dX7_byteAt_30 : decode cX7_byteAt 30 = .ok (.iconst (-1), 1) := by decide +kernel
theorem dX7_byteAt_31 : decode cX7_byteAt 31 = .ok (.ireturn, 1) := by decide +kernel
theorem dX8_init_0 : decode cX8_init 0 = .ok (.aload_n 0, 1) := by decide +kernel
theorem dX8_init_1 : decode cX8_init 1 = .ok (.invokespecial 1, 3) := by decide +kernel
theorem dX8_init_4 : decode cX8_init 4 = .ok (.aload_n 0, 1) := by decide +kernel
theorem dX8_init_5 : decode cX8_init 5 = .ok (.new 7, 3) := by decide +kernel
theorem dX8_init_8 : decode cX8_init 8 = .ok (.dup, 1) := by decide +kernel
theorem dX8_init_9 : decode cX8_init 9 = .ok (.invokespecial 9, 3) := by decide +kernel
theorem dX8_init_12 : decode cX8_init 12 = .ok (.putfield 10, 3) := by decide +kernel
theorem dX8_init_15 : decode cX8_init 15 = .ok (.aload_n 0, 1) := by decide +kernel
theorem dX8_init_16 : decode cX8_init 16 = .ok (.new 16, 3) := by decide +kernel
theorem dX8_init_19 : decode cX8_init 19 = .ok (.dup, 1) := by decide +kernel
theorem dX8_init_20 : decode cX8_init 20 = .ok (.aload_n 0, 1) := by decide +kernel
theorem dX8_init_21 : decode cX8_init 21 = .ok (.getfield 10, 3) := by decide +kernel
theorem dX8_init_24 : decode cX8_init 24 = .ok (.invokespecial 18, 3) := by decide +kernel
theorem dX8_init_27 : decode cX8_init 27 = .ok (.putfield 21, 3) := by decide +kernel
theorem dX8_init_30 : decode cX8_init 30 = .ok (.aload_n 0, 1) := by decide +kernel
theorem dX8_init_31 : decode cX8_init 31 = .ok (.new 25, 3) := by decide +kernel
theorem dX8_init_34 : decode cX8_init 34 = .ok (.dup, 1) := by decide +kernel
theorem dX8_init_35 : decode cX8_init 35 = .ok (.aload_n 0, 1) := by decide +kernel
theorem dX8_init_36 : decode cX8_init 36 = .ok (.getfield 10, 3) := by decide +kernel
theorem dX8_init_39 : decode cX8_init 39 = .ok (.invokespecial 27, 3) := by decide +kernel
theorem dX8_init_42 : decode cX8_init 42 = .ok (.putfield 28, 3) := by decide +kernel
theorem dX8_init_45 : decode cX8_init 45 = .ok (.aload_n 0, 1) := by decide +kernel
theorem dX8_init_46 : decode cX8_init 46 = .ok (.new 32, 3) := by decide +kernel
theorem dX8_init_49 : decode cX8_init 49 = .ok (.dup, 1) := by decide +kernel
theorem dX8_init_50 : decode cX8_init 50 = .ok (.aload_n 0, 1) := by decide +kernel
theorem dX8_init_51 : decode cX8_init 51 = .ok (.getfield 10, 3) := by decide +kernel
theorem dX8_init_54 : decode cX8_init 54 = .ok (.aload_n 0, 1) := by decide +kernel
theorem dX8_init_55 : decode cX8_init 55 = .ok (.getfield 21, 3) := by decide +kernel
theorem dX8_init_58 : decode cX8_init 58 = .ok (.aload_n 0, 1) := by decide +kernel
theorem dX8_init_59 : decode cX8_init 59 = .ok (.getfield 28, 3) := by decide +kernel
theorem dX8_init_62 : decode cX8_init 62 = .ok (.invokespecial 34, 3) := by decide +kernel
theorem dX8_init_65 : decode cX8_init 65 = .ok (.putfield 37, 3) := by decide +kernel
theorem dX8_init_68 : decode cX8_init 68 = .ok (.aload_n 0, 1) := by decide +kernel
theorem dX8_init_69 : decode cX8_init 69 = .ok (.new 41, 3) := by decide +kernel
theorem dX8_init_72 : decode cX8_init 72 = .ok (.dup, 1) := by decide +kernel
theorem dX8_init_73 : decode cX8_init 73 = .ok (.aload_n 0, 1) := by decide +kernel
theorem dX8_init_74 : decode cX8_init 74 = .ok (.getfield 10, 3) := by decide +kernel
theorem dX8_init_77 : decode cX8_init 77 = .ok (.aload_n 0, 1) := by decide +kernel
theorem dX8_init_78 : decode cX8_init 78 = .ok (.getfield 21, 3) := by decide +kernel
theorem dX8_init_81 : decode cX8_init 81 = .ok (.aload_n 0, 1) := by decide +kernel
theorem dX8_init_82 : decode cX8_init 82 = .ok (.getfield 37, 3) := by decide +kernel
theorem dX8_init_85 : decode cX8_init 85 = .ok (.invokespecial 43, 3) := by decide +kernel
theorem dX8_init_88 : decode cX8_init 88 = .ok (.putfield 46, 3) := by decide +kernel
theorem dX8_init_91 : decode cX8_init 91 = .ok (.aload_n 0, 1) := by decide +kernel
theorem dX8_init_92 : decode cX8_init 92 = .ok (.new 50, 3) := by decide +kernel
theorem dX8_init_95 : decode cX8_init 95 = .ok (.dup, 1) := by decide +kernel
theorem dX8_init_96 : decode cX8_init 96 = .ok (.invokespecial 52, 3) := by decide +kernel
