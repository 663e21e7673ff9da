theorem dX9_init_108 : decode cX9_init 108 = .ok (.newarray .int, 2) := by decide +kernel
theorem dX9_init_110 : decode cX9_init 110 = .ok (.putfield 55, 3) := by decide +kernel
theorem dX9_init_113 : decode cX9_init 113 = .ok (.aload_n 0, 1) := by decide +kernel
theorem dX9_init_114 : decode cX9_init 114 = .ok (.bipush 12, 2) := by decide +kernel
theorem dX9_init_116 : decode cX9_init 116 = .ok (.newarray .int, 2) := by decide +kernel
theorem dX9_init_118 : decode cX9_init 118 = .ok (.putfield 58, 3) := by decide +kernel
theorem dX9_init_121 : decode cX9_init 121 = .ok (.aload_n 0, 1) := by decide +kernel
theorem dX9_init_122 : decode cX9_init 122 = .ok (.bipush 120, 2) := by decide +kernel
theorem dX9_init_124 : decode cX9_init 124 = .ok (.newarray .byte, 2) := by decide +kernel
theorem dX9_init_126 : decode cX9_init 126 = .ok (.putfield 61, 3) := by decide +kernel
theorem dX9_init_129 : decode cX9_init 129 = .ok (.iconst 0, 1) := by decide +kernel
theorem dX9_init_130 : decode cX9_init 130 = .ok (.istore_n 1, 1) := by decide +kernel
theorem dX9_init_131 : decode cX9_init 131 = .ok (.iload_n 1, 1) := by decide +kernel
theorem dX9_init_132 : decode cX9_init 132 = .ok (.bipush 6, 2) := by decide +kernel
theorem dX9_init_134 : decode cX9_init 134 = .ok (.if_icmp .ge 16, 3) := by decide +kernel
theorem dX9_init_137 : decode cX9_init 137 = .ok (.aload_n 0, 1) := by decide +kernel
theorem dX9_init_138 : decode cX9_init 138 = .ok (.getfield 26, 3) := by decide +kernel
theorem dX9_init_141 : decode cX9_init 141 = .ok (.iload_n 1, 1) := by decide +kernel
theorem dX9_init_142 : decode cX9_init 142 = .ok (.iconst 1, 1) := by decide +kernel
theorem dX9_init_143 : decode cX9_init 143 = .ok (.iastore, 1) := by decide +kernel
theorem dX9_init_144 : decode cX9_init 144 = .ok (.iinc 1 1, 3) := by decide +kernel
theorem dX9_init_147 : decode cX9_init 147 = .ok (.goto (-16), 3) := by decide +kernel
theorem dX9_init_150 : decode cX9_init 150 = .ok (.aload_n 0, 1) := by decide +kernel
theorem dX9_init_151 : decode cX9_init 151 = .ok (.invokevirtual 64, 3) := by decide +kernel
theorem dX9_init_154 : decode cX9_init 154 = .ok (.return_, 1) := by decide +kernel
theorem dX9_in_0 : decode cX9_in 0 = .ok (.iload_n 0, 1) := by decide +kernel
theorem dX9_in_1 : decode cX9_in 1 = .ok (.iload_n 1, 1) := by decide +kernel
theorem dX9_in_2 : decode cX9_in 2 = .ok (.if_icmp .lt 12, 3) := by decide +kernel
theorem dX9_in_5 : decode cX9_in 5 = .ok (.iload_n 0, 1) := by decide +kernel
theorem dX9_in_6 : decode cX9_in 6 = .ok (.iload_n 2, 1) := by decide +kernel
theorem dX9_in_7 : decode cX9_in 7 = .ok (.if_icmp .gt 7, 3) := by decide +kernel
theorem dX9_in_10 : decode cX9_in 10 = .ok (.iconst 1, 1) := by decide +kernel
theorem dX9_in_11 : decode cX9_in 11 = .ok (.goto 4, 3) := by decide +kernel
theorem dX9_in_14 : decode cX9_in 14 = .ok (.iconst 0, 1) := by decide +kernel
theorem dX9_in_15 : decode cX9_in 15 = .ok (.ireturn, 1) := by decide +kernel
theorem dX9_game_0 : decode cX9_game 0 = .ok (.iload_n 1, 1) := by decide +kernel
theorem dX9_game_1 : decode cX9_game 1 = .ok (.iconst 2, 1) := by decide +kernel
theorem dX9_game_2 : decode cX9_game 2 = .ok (.iconst 4, 1) := by decide +kernel
theorem dX9_game_3 : decode cX9_game 3 = .ok (.invokestatic 67, 3) := by decide +kernel
theorem dX9_game_6 : decode cX9_game 6 = .ok (.ifCond .eq 31, 3) := by decide +kernel
theorem dX9_game_9 : decode cX9_game 9 = .ok (.iload_n 2, 1) := by decide +kernel
theorem dX9_game_10 : decode cX9_game 10 = .ok (.iconst 2, 1) := by decide +kernel
theorem dX9_game_11 : decode cX9_game 11 = .ok (.iconst 4, 1) := by decide +kernel
theorem dX9_game_12 : decode cX9_game 12 = .ok (.invokestatic 67, 3) := by decide +kernel
theorem dX9_game_15 : decode cX9_game 15 = .ok (.ifCond .eq 22, 3) := by decide +kernel
theorem dX9_game_18 : decode cX9_game 18 = .ok (.iload_n 3, 1) := by decide +kernel
theorem dX9_game_19 : decode cX9_game 19 = .ok (.iconst 2, 1) := by decide +kernel
theorem dX9_game_20 : decode cX9_game 20 = .ok (.iconst 4, 1) := by decide +kernel
theorem dX9_game_21 : decode cX9_game 21 = .ok (.invokestatic 67, 3) := by decide +kernel
theorem dX9_game_24 : decode cX9_game 24 = .ok (.ifCond .eq 13, 3) := by decide +kernel
theorem dX9_game_27 : decode cX9_game 27 = .ok (.iload_n 3, 1) := by decide +kernel
theorem dX9_game_28 : decode cX9_game 28 = .ok (.iload_n 1, 1) := by decide +kernel
theorem dX9_game_29 : decode cX9_game 29 = .ok (.if_icmp .le 10, 3) := by decide +kernel
theorem dX9_game_32 : decode cX9_game 32 = .ok (.iload_n 3, 1) := by decide +kernel
theorem dX9_game_33 : decode cX9_game 33 = .ok (.iload_n 2, 1) := by decide +kernel
theorem dX9_game_34 : decode cX9_game 34 = .ok (.if_icmp .le 5, 3) := by decide +kernel
theorem dX9_game_37 : decode cX9_game 37 = .ok (.iconst 0, 1) := by decide +kernel
theorem dX9_game_38 : decode cX9_game 38 = .ok (.ireturn, 1) := by decide +kernel
theorem dX9_game_39 : decode cX9_game 39 = .ok (.aload_n 0, 1) := by decide +kernel
theorem dX9_game_40 : decode cX9_game 40 = .ok (.iload_n 1, 1) := by decide +kernel
theorem dX9_game_41 : decode cX9_game 41 = .ok (.putfield 7, 3) := by decide +kernel
theorem dX9_game_44 : decode cX9_game 44 = .ok (.aload_n 0, 1) := by decide +kernel
theorem dX9_game_45 : decode cX9_game 45 = .ok (.iload_n 2, 1) := by decide +kernel
theorem dX9_game_46 : decode cX9_game 46 = .ok (.putfield 13, 3) := by decide +kernel
theorem dX9_game_49 : decode cX9_game 49 = .ok (.aload_n 0, 1) := by decide +kernel
theorem dX9_game_50 : decode cX9_game 50 = .ok (.iload_n 3, 1) := by decide +kernel
theorem dX9_game_51 : decode cX9_game 51 = .ok (.putfield 16, 3) := by decide +kernel
theorem dX9_game_54 : decode cX9_game 54 = .ok (.aload_n 0, 1) := by decide +kernel
theorem dX9_game_55 : decode cX9_game 55 = .ok (.iload 4, 2) := by decide +kernel
theorem dX9_game_57 : decode cX9_game 57 = .ok (.putfield 71, 3) := by decide +kernel
theorem dX9_game_60 : decode cX9_game 60 = .ok (.aload_n 0, 1) := by decide +kernel
theorem dX9_game_61 : decode cX9_game 61 = .ok (.iload 5, 2) := by decide +kernel
theorem dX9_game_63 : decode cX9_game 63 = .ok (.putfield 75, 3) := by decide +kernel
theorem dX9_game_66 : decode cX9_game 66 = .ok (.aload_n 0, 1) := by decide +kernel
theorem dX9_game_67 : decode cX9_game 67 = .ok (.iconst 0, 1) := by decide +kernel
theorem dX9_game_68 : decode cX9_game 68 = .ok (.putfield 78, 3) := by decide +kernel
theorem dX9_game_71 : decode cX9_game 71 = .ok (.aload_n 0, 1) := by decide +kernel
theorem dX9_game_72 : decode cX9_game 72 = .ok (.invokevirtual 64, 3) := by decide +kernel
theorem dX9_game_75 : decode cX9_game 75 = .ok (.iconst 1, 1) := by decide +kernel
theorem dX9_game_76 : decode cX9_game 76 = .ok (.ireturn, 1) := by decide +kernel
theorem dX9_starts_0 : decode cX9_starts 0 = .ok (.iconst 0, 1) := by decide +kernel
theorem dX9_starts_1 : decode cX9_starts 1 = .ok (.istore_n 1, 1) := by decide +kernel
theorem dX9_starts_2 : decode cX9_starts 2 = .ok (.iload_n 1, 1) := by decide +kernel
theorem dX9_starts_3 : decode cX9_starts 3 = .ok (.bipush 16, 2) := by decide +kernel
theorem dX9_starts_5 : decode cX9_starts 5 = .ok (.if_icmp .ge 16, 3) := by decide +kernel
theorem dX9_starts_8 : decode cX9_starts 8 = .ok (.aload_n 0, 1) := by decide +kernel
theorem dX9_starts_9 : decode cX9_starts 9 = .ok (.getfield 29, 3) := by decide +kernel
theorem dX9_starts_12 : decode cX9_starts 12 = .ok (.iload_n 1, 1) := by decide +kernel
theorem dX9_starts_13 : decode cX9_starts 13 = .ok (.iconst 2, 1) := by decide +kernel
theorem dX9_starts_14 : decode cX9_starts 14 = .ok (.iastore, 1) := by decide +kernel
theorem dX9_starts_15 : decode cX9_starts 15 = .ok (.iinc 1 1, 3) := by decide +kernel
theorem dX9_starts_18 : decode cX9_starts 18 = .ok (.goto (-16), 3) := by decide +kernel
theorem dX9_starts_21 : decode cX9_starts 21 = .ok (.aload_n 0, 1) := by decide +kernel
theorem dX9_starts_22 : decode cX9_starts 22 = .ok (.iconst 0, 1) := by decide +kernel
theorem dX9_starts_23 : decode cX9_starts 23 = .ok (.putfield 81, 3) := by decide +kernel
theorem dX9_starts_26 : decode cX9_starts 26 = .ok (.aload_n 0, 1) := by decide +kernel
theorem dX9_starts_27 : decode cX9_starts 27 = .ok (.iconst 3, 1) := by decide +kernel
theorem dX9_starts_28 : decode cX9_starts 28 = .ok (.putfield 84, 3) := by decide +kernel
theorem dX9_starts_31 : decode cX9_starts 31 = .ok (.return_, 1) := by decide +kernel
theorem dX9_isMove_0 : decode cX9_isMove 0 = .ok (.iload_n 1, 1) := by decide +kernel
theorem dX9_isMove_1 : decode cX9_isMove 1 = .ok (.ifCond .lt 26, 3) := by decide +kernel
theorem dX9_isMove_4 : decode cX9_isMove 4 = .ok (.iload_n 1, 1) := by decide +kernel
theorem dX9_isMove_5 : decode cX9_isMove 5 = .ok (.aload_n 0, 1) := by decide +kernel
theorem dX9_isMove_6 : decode cX9_isMove 6 = .ok (.getfield 7, 3) := by decide +kernel
theorem dX9_isMove_9 : decode cX9_isMove 9 = .ok (.aload_n 0, 1) := by decide +kernel
theorem dX9_isMove_10 : decode cX9_isMove 10 = .ok (.getfield 13, 3) := by decide +kernel
theorem dX9_isMove_13 : decode cX9_isMove 13 = .ok (.imul, 1) := by decide +kernel
theorem dX9_isMove_14 : decode cX9_isMove 14 = .ok (.if_icmp .ge 13, 3) := by decide +kernel
theorem dX9_isMove_17 : decode cX9_isMove 17 = .ok (.aload_n 0, 1) := by decide +kernel
theorem dX9_isMove_18 : decode cX9_isMove 18 = .ok (.getfield 29, 3) := by decide +kernel
theorem dX9_isMove_21 : decode cX9_isMove 21 = .ok (.iload_n 1, 1) := by decide +kernel
theorem dX9_isMove_22 : decode cX9_isMove 22 = .ok (.iaload, 1) := by decide +kernel
theorem dX9_isMove_23 : decode cX9_isMove 23 = .ok (.iconst 2, 1) := by decide +kernel
theorem dX9_isMove_24 : decode cX9_isMove 24 = .ok (.if_icmp .eq 5, 3) := by decide +kernel
theorem dX9_isMove_27 : decode cX9_isMove 27 = .ok (.iconst 0, 1) := by decide +kernel
theorem dX9_isMove_28 : decode cX9_isMove 28 = .ok (.ireturn, 1) := by decide +kernel
theorem dX9_isMove_29 : decode cX9_isMove 29 = .ok (.aload_n 0, 1) := by decide +kernel
theorem dX9_isMove_30 : decode cX9_isMove 30 = .ok (.getfield 71, 3) := by decide +kernel
theorem dX9_isMove_33 : decode cX9_isMove 33 = .ok (.ifCond .eq 26, 3) := by decide +kernel
theorem dX9_isMove_36 : decode cX9_isMove 36 = .ok (.iload_n 1, 1) := by decide +kernel
theorem dX9_isMove_37 : decode cX9_isMove 37 = .ok (.aload_n 0, 1) := by decide +kernel
theorem dX9_isMove_38 : decode cX9_isMove 38 = .ok (.getfield 7, 3) := by decide +kernel
theorem dX9_isMove_41 : decode cX9_isMove 41 = .ok (.if_icmp .lt 18, 3) := by decide +kernel
theorem dX9_isMove_44 : decode cX9_isMove 44 = .ok (.aload_n 0, 1) := by decide +kernel
theorem dX9_isMove_45 : decode cX9_isMove 45 = .ok (.getfield 29, 3) := by decide +kernel
theorem dX9_isMove_48 : decode cX9_isMove 48 = .ok (.iload_n 1, 1) := by decide +kernel
theorem dX9_isMove_49 : decode cX9_isMove 49 = .ok (.aload_n 0, 1) := by decide +kernel
theorem dX9_isMove_50 : decode cX9_isMove 50 = .ok (.getfield 7, 3) := by decide +kernel
theorem dX9_isMove_53 : decode cX9_isMove 53 = .ok (.isub, 1) := by decide +kernel
theorem dX9_isMove_54 : decode cX9_isMove 54 = .ok (.iaload, 1) := by decide +kernel
theorem dX9_isMove_55 : decode cX9_isMove 55 = .ok (.iconst 2, 1) := by decide +kernel
theorem dX9_isMove_56 : decode cX9_isMove 56 = .ok (.if_icmp .eq 7, 3) := by decide +kernel
theorem dX9_isMove_59 : decode cX9_isMove 59 = .ok (.iconst 1, 1) := by decide +kernel
theorem dX9_isMove_60 : decode cX9_isMove 60 = .ok (.goto 4, 3) := by decide +kernel
theorem dX9_isMove_63 : decode cX9_isMove 63 = .ok (.iconst 0, 1) := by decide +kernel
theorem dX9_isMove_64 : decode cX9_isMove 64 = .ok (.ireturn, 1) := by decide +kernel
theorem dX9_stonesFrom_0 : decode cX9_stonesFrom 0 = .ok (.iconst 0, 1) := by decide +kernel
theorem dX9_stonesFrom_1 : decode cX9_stonesFrom 1 = .ok (.istore 5, 2) := by decide +kernel
theorem dX9_stonesFrom_3 : decode cX9_stonesFrom 3 = .ok (.iload_n 1, 1) := by decide +kernel
theorem dX9_stonesFrom_4 : decode cX9_stonesFrom 4 = .ok (.aload_n 0, 1) := by decide +kernel
theorem dX9_stonesFrom_5 : decode cX9_stonesFrom 5 = .ok (.getfield 7, 3) := by decide +kernel
theorem dX9_stonesFrom_8 : decode cX9_stonesFrom 8 = .ok (.irem, 1) := by decide +kernel
theorem dX9_stonesFrom_9 : decode cX9_stonesFrom 9 = .ok (.iload_n 2, 1) := by decide +kernel
theorem dX9_stonesFrom_10 : decode cX9_stonesFrom 10 = .ok (.iadd, 1) := by decide +kernel
theorem dX9_stonesFrom_11 : decode cX9_stonesFrom 11 = .ok (.istore 6, 2) := by decide +kernel
theorem dX9_stonesFrom_13 : decode cX9_stonesFrom 13 = .ok (.iload_n 1, 1) := by decide +kernel
theorem dX9_stonesFrom_14 : decode cX9_stonesFrom 14 = .ok (.aload_n 0, 1) := by decide +kernel
theorem dX9_stonesFrom_15 : decode cX9_stonesFrom 15 = .ok (.getfield 7, 3) := by decide +kernel
theorem dX9_stonesFrom_18 : decode cX9_stonesFrom 18 = .ok (.idiv, 1) := by decide +kernel
theorem dX9_stonesFrom_19 : decode cX9_stonesFrom 19 = .ok (.iload_n 3, 1) := by decide +kernel
theorem dX9_stonesFrom_20 : decode cX9_stonesFrom 20 = .ok (.iadd, 1) := by decide +kernel
theorem dX9_stonesFrom_21 : decode cX9_stonesFrom 21 = .ok (.istore 7, 2) := by decide +kernel
theorem dX9_stonesFrom_23 : decode cX9_stonesFrom 23 = .ok (.iload 6, 2) := by decide +kernel
theorem dX9_stonesFrom_25 : decode cX9_stonesFrom 25 = .ok (.iconst 0, 1) := by decide +kernel
theorem dX9_stonesFrom_26 : decode cX9_stonesFrom 26 = .ok (.aload_n 0, 1) := by decide +kernel
theorem dX9_stonesFrom_27 : decode cX9_stonesFrom 27 = .ok (.getfield 7, 3) := by decide +kernel
theorem dX9_stonesFrom_30 : decode cX9_stonesFrom 30 = .ok (.iconst 1, 1) := by decide +kernel
theorem dX9_stonesFrom_31 : decode cX9_stonesFrom 31 = .ok (.isub, 1) := by decide +kernel
theorem dX9_stonesFrom_32 : decode cX9_stonesFrom 32 = .ok (.invokestatic 67, 3) := by decide +kernel
theorem dX9_stonesFrom_35 : decode cX9_stonesFrom 35 = .ok (.ifCond .eq 59, 3) := by decide +kernel
theorem dX9_stonesFrom_38 : decode cX9_stonesFrom 38 = .ok (.iload 7, 2) := by decide +kernel
theorem dX9_stonesFrom_40 : decode cX9_stonesFrom 40 = .ok (.iconst 0, 1) := by decide +kernel
theorem dX9_stonesFrom_41 : decode cX9_stonesFrom 41 = .ok (.aload_n 0, 1) := by decide +kernel
theorem dX9_stonesFrom_42 : decode cX9_stonesFrom 42 = .ok (.getfield 13, 3) := by decide +kernel
theorem dX9_stonesFrom_45 : decode cX9_stonesFrom 45 = .ok (.iconst 1, 1) := by decide +kernel
theorem dX9_stonesFrom_46 : decode cX9_stonesFrom 46 = .ok (.isub, 1) := by decide +kernel
theorem dX9_stonesFrom_47 : decode cX9_stonesFrom 47 = .ok (.invokestatic 67, 3) := by decide +kernel
theorem dX9_stonesFrom_50 : decode cX9_stonesFrom 50 = .ok (.ifCond .eq 44, 3) := by decide +kernel
theorem dX9_stonesFrom_53 : decode cX9_stonesFrom 53 = .ok (.aload_n 0, 1) := by decide +kernel
theorem dX9_stonesFrom_54 : decode cX9_stonesFrom 54 = .ok (.getfield 29, 3) := by decide +kernel
theorem dX9_stonesFrom_57 : decode cX9_stonesFrom 57 = .ok (.aload_n 0, 1) := by decide +kernel
theorem dX9_stonesFrom_58 : decode cX9_stonesFrom 58 = .ok (.getfield 7, 3) := by decide +kernel
theorem dX9_stonesFrom_61 : decode cX9_stonesFrom 61 = .ok (.iload 7, 2) := by decide +kernel
theorem dX9_stonesFrom_63 : decode cX9_stonesFrom 63 = .ok (.imul, 1) := by decide +kernel
theorem dX9_stonesFrom_64 : decode cX9_stonesFrom 64 = .ok (.iload 6, 2) := by decide +kernel
theorem dX9_stonesFrom_66 : decode cX9_stonesFrom 66 = .ok (.iadd, 1) := by decide +kernel
theorem dX9_stonesFrom_67 : decode cX9_stonesFrom 67 = .ok (.iaload, 1) := by decide +kernel
theorem dX9_stonesFrom_68 : decode cX9_stonesFrom 68 = .ok (.iload 4, 2) := by decide +kernel
theorem dX9_stonesFrom_70 : decode cX9_stonesFrom 70 = .ok (.if_icmp .ne 24, 3) := by decide +kernel
theorem dX9_stonesFrom_73 : decode cX9_stonesFrom 73 = .ok (.iload 5, 2) := by decide +kernel
theorem dX9_stonesFrom_75 : decode cX9_stonesFrom 75 = .ok (.iconst 1, 1) := by decide +kernel
theorem dX9_stonesFrom_76 : decode cX9_stonesFrom 76 = .ok (.iadd, 1) := by decide +kernel
theorem dX9_stonesFrom_77 : decode cX9_stonesFrom 77 = .ok (.istore 5, 2) := by decide +kernel
theorem dX9_stonesFrom_79 : decode cX9_stonesFrom 79 = .ok (.iload 6, 2) := by decide +kernel
theorem dX9_stonesFrom_81 : decode cX9_stonesFrom 81 = .ok (.iload_n 2, 1) := by decide +kernel
theorem dX9_stonesFrom_82 : decode cX9_stonesFrom 82 = .ok (.iadd, 1) := by decide +kernel
theorem dX9_stonesFrom_83 : decode cX9_stonesFrom 83 = .ok (.istore 6, 2) := by decide +kernel
theorem dX9_stonesFrom_85 : decode cX9_stonesFrom 85 = .ok (.iload 7, 2) := by decide +kernel
theorem dX9_stonesFrom_87 : decode cX9_stonesFrom 87 = .ok (.iload_n 3, 1) := by decide +kernel
theorem dX9_stonesFrom_88 : decode cX9_stonesFrom 88 = .ok (.iadd, 1) := by decide +kernel
theorem dX9_stonesFrom_89 : decode cX9_stonesFrom 89 = .ok (.istore 7, 2) := by decide +kernel
theorem dX9_stonesFrom_91 : decode cX9_stonesFrom 91 = .ok (.goto (-68), 3) := by decide +kernel
theorem dX9_stonesFrom_94 : decode cX9_stonesFrom 94 = .ok (.iload 5, 2) := by decide +kernel
theorem dX9_stonesFrom_96 : decode cX9_stonesFrom 96 = .ok (.ireturn, 1) := by decide +kernel
theorem dX9_isLine_0 : decode cX9_isLine 0 = .ok (.iconst 1, 1) := by decide +kernel
theorem dX9_isLine_1 : decode cX9_isLine 1 = .ok (.aload_n 0, 1) := by decide +kernel
theorem dX9_isLine_2 : decode cX9_isLine 2 = .ok (.iload_n 1, 1) := by decide +kernel
theorem dX9_isLine_3 : decode cX9_isLine 3 = .ok (.iload_n 2, 1) := by decide +kernel
theorem dX9_isLine_4 : decode cX9_isLine 4 = .ok (.iload_n 3, 1) := by decide +kernel
theorem dX9_isLine_5 : decode cX9_isLine 5 = .ok (.iload 4, 2) := by decide +kernel
theorem dX9_isLine_7 : decode cX9_isLine 7 = .ok (.invokevirtual 87, 3) := by decide +kernel
theorem dX9_isLine_10 : decode cX9_isLine 10 = .ok (.iadd, 1) := by decide +kernel
theorem dX9_isLine_11 : decode cX9_isLine 11 = .ok (.aload_n 0, 1) := by decide +kernel
theorem dX9_isLine_12 : decode cX9_isLine 12 = .ok (.iload_n 1, 1) := by decide +kernel
theorem dX9_isLine_13 : decode cX9_isLine 13 = .ok (.iload_n 2, 1) := by decide +kernel
theorem dX9_isLine_14 : decode cX9_isLine 14 = .ok (.ineg, 1) := by decide +kernel
theorem dX9_isLine_15 : decode cX9_isLine 15 = .ok (.iload_n 3, 1) := by decide +kernel
theorem dX9_isLine_16 : decode cX9_isLine 16 = .ok (.ineg, 1) := by decide +kernel
theorem dX9_isLine_17 : decode cX9_isLine 17 = .ok (.iload 4, 2) := by decide +kernel
theorem dX9_isLine_19 : decode cX9_isLine 19 = .ok (.invokevirtual 87, 3) := by decide +kernel
theorem dX9_isLine_22 : decode cX9_isLine 22 = .ok (.iadd, 1) := by decide +kernel
theorem dX9_isLine_23 : decode cX9_isLine 23 = .ok (.aload_n 0, 1) := by decide +kernel
theorem dX9_isLine_24 : decode cX9_isLine 24 = .ok (.getfield 16, 3) := by decide +kernel
theorem dX9_isLine_27 : decode cX9_isLine 27 = .ok (.if_icmp .lt 7, 3) := by decide +kernel
theorem dX9_isLine_30 : decode cX9_isLine 30 = .ok (.iconst 1, 1) := by decide +kernel
theorem dX9_isLine_31 : decode cX9_isLine 31 = .ok (.goto 4, 3) := by decide +kernel
theorem dX9_isLine_34 : decode cX9_isLine 34 = .ok (.iconst 0, 1) := by decide +kernel
theorem dX9_isLine_35 : decode cX9_isLine 35 = .ok (.ireturn, 1) := by decide +kernel
theorem dX9_makesRow_0 : decode cX9_makesRow 0 = .ok (.aload_n 0, 1) := by decide +kernel
theorem dX9_makesRow_1 : decode cX9_makesRow 1 = .ok (.iload_n 1, 1) := by decide +kernel
theorem dX9_makesRow_2 : decode cX9_makesRow 2 = .ok (.iconst 1, 1) := by decide +kernel
theorem dX9_makesRow_3 : decode cX9_makesRow 3 = .ok (.iconst 0, 1) := by decide +kernel
theorem dX9_makesRow_4 : decode cX9_makesRow 4 = .ok (.iload_n 2, 1) := by decide +kernel
theorem dX9_makesRow_5 : decode cX9_makesRow 5 = .ok (.invokevirtual 91, 3) := by decide +kernel
theorem dX9_makesRow_8 : decode cX9_makesRow 8 = .ok (.ifCond .ne 36, 3) := by decide +kernel
theorem dX9_makesRow_11 : decode cX9_makesRow 11 = .ok (.aload_n 0, 1) := by decide +kernel
theorem dX9_makesRow_12 : decode cX9_makesRow 12 = .ok (.iload_n 1, 1) := by decide +kernel
theorem dX9_makesRow_13 : decode cX9_makesRow 13 = .ok (.iconst 0, 1) := by decide +kernel
theorem dX9_makesRow_14 : decode cX9_makesRow 14 = .ok (.iconst 1, 1) := by decide +kernel
theorem dX9_makesRow_15 : decode cX9_makesRow 15 = .ok (.iload_n 2, 1) := by decide +kernel
theorem dX9_makesRow_16 : decode cX9_makesRow 16 = .ok (.invokevirtual 91, 3) := by decide +kernel
theorem dX9_makesRow_19 : decode cX9_makesRow 19 = .ok (.ifCond .ne 25, 3) := by decide +kernel
theorem dX9_makesRow_22 : decode cX9_makesRow 22 = .ok (.aload_n 0, 1) := by decide +kernel
theorem dX9_makesRow_23 : decode cX9_makesRow 23 = .ok (.iload_n 1, 1) := by decide +kernel
theorem dX9_makesRow_24 : decode cX9_makesRow 24 = .ok (.iconst 1, 1) := by decide +kernel
theorem dX9_makesRow_25 : decode cX9_makesRow 25 = .ok (.iconst 1, 1) := by decide +kernel
theorem dX9_makesRow_26 : decode cX9_makesRow 26 = .ok (.iload_n 2, 1) := by decide +kernel
theorem dX9_makesRow_27 : decode cX9_makesRow 27 = .ok (.invokevirtual 91, 3) := by decide +kernel
theorem dX9_makesRow_30 : decode cX9_makesRow 30 = .ok (.ifCond .ne 14, 3) := by decide +kernel
theorem dX9_makesRow_33 : decode cX9_makesRow 33 = .ok (.aload_n 0, 1) := by decide +kernel
theorem dX9_makesRow_34 : decode cX9_makesRow 34 = .ok (.iload_n 1, 1) := by decide +kernel
theorem dX9_makesRow_35 : decode cX9_makesRow 35 = .ok (.iconst 1, 1) := by decide +kernel
theorem dX9_makesRow_36 : decode cX9_makesRow 36 = .ok (.iconst (-1), 1) := by decide +kernel
theorem dX9_makesRow_37 : decode cX9_makesRow 37 = .ok (.iload_n 2, 1) := by decide +kernel
theorem dX9_makesRow_38 : decode cX9_makesRow 38 = .ok (.invokevirtual 91, 3) := by decide +kernel
theorem dX9_makesRow_41 : decode cX9_makesRow 41 = .ok (.ifCond .eq 7, 3) := by decide +kernel
theorem dX9_makesRow_44 : decode cX9_makesRow 44 = .ok (.iconst 1, 1) := by decide +kernel
theorem dX9_makesRow_45 : decode cX9_makesRow 45 = .ok (.goto 4, 3) := by decide +kernel
theorem dX9_makesRow_48 : decode cX9_makesRow 48 = .ok (.iconst 0, 1) := by decide +kernel
theorem dX9_makesRow_49 : decode cX9_makesRow 49 = .ok (.ireturn, 1) := by decide +kernel
theorem dX9_sets_0 : decode cX9_sets 0 = .ok (.aload_n 0, 1) := by decide +kernel
theorem dX9_sets_1 : decode cX9_sets 1 = .ok (.getfield 81, 3) := by decide +kernel
theorem dX9_sets_4 : decode cX9_sets 4 = .ok (.iconst 2, 1) := by decide +kernel
theorem dX9_sets_5 : decode cX9_sets 5 = .ok (.irem, 1) := by decide +kernel
theorem dX9_sets_6 : decode cX9_sets 6 = .ok (.istore_n 2, 1) := by decide +kernel
theorem dX9_sets_7 : decode cX9_sets 7 = .ok (.aload_n 0, 1) := by decide +kernel
theorem dX9_sets_8 : decode cX9_sets 8 = .ok (.getfield 29, 3) := by decide +kernel
theorem dX9_sets_11 : decode cX9_sets 11 = .ok (.iload_n 1, 1) := by decide +kernel
theorem dX9_sets_12 : decode cX9_sets 12 = .ok (.iload_n 2, 1) := by decide +kernel
theorem dX9_sets_13 : decode cX9_sets 13 = .ok (.iastore, 1) := by decide +kernel
theorem dX9_sets_14 : decode cX9_sets 14 = .ok (.aload_n 0, 1) := by decide +kernel
theorem dX9_sets_15 : decode cX9_sets 15 = .ok (.aload_n 0, 1) := by decide +kernel
theorem dX9_sets_16 : decode cX9_sets 16 = .ok (.getfield 81, 3) := by decide +kernel
theorem dX9_sets_19 : decode cX9_sets 19 = .ok (.iconst 1, 1) := by decide +kernel
theorem dX9_sets_20 : decode cX9_sets 20 = .ok (.iadd, 1) := by decide +kernel
theorem dX9_sets_21 : decode cX9_sets 21 = .ok (.putfield 81, 3) := by decide +kernel
theorem dX9_sets_24 : decode cX9_sets 24 = .ok (.aload_n 0, 1) := by decide +kernel
theorem dX9_sets_25 : decode cX9_sets 25 = .ok (.iload_n 1, 1) := by decide +kernel
theorem dX9_sets_26 : decode cX9_sets 26 = .ok (.iload_n 2, 1) := by decide +kernel
theorem dX9_sets_27 : decode cX9_sets 27 = .ok (.invokevirtual 95, 3) := by decide +kernel
theorem dX9_sets_30 : decode cX9_sets 30 = .ok (.ifCond .eq 24, 3) := by decide +kernel
theorem dX9_sets_33 : decode cX9_sets 33 = .ok (.aload_n 0, 1) := by decide +kernel
theorem dX9_sets_34 : decode cX9_sets 34 = .ok (.aload_n 0, 1) := by decide +kernel
theorem dX9_sets_35 : decode cX9_sets 35 = .ok (.getfield 75, 3) := by decide +kernel
theorem dX9_sets_38 : decode cX9_sets 38 = .ok (.ifCond .eq 9, 3) := by decide +kernel
theorem dX9_sets_41 : decode cX9_sets 41 = .ok (.iconst 1, 1) := by decide +kernel
theorem dX9_sets_42 : decode cX9_sets 42 = .ok (.iload_n 2, 1) := by decide +kernel
theorem dX9_sets_43 : decode cX9_sets 43 = .ok (.isub, 1) := by decide +kernel
theorem dX9_sets_44 : decode cX9_sets 44 = .ok (.goto 4, 3) := by decide +kernel
theorem dX9_sets_47 : decode cX9_sets 47 = .ok (.iload_n 2, 1) := by decide +kernel
theorem dX9_sets_48 : decode cX9_sets 48 = .ok (.putfield 84, 3) := by decide +kernel
theorem dX9_sets_51 : decode cX9_sets 51 = .ok (.goto 24, 3) := by decide +kernel
theorem dX9_sets_54 : decode cX9_sets 54 = .ok (.aload_n 0, 1) := by decide +kernel
theorem dX9_sets_55 : decode cX9_sets 55 = .ok (.getfield 81, 3) := by decide +kernel
theorem dX9_sets_58 : decode cX9_sets 58 = .ok (.aload_n 0, 1) := by decide +kernel
theorem dX9_sets_59 : decode cX9_sets 59 = .ok (.getfield 7, 3) := by decide +kernel
theorem dX9_sets_62 : decode cX9_sets 62 = .ok (.aload_n 0, 1) := by decide +kernel
theorem dX9_sets_63 : decode cX9_sets 63 = .ok (.getfield 13, 3) := by decide +kernel
theorem dX9_sets_66 : decode cX9_sets 66 = .ok (.imul, 1) := by decide +kernel
theorem dX9_sets_67 : decode cX9_sets 67 = .ok (.if_icmp .ne 8, 3) := by decide +kernel
theorem dX9_sets_70 : decode cX9_sets 70 = .ok (.aload_n 0, 1) := by decide +kernel
theorem dX9_sets_71 : decode cX9_sets 71 = .ok (.iconst 2, 1) := by decide +kernel
theorem dX9_sets_72 : decode cX9_sets 72 = .ok (.putfield 84, 3) := by decide +kernel
theorem dX9_sets_75 : decode cX9_sets 75 = .ok (.return_, 1) := by decide +kernel
theorem dX9_setsUp_0 : decode cX9_setsUp 0 = .ok (.aload_n 0, 1) := by decide +kernel
theorem dX9_setsUp_1 : decode cX9_setsUp 1 = .ok (.invokevirtual 99, 3) := by decide +kernel
theorem dX9_setsUp_4 : decode cX9_setsUp 4 = .ok (.iconst 0, 1) := by decide +kernel
theorem dX9_setsUp_5 : decode cX9_setsUp 5 = .ok (.istore_n 2, 1) := by decide +kernel
theorem dX9_setsUp_6 : decode cX9_setsUp 6 = .ok (.iload_n 2, 1) := by decide +kernel
theorem dX9_setsUp_7 : decode cX9_setsUp 7 = .ok (.iload_n 1, 1) := by decide +kernel
theorem dX9_setsUp_8 : decode cX9_setsUp 8 = .ok (.if_icmp .ge 19, 3) := by decide +kernel
theorem dX9_setsUp_11 : decode cX9_setsUp 11 = .ok (.aload_n 0, 1) := by decide +kernel
theorem dX9_setsUp_12 : decode cX9_setsUp 12 = .ok (.aload_n 0, 1) := by decide +kernel
theorem dX9_setsUp_13 : decode cX9_setsUp 13 = .ok (.getfield 22, 3) := by decide +kernel
theorem dX9_setsUp_16 : decode cX9_setsUp 16 = .ok (.iload_n 2, 1) := by decide +kernel
theorem dX9_setsUp_17 : decode cX9_setsUp 17 = .ok (.iaload, 1) := by decide +kernel
theorem dX9_setsUp_18 : decode cX9_setsUp 18 = .ok (.invokevirtual 102, 3) := by decide +kernel
theorem dX9_setsUp_21 : decode cX9_setsUp 21 = .ok (.iinc 2 1, 3) := by decide +kernel
theorem dX9_setsUp_24 : decode cX9_setsUp 24 = .ok (.goto (-18), 3) := by decide +kernel
theorem dX9_setsUp_27 : decode cX9_setsUp 27 = .ok (.return_, 1) := by decide +kernel
theorem dX9_play_0 : decode cX9_play 0 = .ok (.aload_n 0, 1) := by decide +kernel
theorem dX9_play_1 : decode cX9_play 1 = .ok (.aload_n 0, 1) := by decide +kernel
theorem dX9_play_2 : decode cX9_play 2 = .ok (.getfield 78, 3) := by decide +kernel
theorem dX9_play_5 : decode cX9_play 5 = .ok (.invokevirtual 106, 3) := by decide +kernel
theorem dX9_play_8 : decode cX9_play 8 = .ok (.aload_n 0, 1) := by decide +kernel
theorem dX9_play_9 : decode cX9_play 9 = .ok (.getfield 84, 3) := by decide +kernel
theorem dX9_play_12 : decode cX9_play 12 = .ok (.iconst 3, 1) := by decide +kernel
theorem dX9_play_13 : decode cX9_play 13 = .ok (.if_icmp .ne 11, 3) := by decide +kernel
theorem dX9_play_16 : decode cX9_play 16 = .ok (.aload_n 0, 1) := by decide +kernel
theorem dX9_play_17 : decode cX9_play 17 = .ok (.iload_n 1, 1) := by decide +kernel
theorem dX9_play_18 : decode cX9_play 18 = .ok (.invokevirtual 109, 3) := by decide +kernel
theorem dX9_play_21 : decode cX9_play 21 = .ok (.ifCond .ne 5, 3) := by decide +kernel
theorem dX9_play_24 : decode cX9_play 24 = .ok (.iconst (-1), 1) := by decide +kernel
theorem dX9_play_25 : decode cX9_play 25 = .ok (.ireturn, 1) := by decide +kernel
theorem dX9_play_26 : decode cX9_play 26 = .ok (.aload_n 0, 1) := by decide +kernel
theorem dX9_play_27 : decode cX9_play 27 = .ok (.getfield 22, 3) := by decide +kernel
theorem dX9_play_30 : decode cX9_play 30 = .ok (.aload_n 0, 1) := by decide +kernel
theorem dX9_play_31 : decode cX9_play 31 = .ok (.getfield 78, 3) := by decide +kernel
theorem dX9_play_34 : decode cX9_play 34 = .ok (.iload_n 1, 1) := by decide +kernel
theorem dX9_play_35 : decode cX9_play 35 = .ok (.iastore, 1) := by decide +kernel
theorem dX9_play_36 : decode cX9_play 36 = .ok (.aload_n 0, 1) := by decide +kernel
theorem dX9_play_37 : decode cX9_play 37 = .ok (.aload_n 0, 1) := by decide +kernel
theorem dX9_play_38 : decode cX9_play 38 = .ok (.getfield 78, 3) := by decide +kernel
theorem dX9_play_41 : decode cX9_play 41 = .ok (.iconst 1, 1) := by decide +kernel
theorem dX9_play_42 : decode cX9_play 42 = .ok (.iadd, 1) := by decide +kernel
theorem dX9_play_43 : decode cX9_play 43 = .ok (.putfield 78, 3) := by decide +kernel
theorem dX9_play_46 : decode cX9_play 46 = .ok (.aload_n 0, 1) := by decide +kernel
theorem dX9_play_47 : decode cX9_play 47 = .ok (.invokevirtual 64, 3) := by decide +kernel
theorem dX9_play_50 : decode cX9_play 50 = .ok (.aload_n 0, 1) := by decide +kernel
theorem dX9_play_51 : decode cX9_play 51 = .ok (.getfield 78, 3) := by decide +kernel
theorem dX9_play_54 : decode cX9_play 54 = .ok (.ireturn, 1) := by decide +kernel
theorem dX9_back_0 : decode cX9_back 0 = .ok (.aload_n 0, 1) := by decide +kernel
theorem dX9_back_1 : decode cX9_back 1 = .ok (.getfield 78, 3) := by decide +kernel
theorem dX9_back_4 : decode cX9_back 4 = .ok (.ifCond .ne 5, 3) := by decide +kernel
theorem dX9_back_7 : decode cX9_back 7 = .ok (.iconst (-1), 1) := by decide +kernel
theorem dX9_back_8 : decode cX9_back 8 = .ok (.ireturn, 1) := by decide +kernel
theorem dX9_back_9 : decode cX9_back 9 = .ok (.aload_n 0, 1) := by decide +kernel
theorem dX9_back_10 : decode cX9_back 10 = .ok (.aload_n 0, 1) := by decide +kernel
theorem dX9_back_11 : decode cX9_back 11 = .ok (.getfield 78, 3) := by decide +kernel
theorem dX9_back_14 : decode cX9_back 14 = .ok (.iconst 1, 1) := by decide +kernel
theorem dX9_back_15 : decode cX9_back 15 = .ok (.isub, 1) := by decide +kernel
theorem dX9_back_16 : decode cX9_back 16 = .ok (.putfield 78, 3) := by decide +kernel
theorem dX9_back_19 : decode cX9_back 19 = .ok (.aload_n 0, 1) := by decide +kernel
theorem dX9_back_20 : decode cX9_back 20 = .ok (.invokevirtual 64, 3) := by decide +kernel
theorem dX9_back_23 : decode cX9_back 23 = .ok (.aload_n 0, 1) := by decide +kernel
theorem dX9_back_24 : decode cX9_back 24 = .ok (.getfield 78, 3) := by decide +kernel
theorem dX9_back_27 : decode cX9_back 27 = .ok (.ireturn, 1) := by decide +kernel
theorem dX9_depth_0 : decode cX9_depth 0 = .ok (.iload_n 1, 1) := by decide +kernel
theorem dX9_depth_1 : decode cX9_depth 1 = .ok (.iconst 1, 1) := by decide +kernel
theorem dX9_depth_2 : decode cX9_depth 2 = .ok (.iconst 4, 1) := by decide +kernel
theorem dX9_depth_3 : decode cX9_depth 3 = .ok (.invokestatic 67, 3) := by decide +kernel
theorem dX9_depth_6 : decode cX9_depth 6 = .ok (.ifCond .ne 5, 3) := by decide +kernel
theorem dX9_depth_9 : decode cX9_depth 9 = .ok (.iconst 0, 1) := by decide +kernel
theorem dX9_depth_10 : decode cX9_depth 10 = .ok (.ireturn, 1) := by decide +kernel
theorem dX9_depth_11 : decode cX9_depth 11 = .ok (.aload_n 0, 1) := by decide +kernel
theorem dX9_depth_12 : decode cX9_depth 12 = .ok (.iload_n 1, 1) := by decide +kernel
theorem dX9_depth_13 : decode cX9_depth 13 = .ok (.putfield 19, 3) := by decide +kernel
theorem dX9_depth_16 : decode cX9_depth 16 = .ok (.aload_n 0, 1) := by decide +kernel
theorem dX9_depth_17 : decode cX9_depth 17 = .ok (.invokevirtual 64, 3) := by decide +kernel
theorem dX9_depth_20 : decode cX9_depth 20 = .ok (.iconst 1, 1) := by decide +kernel
theorem dX9_depth_21 : decode cX9_depth 21 = .ok (.ireturn, 1) := by decide +kernel
theorem dX9_weight_0 : decode cX9_weight 0 = .ok (.iload_n 1, 1) := by decide +kernel
theorem dX9_weight_1 : decode cX9_weight 1 = .ok (.iconst 0, 1) := by decide +kernel
theorem dX9_weight_2 : decode cX9_weight 2 = .ok (.iconst 5, 1) := by decide +kernel
theorem dX9_weight_3 : decode cX9_weight 3 = .ok (.invokestatic 67, 3) := by decide +kernel
theorem dX9_weight_6 : decode cX9_weight 6 = .ok (.ifCond .eq 13, 3) := by decide +kernel
theorem dX9_weight_9 : decode cX9_weight 9 = .ok (.iload_n 2, 1) := by decide +kernel
theorem dX9_weight_10 : decode cX9_weight 10 = .ok (.iconst 0, 1) := by decide +kernel
theorem dX9_weight_11 : decode cX9_weight 11 = .ok (.bipush 99, 2) := by decide +kernel
theorem dX9_weight_13 : decode cX9_weight 13 = .ok (.invokestatic 67, 3) := by decide +kernel
theorem dX9_weight_16 : decode cX9_weight 16 = .ok (.ifCond .ne 5, 3) := by decide +kernel
theorem dX9_weight_19 : decode cX9_weight 19 = .ok (.iconst 0, 1) := by decide +kernel
theorem dX9_weight_20 : decode cX9_weight 20 = .ok (.ireturn, 1) := by decide +kernel
theorem dX9_weight_21 : decode cX9_weight 21 = .ok (.aload_n 0, 1) := by decide +kernel
theorem dX9_weight_22 : decode cX9_weight 22 = .ok (.getfield 26, 3) := by decide +kernel
theorem dX9_weight_25 : decode cX9_weight 25 = .ok (.iload_n 1, 1) := by decide +kernel
theorem dX9_weight_26 : decode cX9_weight 26 = .ok (.iload_n 2, 1) := by decide +kernel
theorem dX9_weight_27 : decode cX9_weight 27 = .ok (.iastore, 1) := by decide +kernel
theorem dX9_weight_28 : decode cX9_weight 28 = .ok (.iconst 1, 1) := by decide +kernel
theorem dX9_weight_29 : decode cX9_weight 29 = .ok (.ireturn, 1) := by decide +kernel
theorem dX9_searched_0 : decode cX9_searched 0 = .ok (.aload_n 0, 1) := by decide +kernel
theorem dX9_searched_1 : decode cX9_searched 1 = .ok (.getfield 84, 3) := by decide +kernel
theorem dX9_searched_4 : decode cX9_searched 4 = .ok (.iconst 3, 1) := by decide +kernel
theorem dX9_searched_5 : decode cX9_searched 5 = .ok (.if_icmp .eq 34, 3) := by decide +kernel
theorem dX9_searched_8 : decode cX9_searched 8 = .ok (.aload_n 0, 1) := by decide +kernel
theorem dX9_searched_9 : decode cX9_searched 9 = .ok (.getfield 84, 3) := by decide +kernel
theorem dX9_searched_12 : decode cX9_searched 12 = .ok (.iconst 2, 1) := by decide +kernel
theorem dX9_searched_13 : decode cX9_searched 13 = .ok (.if_icmp .ne 7, 3) := by decide +kernel
theorem dX9_searched_16 : decode cX9_searched 16 = .ok (.iconst 0, 1) := by decide +kernel
theorem dX9_searched_17 : decode cX9_searched 17 = .ok (.goto 21, 3) := by decide +kernel
theorem dX9_searched_20 : decode cX9_searched 20 = .ok (.aload_n 0, 1) := by decide +kernel
theorem dX9_searched_21 : decode cX9_searched 21 = .ok (.getfield 84, 3) := by decide +kernel
theorem dX9_searched_24 : decode cX9_searched 24 = .ok (.aload_n 0, 1) := by decide +kernel
theorem dX9_searched_25 : decode cX9_searched 25 = .ok (.getfield 81, 3) := by decide +kernel
theorem dX9_searched_28 : decode cX9_searched 28 = .ok (.iconst 2, 1) := by decide +kernel
theorem dX9_searched_29 : decode cX9_searched 29 = .ok (.irem, 1) := by decide +kernel
theorem dX9_searched_30 : decode cX9_searched 30 = .ok (.if_icmp .ne 7, 3) := by decide +kernel
theorem dX9_searched_33 : decode cX9_searched 33 = .ok (.iconst 1, 1) := by decide +kernel
theorem dX9_searched_34 : decode cX9_searched 34 = .ok (.goto 4, 3) := by decide +kernel
theorem dX9_searched_37 : decode cX9_searched 37 = .ok (.iconst (-1), 1) := by decide +kernel
theorem dX9_searched_38 : decode cX9_searched 38 = .ok (.ireturn, 1) := by decide +kernel
theorem dX9_searched_39 : decode cX9_searched 39 = .ok (.iload_n 1, 1) := by decide +kernel
theorem dX9_searched_40 : decode cX9_searched 40 = .ok (.ifCond .ne 5, 3) := by decide +kernel
theorem dX9_searched_43 : decode cX9_searched 43 = .ok (.iconst 0, 1) := by decide +kernel
theorem dX9_searched_44 : decode cX9_searched 44 = .ok (.ireturn, 1) := by decide +kernel
theorem dX9_searched_45 : decode cX9_searched 45 = .ok (.iconst 0, 1) := by decide +kernel
theorem dX9_searched_46 : decode cX9_searched 46 = .ok (.istore_n 2, 1) := by decide +kernel
theorem dX9_searched_47 : decode cX9_searched 47 = .ok (.aload_n 0, 1) := by decide +kernel
theorem dX9_searched_48 : decode cX9_searched 48 = .ok (.getfield 32, 3) := by decide +kernel
theorem dX9_searched_51 : decode cX9_searched 51 = .ok (.iconst 0, 1) := by decide +kernel
theorem dX9_searched_52 : decode cX9_searched 52 = .ok (.bipush (-2), 2) := by decide +kernel
theorem dX9_searched_54 : decode cX9_searched 54 = .ok (.iastore, 1) := by decide +kernel
theorem dX9_searched_55 : decode cX9_searched 55 = .ok (.aload_n 0, 1) := by decide +kernel
theorem dX9_searched_56 : decode cX9_searched 56 = .ok (.getfield 35, 3) := by decide +kernel
theorem dX9_searched_59 : decode cX9_searched 59 = .ok (.iconst 0, 1) := by decide +kernel
theorem dX9_searched_60 : decode cX9_searched 60 = .ok (.iconst 0, 1) := by decide +kernel
theorem dX9_searched_61 : decode cX9_searched 61 = .ok (.iastore, 1) := by decide +kernel
theorem dX9_searched_62 : decode cX9_searched 62 = .ok (.aload_n 0, 1) := by decide +kernel
theorem dX9_searched_63 : decode cX9_searched 63 = .ok (.getfield 81, 3) := by decide +kernel
theorem dX9_searched_66 : decode cX9_searched 66 = .ok (.iconst 2, 1) := by decide +kernel
theorem dX9_searched_67 : decode cX9_searched 67 = .ok (.irem, 1) := by decide +kernel
theorem dX9_searched_68 : decode cX9_searched 68 = .ok (.istore_n 3, 1) := by decide +kernel
theorem dX9_searched_69 : decode cX9_searched 69 = .ok (.aload_n 0, 1) := by decide +kernel
theorem dX9_searched_70 : decode cX9_searched 70 = .ok (.getfield 81, 3) := by decide +kernel
theorem dX9_searched_73 : decode cX9_searched 73 = .ok (.istore 4, 2) := by decide +kernel
theorem dX9_searched_75 : decode cX9_searched 75 = .ok (.iload_n 2, 1) := by decide +kernel
theorem dX9_searched_76 : decode cX9_searched 76 = .ok (.ifCond .lt 267, 3) := by decide +kernel
theorem dX9_searched_79 : decode cX9_searched 79 = .ok (.iload_n 3, 1) := by decide +kernel
theorem dX9_searched_80 : decode cX9_searched 80 = .ok (.iload_n 2, 1) := by decide +kernel
theorem dX9_searched_81 : decode cX9_searched 81 = .ok (.iadd, 1) := by decide +kernel
theorem dX9_searched_82 : decode cX9_searched 82 = .ok (.iconst 2, 1) := by decide +kernel
theorem dX9_searched_83 : decode cX9_searched 83 = .ok (.irem, 1) := by decide +kernel
theorem dX9_searched_84 : decode cX9_searched 84 = .ok (.istore 5, 2) := by decide +kernel
theorem dX9_searched_86 : decode cX9_searched 86 = .ok (.aload_n 0, 1) := by decide +kernel
theorem dX9_searched_87 : decode cX9_searched 87 = .ok (.getfield 35, 3) := by decide +kernel
theorem dX9_searched_90 : decode cX9_searched 90 = .ok (.iload_n 2, 1) := by decide +kernel
theorem dX9_searched_91 : decode cX9_searched 91 = .ok (.iaload, 1) := by decide +kernel
theorem dX9_searched_92 : decode cX9_searched 92 = .ok (.aload_n 0, 1) := by decide +kernel
theorem dX9_searched_93 : decode cX9_searched 93 = .ok (.getfield 7, 3) := by decide +kernel
theorem dX9_searched_96 : decode cX9_searched 96 = .ok (.aload_n 0, 1) := by decide +kernel
theorem dX9_searched_97 : decode cX9_searched 97 = .ok (.getfield 13, 3) := by decide +kernel
theorem dX9_searched_100 : decode cX9_searched 100 = .ok (.imul, 1) := by decide +kernel
theorem dX9_searched_101 : decode cX9_searched 101 = .ok (.if_icmp .eq 13, 3) := by decide +kernel
theorem dX9_searched_104 : decode cX9_searched 104 = .ok (.aload_n 0, 1) := by decide +kernel
theorem dX9_searched_105 : decode cX9_searched 105 = .ok (.getfield 32, 3) := by decide +kernel
theorem dX9_searched_108 : decode cX9_searched 108 = .ok (.iload_n 2, 1) := by decide +kernel
theorem dX9_searched_109 : decode cX9_searched 109 = .ok (.iaload, 1) := by decide +kernel
theorem dX9_searched_110 : decode cX9_searched 110 = .ok (.iconst 1, 1) := by decide +kernel
theorem dX9_searched_111 : decode cX9_searched 111 = .ok (.if_icmp .ne 58, 3) := by decide +kernel
theorem dX9_searched_114 : decode cX9_searched 114 = .ok (.aload_n 0, 1) := by decide +kernel
theorem dX9_searched_115 : decode cX9_searched 115 = .ok (.getfield 32, 3) := by decide +kernel
theorem dX9_searched_118 : decode cX9_searched 118 = .ok (.iload_n 2, 1) := by decide +kernel
theorem dX9_searched_119 : decode cX9_searched 119 = .ok (.iaload, 1) := by decide +kernel
theorem dX9_searched_120 : decode cX9_searched 120 = .ok (.istore 6, 2) := by decide +kernel
theorem dX9_searched_122 : decode cX9_searched 122 = .ok (.iload_n 2, 1) := by decide +kernel
theorem dX9_searched_123 : decode cX9_searched 123 = .ok (.iconst 1, 1) := by decide +kernel
theorem dX9_searched_124 : decode cX9_searched 124 = .ok (.isub, 1) := by decide +kernel
theorem dX9_searched_125 : decode cX9_searched 125 = .ok (.istore_n 2, 1) := by decide +kernel
theorem dX9_searched_126 : decode cX9_searched 126 = .ok (.iload_n 2, 1) := by decide +kernel
theorem dX9_searched_127 : decode cX9_searched 127 = .ok (.ifCond .ge 6, 3) := by decide +kernel
theorem dX9_searched_130 : decode cX9_searched 130 = .ok (.iload 6, 2) := by decide +kernel
theorem dX9_searched_132 : decode cX9_searched 132 = .ok (.ireturn, 1) := by decide +kernel
theorem dX9_searched_133 : decode cX9_searched 133 = .ok (.aload_n 0, 1) := by decide +kernel
theorem dX9_searched_134 : decode cX9_searched 134 = .ok (.getfield 29, 3) := by decide +kernel
theorem dX9_searched_137 : decode cX9_searched 137 = .ok (.aload_n 0, 1) := by decide +kernel
theorem dX9_searched_138 : decode cX9_searched 138 = .ok (.getfield 38, 3) := by decide +kernel
theorem dX9_searched_141 : decode cX9_searched 141 = .ok (.iload_n 2, 1) := by decide +kernel
theorem dX9_searched_142 : decode cX9_searched 142 = .ok (.iaload, 1) := by decide +kernel
theorem dX9_searched_143 : decode cX9_searched 143 = .ok (.iconst 2, 1) := by decide +kernel
theorem dX9_searched_144 : decode cX9_searched 144 = .ok (.iastore, 1) := by decide +kernel
theorem dX9_searched_145 : decode cX9_searched 145 = .ok (.iload 6, 2) := by decide +kernel
theorem dX9_searched_147 : decode cX9_searched 147 = .ok (.ineg, 1) := by decide +kernel
theorem dX9_searched_148 : decode cX9_searched 148 = .ok (.aload_n 0, 1) := by decide +kernel
theorem dX9_searched_149 : decode cX9_searched 149 = .ok (.getfield 32, 3) := by decide +kernel
theorem dX9_searched_152 : decode cX9_searched 152 = .ok (.iload_n 2, 1) := by decide +kernel
theorem dX9_searched_153 : decode cX9_searched 153 = .ok (.iaload, 1) := by decide +kernel
theorem dX9_searched_154 : decode cX9_searched 154 = .ok (.if_icmp .le (-79), 3) := by decide +kernel
theorem dX9_searched_157 : decode cX9_searched 157 = .ok (.aload_n 0, 1) := by decide +kernel
theorem dX9_searched_158 : decode cX9_searched 158 = .ok (.getfield 32, 3) := by decide +kernel
theorem dX9_searched_161 : decode cX9_searched 161 = .ok (.iload_n 2, 1) := by decide +kernel
theorem dX9_searched_162 : decode cX9_searched 162 = .ok (.iload 6, 2) := by decide +kernel
theorem dX9_searched_164 : decode cX9_searched 164 = .ok (.ineg, 1) := by decide +kernel
theorem dX9_searched_165 : decode cX9_searched 165 = .ok (.iastore, 1) := by decide +kernel
theorem dX9_searched_166 : decode cX9_searched 166 = .ok (.goto (-91), 3) := by decide +kernel
theorem dX9_searched_169 : decode cX9_searched 169 = .ok (.aload_n 0, 1) := by decide +kernel
theorem dX9_searched_170 : decode cX9_searched 170 = .ok (.getfield 35, 3) := by decide +kernel
theorem dX9_searched_173 : decode cX9_searched 173 = .ok (.iload_n 2, 1) := by decide +kernel
theorem dX9_searched_174 : decode cX9_searched 174 = .ok (.iaload, 1) := by decide +kernel
theorem dX9_searched_175 : decode cX9_searched 175 = .ok (.istore 6, 2) := by decide +kernel
theorem dX9_searched_177 : decode cX9_searched 177 = .ok (.aload_n 0, 1) := by decide +kernel
theorem dX9_searched_178 : decode cX9_searched 178 = .ok (.getfield 35, 3) := by decide +kernel
theorem dX9_searched_181 : decode cX9_searched 181 = .ok (.iload_n 2, 1) := by decide +kernel
theorem dX9_searched_182 : decode cX9_searched 182 = .ok (.iload 6, 2) := by decide +kernel
theorem dX9_searched_184 : decode cX9_searched 184 = .ok (.iconst 1, 1) := by decide +kernel
theorem dX9_searched_185 : decode cX9_searched 185 = .ok (.iadd, 1) := by decide +kernel
theorem dX9_searched_186 : decode cX9_searched 186 = .ok (.iastore, 1) := by decide +kernel
theorem dX9_searched_187 : decode cX9_searched 187 = .ok (.aload_n 0, 1) := by decide +kernel
theorem dX9_searched_188 : decode cX9_searched 188 = .ok (.iload 6, 2) := by decide +kernel
theorem dX9_searched_190 : decode cX9_searched 190 = .ok (.invokevirtual 109, 3) := by decide +kernel
theorem dX9_searched_193 : decode cX9_searched 193 = .ok (.ifCond .ne 6, 3) := by decide +kernel
theorem dX9_searched_196 : decode cX9_searched 196 = .ok (.goto (-121), 3) := by decide +kernel
theorem dX9_searched_199 : decode cX9_searched 199 = .ok (.aload_n 0, 1) := by decide +kernel
theorem dX9_searched_200 : decode cX9_searched 200 = .ok (.getfield 29, 3) := by decide +kernel
theorem dX9_searched_203 : decode cX9_searched 203 = .ok (.iload 6, 2) := by decide +kernel
theorem dX9_searched_205 : decode cX9_searched 205 = .ok (.iload 5, 2) := by decide +kernel
theorem dX9_searched_207 : decode cX9_searched 207 = .ok (.iastore, 1) := by decide +kernel
theorem dX9_searched_208 : decode cX9_searched 208 = .ok (.aload_n 0, 1) := by decide +kernel
theorem dX9_searched_209 : decode cX9_searched 209 = .ok (.iload 6, 2) := by decide +kernel
theorem dX9_searched_211 : decode cX9_searched 211 = .ok (.iload 5, 2) := by decide +kernel
theorem dX9_searched_213 : decode cX9_searched 213 = .ok (.invokevirtual 95, 3) := by decide +kernel
theorem dX9_searched_216 : decode cX9_searched 216 = .ok (.istore 7, 2) := by decide +kernel
theorem dX9_searched_218 : decode cX9_searched 218 = .ok (.iload 7, 2) := by decide +kernel
theorem dX9_searched_220 : decode cX9_searched 220 = .ok (.ifCond .ne 28, 3) := by decide +kernel
theorem dX9_searched_223 : decode cX9_searched 223 = .ok (.iload 4, 2) := by decide +kernel
theorem dX9_searched_225 : decode cX9_searched 225 = .ok (.iload_n 2, 1) := by decide +kernel
theorem dX9_searched_226 : decode cX9_searched 226 = .ok (.iadd, 1) := by decide +kernel
theorem dX9_searched_227 : decode cX9_searched 227 = .ok (.iconst 1, 1) := by decide +kernel
theorem dX9_searched_228 : decode cX9_searched 228 = .ok (.iadd, 1) := by decide +kernel
theorem dX9_searched_229 : decode cX9_searched 229 = .ok (.aload_n 0, 1) := by decide +kernel
theorem dX9_searched_230 : decode cX9_searched 230 = .ok (.getfield 7, 3) := by decide +kernel
theorem dX9_searched_233 : decode cX9_searched 233 = .ok (.aload_n 0, 1) := by decide +kernel
theorem dX9_searched_234 : decode cX9_searched 234 = .ok (.getfield 13, 3) := by decide +kernel
theorem dX9_searched_237 : decode cX9_searched 237 = .ok (.imul, 1) := by decide +kernel
theorem dX9_searched_238 : decode cX9_searched 238 = .ok (.if_icmp .eq 10, 3) := by decide +kernel
theorem dX9_searched_241 : decode cX9_searched 241 = .ok (.iload_n 2, 1) := by decide +kernel
theorem dX9_searched_242 : decode cX9_searched 242 = .ok (.iconst 1, 1) := by decide +kernel
theorem dX9_searched_243 : decode cX9_searched 243 = .ok (.iadd, 1) := by decide +kernel
theorem dX9_searched_244 : decode cX9_searched 244 = .ok (.iload_n 1, 1) := by decide +kernel
theorem dX9_searched_245 : decode cX9_searched 245 = .ok (.if_icmp .ne 7, 3) := by decide +kernel
theorem dX9_searched_248 : decode cX9_searched 248 = .ok (.iconst 1, 1) := by decide +kernel
theorem dX9_searched_249 : decode cX9_searched 249 = .ok (.goto 4, 3) := by decide +kernel
theorem dX9_searched_252 : decode cX9_searched 252 = .ok (.iconst 0, 1) := by decide +kernel
theorem dX9_searched_253 : decode cX9_searched 253 = .ok (.istore 8, 2) := by decide +kernel
theorem dX9_searched_255 : decode cX9_searched 255 = .ok (.iload 8, 2) := by decide +kernel
theorem dX9_searched_257 : decode cX9_searched 257 = .ok (.ifCond .eq 56, 3) := by decide +kernel
theorem dX9_searched_260 : decode cX9_searched 260 = .ok (.iload 7, 2) := by decide +kernel
theorem dX9_searched_262 : decode cX9_searched 262 = .ok (.ifCond .ne 7, 3) := by decide +kernel
theorem dX9_searched_265 : decode cX9_searched 265 = .ok (.iconst 0, 1) := by decide +kernel
theorem dX9_searched_266 : decode cX9_searched 266 = .ok (.goto 15, 3) := by decide +kernel
theorem dX9_searched_269 : decode cX9_searched 269 = .ok (.aload_n 0, 1) := by decide +kernel
theorem dX9_searched_270 : decode cX9_searched 270 = .ok (.getfield 75, 3) := by decide +kernel
theorem dX9_searched_273 : decode cX9_searched 273 = .ok (.ifCond .eq 7, 3) := by decide +kernel
theorem dX9_searched_276 : decode cX9_searched 276 = .ok (.iconst (-1), 1) := by decide +kernel
theorem dX9_searched_277 : decode cX9_searched 277 = .ok (.goto 4, 3) := by decide +kernel
theorem dX9_searched_280 : decode cX9_searched 280 = .ok (.iconst 1, 1) := by decide +kernel
theorem dX9_searched_281 : decode cX9_searched 281 = .ok (.istore 9, 2) := by decide +kernel
theorem dX9_searched_283 : decode cX9_searched 283 = .ok (.aload_n 0, 1) := by decide +kernel
theorem dX9_searched_284 : decode cX9_searched 284 = .ok (.getfield 29, 3) := by decide +kernel
theorem dX9_searched_287 : decode cX9_searched 287 = .ok (.iload 6, 2) := by decide +kernel
theorem dX9_searched_289 : decode cX9_searched 289 = .ok (.iconst 2, 1) := by decide +kernel
theorem dX9_searched_290 : decode cX9_searched 290 = .ok (.iastore, 1) := by decide +kernel
theorem dX9_searched_291 : decode cX9_searched 291 = .ok (.iload 9, 2) := by decide +kernel
theorem dX9_searched_293 : decode cX9_searched 293 = .ok (.aload_n 0, 1) := by decide +kernel
theorem dX9_searched_294 : decode cX9_searched 294 = .ok (.getfield 32, 3) := by decide +kernel
theorem dX9_searched_297 : decode cX9_searched 297 = .ok (.iload_n 2, 1) := by decide +kernel
theorem dX9_searched_298 : decode cX9_searched 298 = .ok (.iaload, 1) := by decide +kernel
theorem dX9_searched_299 : decode cX9_searched 299 = .ok (.if_icmp .le (-224), 3) := by decide +kernel
theorem dX9_searched_302 : decode cX9_searched 302 = .ok (.aload_n 0, 1) := by decide +kernel
theorem dX9_searched_303 : decode cX9_searched 303 = .ok (.getfield 32, 3) := by decide +kernel
theorem dX9_searched_306 : decode cX9_searched 306 = .ok (.iload_n 2, 1) := by decide +kernel
theorem dX9_searched_307 : decode cX9_searched 307 = .ok (.iload 9, 2) := by decide +kernel
theorem dX9_searched_309 : decode cX9_searched 309 = .ok (.iastore, 1) := by decide +kernel
theorem dX9_searched_310 : decode cX9_searched 310 = .ok (.goto (-235), 3) := by decide +kernel
theorem dX9_searched_313 : decode cX9_searched 313 = .ok (.aload_n 0, 1) := by decide +kernel
theorem dX9_searched_314 : decode cX9_searched 314 = .ok (.getfield 38, 3) := by decide +kernel
theorem dX9_searched_317 : decode cX9_searched 317 = .ok (.iload_n 2, 1) := by decide +kernel
theorem dX9_searched_318 : decode cX9_searched 318 = .ok (.iload 6, 2) := by decide +kernel
theorem dX9_searched_320 : decode cX9_searched 320 = .ok (.iastore, 1) := by decide +kernel
theorem dX9_searched_321 : decode cX9_searched 321 = .ok (.iload_n 2, 1) := by decide +kernel
theorem dX9_searched_322 : decode cX9_searched 322 = .ok (.iconst 1, 1) := by decide +kernel
theorem dX9_searched_323 : decode cX9_searched 323 = .ok (.iadd, 1) := by decide +kernel
theorem dX9_searched_324 : decode cX9_searched 324 = .ok (.istore_n 2, 1) := by decide +kernel
theorem dX9_searched_325 : decode cX9_searched 325 = .ok (.aload_n 0, 1) := by decide +kernel
theorem dX9_searched_326 : decode cX9_searched 326 = .ok (.getfield 32, 3) := by decide +kernel
theorem dX9_searched_329 : decode cX9_searched 329 = .ok (.iload_n 2, 1) := by decide +kernel
theorem dX9_searched_330 : decode cX9_searched 330 = .ok (.bipush (-2), 2) := by decide +kernel
theorem dX9_searched_332 : decode cX9_searched 332 = .ok (.iastore, 1) := by decide +kernel
theorem dX9_searched_333 : decode cX9_searched 333 = .ok (.aload_n 0, 1) := by decide +kernel
theorem dX9_searched_334 : decode cX9_searched 334 = .ok (.getfield 35, 3) := by decide +kernel
theorem dX9_searched_337 : decode cX9_searched 337 = .ok (.iload_n 2, 1) := by decide +kernel
theorem dX9_searched_338 : decode cX9_searched 338 = .ok (.iconst 0, 1) := by decide +kernel
theorem dX9_searched_339 : decode cX9_searched 339 = .ok (.iastore, 1) := by decide +kernel
theorem dX9_searched_340 : decode cX9_searched 340 = .ok (.goto (-265), 3) := by decide +kernel
theorem dX9_searched_343 : decode cX9_searched 343 = .ok (.iconst 0, 1) := by decide +kernel
theorem dX9_searched_344 : decode cX9_searched 344 = .ok (.ireturn, 1) := by decide +kernel
theorem dX9_value_0 : decode cX9_value 0 = .ok (.iload_n 1, 1) := by decide +kernel
theorem dX9_value_1 : decode cX9_value 1 = .ok (.iconst 0, 1) := by decide +kernel
theorem dX9_value_2 : decode cX9_value 2 = .ok (.aload_n 0, 1) := by decide +kernel
theorem dX9_value_3 : decode cX9_value 3 = .ok (.getfield 78, 3) := by decide +kernel
theorem dX9_value_6 : decode cX9_value 6 = .ok (.invokestatic 67, 3) := by decide +kernel
theorem dX9_value_9 : decode cX9_value 9 = .ok (.ifCond .eq 12, 3) := by decide +kernel
theorem dX9_value_12 : decode cX9_value 12 = .ok (.iload_n 2, 1) := by decide +kernel
theorem dX9_value_13 : decode cX9_value 13 = .ok (.iconst 0, 1) := by decide +kernel
theorem dX9_value_14 : decode cX9_value 14 = .ok (.iconst 5, 1) := by decide +kernel
theorem dX9_value_15 : decode cX9_value 15 = .ok (.invokestatic 67, 3) := by decide +kernel
theorem dX9_value_18 : decode cX9_value 18 = .ok (.ifCond .ne 6, 3) := by decide +kernel
theorem dX9_value_21 : decode cX9_value 21 = .ok (.bipush (-2), 2) := by decide +kernel
theorem dX9_value_23 : decode cX9_value 23 = .ok (.ireturn, 1) := by decide +kernel
theorem dX9_value_24 : decode cX9_value 24 = .ok (.aload_n 0, 1) := by decide +kernel
theorem dX9_value_25 : decode cX9_value 25 = .ok (.iload_n 1, 1) := by decide +kernel
theorem dX9_value_26 : decode cX9_value 26 = .ok (.invokevirtual 106, 3) := by decide +kernel
theorem dX9_value_29 : decode cX9_value 29 = .ok (.aload_n 0, 1) := by decide +kernel
theorem dX9_value_30 : decode cX9_value 30 = .ok (.iload_n 2, 1) := by decide +kernel
theorem dX9_value_31 : decode cX9_value 31 = .ok (.invokevirtual 113, 3) := by decide +kernel
theorem dX9_value_34 : decode cX9_value 34 = .ok (.ireturn, 1) := by decide +kernel
theorem dX9_behind_0 : decode cX9_behind 0 = .ok (.aload_n 0, 1) := by decide +kernel
theorem dX9_behind_1 : decode cX9_behind 1 = .ok (.iload_n 1, 1) := by decide +kernel
theorem dX9_behind_2 : decode cX9_behind 2 = .ok (.invokevirtual 106, 3) := by decide +kernel
theorem dX9_behind_5 : decode cX9_behind 5 = .ok (.aload_n 0, 1) := by decide +kernel
theorem dX9_behind_6 : decode cX9_behind 6 = .ok (.getfield 84, 3) := by decide +kernel
theorem dX9_behind_9 : decode cX9_behind 9 = .ok (.iconst 3, 1) := by decide +kernel
theorem dX9_behind_10 : decode cX9_behind 10 = .ok (.if_icmp .ne 11, 3) := by decide +kernel
theorem dX9_behind_13 : decode cX9_behind 13 = .ok (.aload_n 0, 1) := by decide +kernel
theorem dX9_behind_14 : decode cX9_behind 14 = .ok (.iload_n 2, 1) := by decide +kernel
theorem dX9_behind_15 : decode cX9_behind 15 = .ok (.invokevirtual 109, 3) := by decide +kernel
theorem dX9_behind_18 : decode cX9_behind 18 = .ok (.ifCond .ne 6, 3) := by decide +kernel
theorem dX9_behind_21 : decode cX9_behind 21 = .ok (.bipush (-3), 2) := by decide +kernel
theorem dX9_behind_23 : decode cX9_behind 23 = .ok (.ireturn, 1) := by decide +kernel
theorem dX9_behind_24 : decode cX9_behind 24 = .ok (.aload_n 0, 1) := by decide +kernel
theorem dX9_behind_25 : decode cX9_behind 25 = .ok (.iload_n 2, 1) := by decide +kernel
theorem dX9_behind_26 : decode cX9_behind 26 = .ok (.invokevirtual 102, 3) := by decide +kernel
theorem dX9_behind_29 : decode cX9_behind 29 = .ok (.aload_n 0, 1) := by decide +kernel
theorem dX9_behind_30 : decode cX9_behind 30 = .ok (.iload_n 3, 1) := by decide +kernel
theorem dX9_behind_31 : decode cX9_behind 31 = .ok (.invokevirtual 113, 3) := by decide +kernel
theorem dX9_behind_34 : decode cX9_behind 34 = .ok (.ineg, 1) := by decide +kernel
theorem dX9_behind_35 : decode cX9_behind 35 = .ok (.ireturn, 1) := by decide +kernel
theorem dX9_best_0 : decode cX9_best 0 = .ok (.iload_n 1, 1) := by decide +kernel
theorem dX9_best_1 : decode cX9_best 1 = .ok (.iconst 0, 1) := by decide +kernel
theorem dX9_best_2 : decode cX9_best 2 = .ok (.aload_n 0, 1) := by decide +kernel
theorem dX9_best_3 : decode cX9_best 3 = .ok (.getfield 78, 3) := by decide +kernel
theorem dX9_best_6 : decode cX9_best 6 = .ok (.invokestatic 67, 3) := by decide +kernel
theorem dX9_best_9 : decode cX9_best 9 = .ok (.ifCond .eq 12, 3) := by decide +kernel
theorem dX9_best_12 : decode cX9_best 12 = .ok (.iload_n 2, 1) := by decide +kernel
theorem dX9_best_13 : decode cX9_best 13 = .ok (.iconst 1, 1) := by decide +kernel
theorem dX9_best_14 : decode cX9_best 14 = .ok (.iconst 5, 1) := by decide +kernel
theorem dX9_best_15 : decode cX9_best 15 = .ok (.invokestatic 67, 3) := by decide +kernel
theorem dX9_best_18 : decode cX9_best 18 = .ok (.ifCond .ne 5, 3) := by decide +kernel
theorem dX9_best_21 : decode cX9_best 21 = .ok (.iconst (-1), 1) := by decide +kernel
theorem dX9_best_22 : decode cX9_best 22 = .ok (.ireturn, 1) := by decide +kernel
theorem dX9_best_23 : decode cX9_best 23 = .ok (.bipush (-2), 2) := by decide +kernel
theorem dX9_best_25 : decode cX9_best 25 = .ok (.istore_n 3, 1) := by decide +kernel
theorem dX9_best_26 : decode cX9_best 26 = .ok (.iconst (-1), 1) := by decide +kernel
theorem dX9_best_27 : decode cX9_best 27 = .ok (.istore 4, 2) := by decide +kernel
theorem dX9_best_29 : decode cX9_best 29 = .ok (.iconst 0, 1) := by decide +kernel
theorem dX9_best_30 : decode cX9_best 30 = .ok (.istore 5, 2) := by decide +kernel
theorem dX9_best_32 : decode cX9_best 32 = .ok (.iload 5, 2) := by decide +kernel
theorem dX9_best_34 : decode cX9_best 34 = .ok (.aload_n 0, 1) := by decide +kernel
theorem dX9_best_35 : decode cX9_best 35 = .ok (.getfield 7, 3) := by decide +kernel
theorem dX9_best_38 : decode cX9_best 38 = .ok (.aload_n 0, 1) := by decide +kernel
theorem dX9_best_39 : decode cX9_best 39 = .ok (.getfield 13, 3) := by decide +kernel
theorem dX9_best_42 : decode cX9_best 42 = .ok (.imul, 1) := by decide +kernel
theorem dX9_best_43 : decode cX9_best 43 = .ok (.if_icmp .ge 44, 3) := by decide +kernel
theorem dX9_best_46 : decode cX9_best 46 = .ok (.aload_n 0, 1) := by decide +kernel
theorem dX9_best_47 : decode cX9_best 47 = .ok (.iload_n 1, 1) := by decide +kernel
theorem dX9_best_48 : decode cX9_best 48 = .ok (.iload 5, 2) := by decide +kernel
theorem dX9_best_50 : decode cX9_best 50 = .ok (.iload_n 2, 1) := by decide +kernel
theorem dX9_best_51 : decode cX9_best 51 = .ok (.iconst 1, 1) := by decide +kernel
theorem dX9_best_52 : decode cX9_best 52 = .ok (.isub, 1) := by decide +kernel
theorem dX9_best_53 : decode cX9_best 53 = .ok (.invokevirtual 117, 3) := by decide +kernel
theorem dX9_best_56 : decode cX9_best 56 = .ok (.istore 6, 2) := by decide +kernel
theorem dX9_best_58 : decode cX9_best 58 = .ok (.iload 6, 2) := by decide +kernel
theorem dX9_best_60 : decode cX9_best 60 = .ok (.iload_n 3, 1) := by decide +kernel
theorem dX9_best_61 : decode cX9_best 61 = .ok (.if_icmp .le 20, 3) := by decide +kernel
theorem dX9_best_64 : decode cX9_best 64 = .ok (.iload 6, 2) := by decide +kernel
theorem dX9_best_66 : decode cX9_best 66 = .ok (.bipush (-3), 2) := by decide +kernel
theorem dX9_best_68 : decode cX9_best 68 = .ok (.if_icmp .ne 6, 3) := by decide +kernel
theorem dX9_best_71 : decode cX9_best 71 = .ok (.goto 10, 3) := by decide +kernel
theorem dX9_best_74 : decode cX9_best 74 = .ok (.iload 6, 2) := by decide +kernel
theorem dX9_best_76 : decode cX9_best 76 = .ok (.istore_n 3, 1) := by decide +kernel
theorem dX9_best_77 : decode cX9_best 77 = .ok (.iload 5, 2) := by decide +kernel
theorem dX9_best_79 : decode cX9_best 79 = .ok (.istore 4, 2) := by decide +kernel
theorem dX9_best_81 : decode cX9_best 81 = .ok (.iinc 5 1, 3) := by decide +kernel
theorem dX9_best_84 : decode cX9_best 84 = .ok (.goto (-52), 3) := by decide +kernel
theorem dX9_best_87 : decode cX9_best 87 = .ok (.iload 4, 2) := by decide +kernel
theorem dX9_best_89 : decode cX9_best 89 = .ok (.ireturn, 1) := by decide +kernel
theorem dX9_forgets_0 : decode cX9_forgets 0 = .ok (.iconst 0, 1) := by decide +kernel
theorem dX9_forgets_1 : decode cX9_forgets 1 = .ok (.istore_n 1, 1) := by decide +kernel
theorem dX9_forgets_2 : decode cX9_forgets 2 = .ok (.iload_n 1, 1) := by decide +kernel
theorem dX9_forgets_3 : decode cX9_forgets 3 = .ok (.bipush 17, 2) := by decide +kernel
theorem dX9_forgets_5 : decode cX9_forgets 5 = .ok (.if_icmp .ge 16, 3) := by decide +kernel
