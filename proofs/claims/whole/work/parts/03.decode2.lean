theorem dX2_forgetMove_2 : decode cX2_forgetMove 2 = .ok (.iload_n 2, 1) := by decide +kernel
theorem dX2_forgetMove_3 : decode cX2_forgetMove 3 = .ok (.bipush 6, 2) := by decide +kernel
theorem dX2_forgetMove_5 : decode cX2_forgetMove 5 = .ok (.if_icmp .ge 36, 3) := by decide +kernel
theorem dX2_forgetMove_8 : decode cX2_forgetMove 8 = .ok (.iload_n 1, 1) := by decide +kernel
theorem dX2_forgetMove_9 : decode cX2_forgetMove 9 = .ok (.bipush 6, 2) := by decide +kernel
theorem dX2_forgetMove_11 : decode cX2_forgetMove 11 = .ok (.imul, 1) := by decide +kernel
theorem dX2_forgetMove_12 : decode cX2_forgetMove 12 = .ok (.iload_n 2, 1) := by decide +kernel
theorem dX2_forgetMove_13 : decode cX2_forgetMove 13 = .ok (.iadd, 1) := by decide +kernel
theorem dX2_forgetMove_14 : decode cX2_forgetMove 14 = .ok (.istore_n 3, 1) := by decide +kernel
theorem dX2_forgetMove_15 : decode cX2_forgetMove 15 = .ok (.iload_n 3, 1) := by decide +kernel
theorem dX2_forgetMove_16 : decode cX2_forgetMove 16 = .ok (.ifCond .lt 19, 3) := by decide +kernel
theorem dX2_forgetMove_19 : decode cX2_forgetMove 19 = .ok (.iload_n 3, 1) := by decide +kernel
theorem dX2_forgetMove_20 : decode cX2_forgetMove 20 = .ok (.aload_n 0, 1) := by decide +kernel
theorem dX2_forgetMove_21 : decode cX2_forgetMove 21 = .ok (.getfield 31, 3) := by decide +kernel
theorem dX2_forgetMove_24 : decode cX2_forgetMove 24 = .ok (.arraylength, 1) := by decide +kernel
theorem dX2_forgetMove_25 : decode cX2_forgetMove 25 = .ok (.if_icmp .ge 10, 3) := by decide +kernel
theorem dX2_forgetMove_28 : decode cX2_forgetMove 28 = .ok (.aload_n 0, 1) := by decide +kernel
theorem dX2_forgetMove_29 : decode cX2_forgetMove 29 = .ok (.getfield 31, 3) := by decide +kernel
theorem dX2_forgetMove_32 : decode cX2_forgetMove 32 = .ok (.iload_n 3, 1) := by decide +kernel
theorem dX2_forgetMove_33 : decode cX2_forgetMove 33 = .ok (.iconst 2, 1) := by decide +kernel
theorem dX2_forgetMove_34 : decode cX2_forgetMove 34 = .ok (.iastore, 1) := by decide +kernel
theorem dX2_forgetMove_35 : decode cX2_forgetMove 35 = .ok (.iinc 2 1, 3) := by decide +kernel
theorem dX2_forgetMove_38 : decode cX2_forgetMove 38 = .ok (.goto (-36), 3) := by decide +kernel
theorem dX2_forgetMove_41 : decode cX2_forgetMove 41 = .ok (.aload_n 0, 1) := by decide +kernel
theorem dX2_forgetMove_42 : decode cX2_forgetMove 42 = .ok (.aload_n 0, 1) := by decide +kernel
theorem dX2_forgetMove_43 : decode cX2_forgetMove 43 = .ok (.getfield 47, 3) := by decide +kernel
theorem dX2_forgetMove_46 : decode cX2_forgetMove 46 = .ok (.iload_n 1, 1) := by decide +kernel
theorem dX2_forgetMove_47 : decode cX2_forgetMove 47 = .ok (.iconst 1, 1) := by decide +kernel
theorem dX2_forgetMove_48 : decode cX2_forgetMove 48 = .ok (.isub, 1) := by decide +kernel
theorem dX2_forgetMove_49 : decode cX2_forgetMove 49 = .ok (.invokestatic 50, 3) := by decide +kernel
theorem dX2_forgetMove_52 : decode cX2_forgetMove 52 = .ok (.putfield 47, 3) := by decide +kernel
theorem dX2_forgetMove_55 : decode cX2_forgetMove 55 = .ok (.return_, 1) := by decide +kernel
theorem dX2_valueBehind_0 : decode cX2_valueBehind 0 = .ok (.aload_n 0, 1) := by decide +kernel
theorem dX2_valueBehind_1 : decode cX2_valueBehind 1 = .ok (.getfield 19, 3) := by decide +kernel
theorem dX2_valueBehind_4 : decode cX2_valueBehind 4 = .ok (.iload_n 1, 1) := by decide +kernel
theorem dX2_valueBehind_5 : decode cX2_valueBehind 5 = .ok (.invokevirtual 56, 3) := by decide +kernel
theorem dX2_valueBehind_8 : decode cX2_valueBehind 8 = .ok (.ifCond .eq 11, 3) := by decide +kernel
theorem dX2_valueBehind_11 : decode cX2_valueBehind 11 = .ok (.aload_n 0, 1) := by decide +kernel
theorem dX2_valueBehind_12 : decode cX2_valueBehind 12 = .ok (.getfield 19, 3) := by decide +kernel
theorem dX2_valueBehind_15 : decode cX2_valueBehind 15 = .ok (.invokevirtual 62, 3) := by decide +kernel
theorem dX2_valueBehind_18 : decode cX2_valueBehind 18 = .ok (.ireturn, 1) := by decide +kernel
theorem dX2_valueBehind_19 : decode cX2_valueBehind 19 = .ok (.iload_n 1, 1) := by decide +kernel
theorem dX2_valueBehind_20 : decode cX2_valueBehind 20 = .ok (.bipush 6, 2) := by decide +kernel
theorem dX2_valueBehind_22 : decode cX2_valueBehind 22 = .ok (.imul, 1) := by decide +kernel
theorem dX2_valueBehind_23 : decode cX2_valueBehind 23 = .ok (.iload_n 2, 1) := by decide +kernel
theorem dX2_valueBehind_24 : decode cX2_valueBehind 24 = .ok (.iadd, 1) := by decide +kernel
theorem dX2_valueBehind_25 : decode cX2_valueBehind 25 = .ok (.istore_n 3, 1) := by decide +kernel
theorem dX2_valueBehind_26 : decode cX2_valueBehind 26 = .ok (.iload_n 2, 1) := by decide +kernel
theorem dX2_valueBehind_27 : decode cX2_valueBehind 27 = .ok (.iconst 1, 1) := by decide +kernel
theorem dX2_valueBehind_28 : decode cX2_valueBehind 28 = .ok (.if_icmp .lt 22, 3) := by decide +kernel
theorem dX2_valueBehind_31 : decode cX2_valueBehind 31 = .ok (.iload_n 2, 1) := by decide +kernel
theorem dX2_valueBehind_32 : decode cX2_valueBehind 32 = .ok (.bipush 6, 2) := by decide +kernel
theorem dX2_valueBehind_34 : decode cX2_valueBehind 34 = .ok (.if_icmp .ge 16, 3) := by decide +kernel
theorem dX2_valueBehind_37 : decode cX2_valueBehind 37 = .ok (.iload_n 3, 1) := by decide +kernel
theorem dX2_valueBehind_38 : decode cX2_valueBehind 38 = .ok (.ifCond .lt 12, 3) := by decide +kernel
theorem dX2_valueBehind_41 : decode cX2_valueBehind 41 = .ok (.iload_n 3, 1) := by decide +kernel
theorem dX2_valueBehind_42 : decode cX2_valueBehind 42 = .ok (.aload_n 0, 1) := by decide +kernel
theorem dX2_valueBehind_43 : decode cX2_valueBehind 43 = .ok (.getfield 31, 3) := by decide +kernel
theorem dX2_valueBehind_46 : decode cX2_valueBehind 46 = .ok (.arraylength, 1) := by decide +kernel
theorem dX2_valueBehind_47 : decode cX2_valueBehind 47 = .ok (.if_icmp .lt 5, 3) := by decide +kernel
theorem dX2_valueBehind_50 : decode cX2_valueBehind 50 = .ok (.iconst 0, 1) := by decide +kernel
theorem dX2_valueBehind_51 : decode cX2_valueBehind 51 = .ok (.ireturn, 1) := by decide +kernel
theorem dX2_valueBehind_52 : decode cX2_valueBehind 52 = .ok (.aload_n 0, 1) := by decide +kernel
theorem dX2_valueBehind_53 : decode cX2_valueBehind 53 = .ok (.getfield 31, 3) := by decide +kernel
theorem dX2_valueBehind_56 : decode cX2_valueBehind 56 = .ok (.iload_n 3, 1) := by decide +kernel
theorem dX2_valueBehind_57 : decode cX2_valueBehind 57 = .ok (.iaload, 1) := by decide +kernel
theorem dX2_valueBehind_58 : decode cX2_valueBehind 58 = .ok (.iconst 2, 1) := by decide +kernel
theorem dX2_valueBehind_59 : decode cX2_valueBehind 59 = .ok (.if_icmp .ne 52, 3) := by decide +kernel
theorem dX2_valueBehind_62 : decode cX2_valueBehind 62 = .ok (.iload_n 1, 1) := by decide +kernel
theorem dX2_valueBehind_63 : decode cX2_valueBehind 63 = .ok (.iconst 1, 1) := by decide +kernel
theorem dX2_valueBehind_64 : decode cX2_valueBehind 64 = .ok (.iand, 1) := by decide +kernel
theorem dX2_valueBehind_65 : decode cX2_valueBehind 65 = .ok (.istore 4, 2) := by decide +kernel
theorem dX2_valueBehind_67 : decode cX2_valueBehind 67 = .ok (.aload_n 0, 1) := by decide +kernel
theorem dX2_valueBehind_68 : decode cX2_valueBehind 68 = .ok (.getfield 19, 3) := by decide +kernel
theorem dX2_valueBehind_71 : decode cX2_valueBehind 71 = .ok (.iload 4, 2) := by decide +kernel
theorem dX2_valueBehind_73 : decode cX2_valueBehind 73 = .ok (.iload_n 1, 1) := by decide +kernel
theorem dX2_valueBehind_74 : decode cX2_valueBehind 74 = .ok (.invokevirtual 66, 3) := by decide +kernel
theorem dX2_valueBehind_77 : decode cX2_valueBehind 77 = .ok (.istore 5, 2) := by decide +kernel
theorem dX2_valueBehind_79 : decode cX2_valueBehind 79 = .ok (.aload_n 0, 1) := by decide +kernel
theorem dX2_valueBehind_80 : decode cX2_valueBehind 80 = .ok (.getfield 19, 3) := by decide +kernel
theorem dX2_valueBehind_83 : decode cX2_valueBehind 83 = .ok (.iconst 1, 1) := by decide +kernel
theorem dX2_valueBehind_84 : decode cX2_valueBehind 84 = .ok (.iload 4, 2) := by decide +kernel
theorem dX2_valueBehind_86 : decode cX2_valueBehind 86 = .ok (.isub, 1) := by decide +kernel
theorem dX2_valueBehind_87 : decode cX2_valueBehind 87 = .ok (.iload_n 1, 1) := by decide +kernel
theorem dX2_valueBehind_88 : decode cX2_valueBehind 88 = .ok (.invokevirtual 66, 3) := by decide +kernel
theorem dX2_valueBehind_91 : decode cX2_valueBehind 91 = .ok (.istore 6, 2) := by decide +kernel
theorem dX2_valueBehind_93 : decode cX2_valueBehind 93 = .ok (.aload_n 0, 1) := by decide +kernel
theorem dX2_valueBehind_94 : decode cX2_valueBehind 94 = .ok (.getfield 31, 3) := by decide +kernel
theorem dX2_valueBehind_97 : decode cX2_valueBehind 97 = .ok (.iload_n 3, 1) := by decide +kernel
theorem dX2_valueBehind_98 : decode cX2_valueBehind 98 = .ok (.aload_n 0, 1) := by decide +kernel
theorem dX2_valueBehind_99 : decode cX2_valueBehind 99 = .ok (.getfield 23, 3) := by decide +kernel
theorem dX2_valueBehind_102 : decode cX2_valueBehind 102 = .ok (.iload 5, 2) := by decide +kernel
theorem dX2_valueBehind_104 : decode cX2_valueBehind 104 = .ok (.iload 6, 2) := by decide +kernel
theorem dX2_valueBehind_106 : decode cX2_valueBehind 106 = .ok (.iload_n 2, 1) := by decide +kernel
theorem dX2_valueBehind_107 : decode cX2_valueBehind 107 = .ok (.invokevirtual 69, 3) := by decide +kernel
theorem dX2_valueBehind_110 : decode cX2_valueBehind 110 = .ok (.iastore, 1) := by decide +kernel
theorem dX2_valueBehind_111 : decode cX2_valueBehind 111 = .ok (.aload_n 0, 1) := by decide +kernel
theorem dX2_valueBehind_112 : decode cX2_valueBehind 112 = .ok (.getfield 31, 3) := by decide +kernel
theorem dX2_valueBehind_115 : decode cX2_valueBehind 115 = .ok (.iload_n 3, 1) := by decide +kernel
theorem dX2_valueBehind_116 : decode cX2_valueBehind 116 = .ok (.iaload, 1) := by decide +kernel
theorem dX2_valueBehind_117 : decode cX2_valueBehind 117 = .ok (.ireturn, 1) := by decide +kernel
theorem dX2_leaderBehind_0 : decode cX2_leaderBehind 0 = .ok (.aload_n 0, 1) := by decide +kernel
theorem dX2_leaderBehind_1 : decode cX2_leaderBehind 1 = .ok (.iload_n 1, 1) := by decide +kernel
theorem dX2_leaderBehind_2 : decode cX2_leaderBehind 2 = .ok (.aload_n 0, 1) := by decide +kernel
theorem dX2_leaderBehind_3 : decode cX2_leaderBehind 3 = .ok (.getfield 37, 3) := by decide +kernel
theorem dX2_leaderBehind_6 : decode cX2_leaderBehind 6 = .ok (.invokevirtual 73, 3) := by decide +kernel
theorem dX2_leaderBehind_9 : decode cX2_leaderBehind 9 = .ok (.istore_n 2, 1) := by decide +kernel
theorem dX2_leaderBehind_10 : decode cX2_leaderBehind 10 = .ok (.iload_n 2, 1) := by decide +kernel
theorem dX2_leaderBehind_11 : decode cX2_leaderBehind 11 = .ok (.ifCond .ne 5, 3) := by decide +kernel
theorem dX2_leaderBehind_14 : decode cX2_leaderBehind 14 = .ok (.iconst 2, 1) := by decide +kernel
theorem dX2_leaderBehind_15 : decode cX2_leaderBehind 15 = .ok (.ireturn, 1) := by decide +kernel
theorem dX2_leaderBehind_16 : decode cX2_leaderBehind 16 = .ok (.iload_n 2, 1) := by decide +kernel
theorem dX2_leaderBehind_17 : decode cX2_leaderBehind 17 = .ok (.ifCond .le 9, 3) := by decide +kernel
theorem dX2_leaderBehind_20 : decode cX2_leaderBehind 20 = .ok (.iload_n 1, 1) := by decide +kernel
theorem dX2_leaderBehind_21 : decode cX2_leaderBehind 21 = .ok (.iconst 1, 1) := by decide +kernel
theorem dX2_leaderBehind_22 : decode cX2_leaderBehind 22 = .ok (.iand, 1) := by decide +kernel
theorem dX2_leaderBehind_23 : decode cX2_leaderBehind 23 = .ok (.goto 8, 3) := by decide +kernel
theorem dX2_leaderBehind_26 : decode cX2_leaderBehind 26 = .ok (.iconst 1, 1) := by decide +kernel
theorem dX2_leaderBehind_27 : decode cX2_leaderBehind 27 = .ok (.iload_n 1, 1) := by decide +kernel
theorem dX2_leaderBehind_28 : decode cX2_leaderBehind 28 = .ok (.iconst 1, 1) := by decide +kernel
theorem dX2_leaderBehind_29 : decode cX2_leaderBehind 29 = .ok (.iand, 1) := by decide +kernel
theorem dX2_leaderBehind_30 : decode cX2_leaderBehind 30 = .ok (.isub, 1) := by decide +kernel
theorem dX2_leaderBehind_31 : decode cX2_leaderBehind 31 = .ok (.ireturn, 1) := by decide +kernel
theorem dX2_examine_0 : decode cX2_examine 0 = .ok (.aload_n 0, 1) := by decide +kernel
theorem dX2_examine_1 : decode cX2_examine 1 = .ok (.getfield 47, 3) := by decide +kernel
theorem dX2_examine_4 : decode cX2_examine 4 = .ok (.iconst 1, 1) := by decide +kernel
theorem dX2_examine_5 : decode cX2_examine 5 = .ok (.iadd, 1) := by decide +kernel
theorem dX2_examine_6 : decode cX2_examine 6 = .ok (.istore_n 1, 1) := by decide +kernel
theorem dX2_examine_7 : decode cX2_examine 7 = .ok (.iload_n 1, 1) := by decide +kernel
theorem dX2_examine_8 : decode cX2_examine 8 = .ok (.aload_n 0, 1) := by decide +kernel
theorem dX2_examine_9 : decode cX2_examine 9 = .ok (.getfield 19, 3) := by decide +kernel
theorem dX2_examine_12 : decode cX2_examine 12 = .ok (.getfield 76, 3) := by decide +kernel
theorem dX2_examine_15 : decode cX2_examine 15 = .ok (.if_icmp .gt 85, 3) := by decide +kernel
theorem dX2_examine_18 : decode cX2_examine 18 = .ok (.aload_n 0, 1) := by decide +kernel
theorem dX2_examine_19 : decode cX2_examine 19 = .ok (.iload_n 1, 1) := by decide +kernel
theorem dX2_examine_20 : decode cX2_examine 20 = .ok (.iconst 0, 1) := by decide +kernel
theorem dX2_examine_21 : decode cX2_examine 21 = .ok (.aload_n 0, 1) := by decide +kernel
theorem dX2_examine_22 : decode cX2_examine 22 = .ok (.iload_n 1, 1) := by decide +kernel
theorem dX2_examine_23 : decode cX2_examine 23 = .ok (.invokevirtual 79, 3) := by decide +kernel
theorem dX2_examine_26 : decode cX2_examine 26 = .ok (.invokevirtual 83, 3) := by decide +kernel
theorem dX2_examine_29 : decode cX2_examine 29 = .ok (.aload_n 0, 1) := by decide +kernel
theorem dX2_examine_30 : decode cX2_examine 30 = .ok (.iload_n 1, 1) := by decide +kernel
theorem dX2_examine_31 : decode cX2_examine 31 = .ok (.iconst 1, 1) := by decide +kernel
theorem dX2_examine_32 : decode cX2_examine 32 = .ok (.aload_n 0, 1) := by decide +kernel
theorem dX2_examine_33 : decode cX2_examine 33 = .ok (.iload_n 1, 1) := by decide +kernel
theorem dX2_examine_34 : decode cX2_examine 34 = .ok (.invokevirtual 87, 3) := by decide +kernel
theorem dX2_examine_37 : decode cX2_examine 37 = .ok (.invokevirtual 83, 3) := by decide +kernel
theorem dX2_examine_40 : decode cX2_examine 40 = .ok (.aload_n 0, 1) := by decide +kernel
theorem dX2_examine_41 : decode cX2_examine 41 = .ok (.iload_n 1, 1) := by decide +kernel
theorem dX2_examine_42 : decode cX2_examine 42 = .ok (.iconst 2, 1) := by decide +kernel
theorem dX2_examine_43 : decode cX2_examine 43 = .ok (.aload_n 0, 1) := by decide +kernel
theorem dX2_examine_44 : decode cX2_examine 44 = .ok (.iload_n 1, 1) := by decide +kernel
theorem dX2_examine_45 : decode cX2_examine 45 = .ok (.invokevirtual 90, 3) := by decide +kernel
theorem dX2_examine_48 : decode cX2_examine 48 = .ok (.invokevirtual 83, 3) := by decide +kernel
theorem dX2_examine_51 : decode cX2_examine 51 = .ok (.aload_n 0, 1) := by decide +kernel
theorem dX2_examine_52 : decode cX2_examine 52 = .ok (.iload_n 1, 1) := by decide +kernel
theorem dX2_examine_53 : decode cX2_examine 53 = .ok (.iconst 3, 1) := by decide +kernel
theorem dX2_examine_54 : decode cX2_examine 54 = .ok (.aload_n 0, 1) := by decide +kernel
theorem dX2_examine_55 : decode cX2_examine 55 = .ok (.iload_n 1, 1) := by decide +kernel
theorem dX2_examine_56 : decode cX2_examine 56 = .ok (.iconst 1, 1) := by decide +kernel
theorem dX2_examine_57 : decode cX2_examine 57 = .ok (.isub, 1) := by decide +kernel
theorem dX2_examine_58 : decode cX2_examine 58 = .ok (.aload_n 0, 1) := by decide +kernel
theorem dX2_examine_59 : decode cX2_examine 59 = .ok (.getfield 37, 3) := by decide +kernel
theorem dX2_examine_62 : decode cX2_examine 62 = .ok (.invokevirtual 73, 3) := by decide +kernel
theorem dX2_examine_65 : decode cX2_examine 65 = .ok (.aload_n 0, 1) := by decide +kernel
theorem dX2_examine_66 : decode cX2_examine 66 = .ok (.iload_n 1, 1) := by decide +kernel
theorem dX2_examine_67 : decode cX2_examine 67 = .ok (.aload_n 0, 1) := by decide +kernel
theorem dX2_examine_68 : decode cX2_examine 68 = .ok (.getfield 37, 3) := by decide +kernel
theorem dX2_examine_71 : decode cX2_examine 71 = .ok (.iconst 1, 1) := by decide +kernel
theorem dX2_examine_72 : decode cX2_examine 72 = .ok (.isub, 1) := by decide +kernel
theorem dX2_examine_73 : decode cX2_examine 73 = .ok (.invokevirtual 73, 3) := by decide +kernel
theorem dX2_examine_76 : decode cX2_examine 76 = .ok (.iadd, 1) := by decide +kernel
theorem dX2_examine_77 : decode cX2_examine 77 = .ok (.invokevirtual 83, 3) := by decide +kernel
theorem dX2_examine_80 : decode cX2_examine 80 = .ok (.aload_n 0, 1) := by decide +kernel
theorem dX2_examine_81 : decode cX2_examine 81 = .ok (.iload_n 1, 1) := by decide +kernel
theorem dX2_examine_82 : decode cX2_examine 82 = .ok (.iconst 4, 1) := by decide +kernel
theorem dX2_examine_83 : decode cX2_examine 83 = .ok (.aload_n 0, 1) := by decide +kernel
theorem dX2_examine_84 : decode cX2_examine 84 = .ok (.iload_n 1, 1) := by decide +kernel
theorem dX2_examine_85 : decode cX2_examine 85 = .ok (.invokevirtual 93, 3) := by decide +kernel
theorem dX2_examine_88 : decode cX2_examine 88 = .ok (.invokestatic 96, 3) := by decide +kernel
theorem dX2_examine_91 : decode cX2_examine 91 = .ok (.invokevirtual 83, 3) := by decide +kernel
theorem dX2_examine_94 : decode cX2_examine 94 = .ok (.iinc 1 1, 3) := by decide +kernel
theorem dX2_examine_97 : decode cX2_examine 97 = .ok (.goto (-90), 3) := by decide +kernel
theorem dX2_examine_100 : decode cX2_examine 100 = .ok (.aload_n 0, 1) := by decide +kernel
theorem dX2_examine_101 : decode cX2_examine 101 = .ok (.aload_n 0, 1) := by decide +kernel
theorem dX2_examine_102 : decode cX2_examine 102 = .ok (.getfield 19, 3) := by decide +kernel
theorem dX2_examine_105 : decode cX2_examine 105 = .ok (.getfield 76, 3) := by decide +kernel
theorem dX2_examine_108 : decode cX2_examine 108 = .ok (.putfield 47, 3) := by decide +kernel
theorem dX2_examine_111 : decode cX2_examine 111 = .ok (.aload_n 0, 1) := by decide +kernel
theorem dX2_examine_112 : decode cX2_examine 112 = .ok (.invokevirtual 101, 3) := by decide +kernel
theorem dX2_examine_115 : decode cX2_examine 115 = .ok (.istore_n 1, 1) := by decide +kernel
theorem dX2_examine_116 : decode cX2_examine 116 = .ok (.iconst 1, 1) := by decide +kernel
theorem dX2_examine_117 : decode cX2_examine 117 = .ok (.istore_n 2, 1) := by decide +kernel
theorem dX2_examine_118 : decode cX2_examine 118 = .ok (.iload_n 2, 1) := by decide +kernel
theorem dX2_examine_119 : decode cX2_examine 119 = .ok (.aload_n 0, 1) := by decide +kernel
theorem dX2_examine_120 : decode cX2_examine 120 = .ok (.getfield 19, 3) := by decide +kernel
theorem dX2_examine_123 : decode cX2_examine 123 = .ok (.getfield 76, 3) := by decide +kernel
theorem dX2_examine_126 : decode cX2_examine 126 = .ok (.if_icmp .gt 25, 3) := by decide +kernel
theorem dX2_examine_129 : decode cX2_examine 129 = .ok (.aload_n 0, 1) := by decide +kernel
theorem dX2_examine_130 : decode cX2_examine 130 = .ok (.iload_n 2, 1) := by decide +kernel
theorem dX2_examine_131 : decode cX2_examine 131 = .ok (.iconst 5, 1) := by decide +kernel
theorem dX2_examine_132 : decode cX2_examine 132 = .ok (.iload_n 2, 1) := by decide +kernel
theorem dX2_examine_133 : decode cX2_examine 133 = .ok (.iload_n 1, 1) := by decide +kernel
theorem dX2_examine_134 : decode cX2_examine 134 = .ok (.if_icmp .ne 7, 3) := by decide +kernel
theorem dX2_examine_137 : decode cX2_examine 137 = .ok (.iconst 1, 1) := by decide +kernel
theorem dX2_examine_138 : decode cX2_examine 138 = .ok (.goto 4, 3) := by decide +kernel
theorem dX2_examine_141 : decode cX2_examine 141 = .ok (.iconst 0, 1) := by decide +kernel
theorem dX2_examine_142 : decode cX2_examine 142 = .ok (.invokevirtual 83, 3) := by decide +kernel
theorem dX2_examine_145 : decode cX2_examine 145 = .ok (.iinc 2 1, 3) := by decide +kernel
theorem dX2_examine_148 : decode cX2_examine 148 = .ok (.goto (-30), 3) := by decide +kernel
theorem dX2_examine_151 : decode cX2_examine 151 = .ok (.return_, 1) := by decide +kernel
theorem dX2_keep_0 : decode cX2_keep 0 = .ok (.iload_n 1, 1) := by decide +kernel
theorem dX2_keep_1 : decode cX2_keep 1 = .ok (.bipush 6, 2) := by decide +kernel
theorem dX2_keep_3 : decode cX2_keep 3 = .ok (.imul, 1) := by decide +kernel
theorem dX2_keep_4 : decode cX2_keep 4 = .ok (.iload_n 2, 1) := by decide +kernel
theorem dX2_keep_5 : decode cX2_keep 5 = .ok (.iadd, 1) := by decide +kernel
theorem dX2_keep_6 : decode cX2_keep 6 = .ok (.istore 4, 2) := by decide +kernel
theorem dX2_keep_8 : decode cX2_keep 8 = .ok (.iload 4, 2) := by decide +kernel
theorem dX2_keep_10 : decode cX2_keep 10 = .ok (.ifCond .lt 21, 3) := by decide +kernel
theorem dX2_keep_13 : decode cX2_keep 13 = .ok (.iload 4, 2) := by decide +kernel
theorem dX2_keep_15 : decode cX2_keep 15 = .ok (.aload_n 0, 1) := by decide +kernel
theorem dX2_keep_16 : decode cX2_keep 16 = .ok (.getfield 34, 3) := by decide +kernel
theorem dX2_keep_19 : decode cX2_keep 19 = .ok (.arraylength, 1) := by decide +kernel
theorem dX2_keep_20 : decode cX2_keep 20 = .ok (.if_icmp .ge 11, 3) := by decide +kernel
theorem dX2_keep_23 : decode cX2_keep 23 = .ok (.aload_n 0, 1) := by decide +kernel
theorem dX2_keep_24 : decode cX2_keep 24 = .ok (.getfield 34, 3) := by decide +kernel
theorem dX2_keep_27 : decode cX2_keep 27 = .ok (.iload 4, 2) := by decide +kernel
theorem dX2_keep_29 : decode cX2_keep 29 = .ok (.iload_n 3, 1) := by decide +kernel
theorem dX2_keep_30 : decode cX2_keep 30 = .ok (.iastore, 1) := by decide +kernel
theorem dX2_keep_31 : decode cX2_keep 31 = .ok (.return_, 1) := by decide +kernel
theorem dX2_amountOf_0 : decode cX2_amountOf 0 = .ok (.iload_n 1, 1) := by decide +kernel
theorem dX2_amountOf_1 : decode cX2_amountOf 1 = .ok (.bipush 6, 2) := by decide +kernel
theorem dX2_amountOf_3 : decode cX2_amountOf 3 = .ok (.imul, 1) := by decide +kernel
theorem dX2_amountOf_4 : decode cX2_amountOf 4 = .ok (.iload_n 2, 1) := by decide +kernel
theorem dX2_amountOf_5 : decode cX2_amountOf 5 = .ok (.iadd, 1) := by decide +kernel
theorem dX2_amountOf_6 : decode cX2_amountOf 6 = .ok (.istore_n 3, 1) := by decide +kernel
theorem dX2_amountOf_7 : decode cX2_amountOf 7 = .ok (.iload_n 3, 1) := by decide +kernel
theorem dX2_amountOf_8 : decode cX2_amountOf 8 = .ok (.ifCond .lt 21, 3) := by decide +kernel
theorem dX2_amountOf_11 : decode cX2_amountOf 11 = .ok (.iload_n 3, 1) := by decide +kernel
theorem dX2_amountOf_12 : decode cX2_amountOf 12 = .ok (.aload_n 0, 1) := by decide +kernel
theorem dX2_amountOf_13 : decode cX2_amountOf 13 = .ok (.getfield 34, 3) := by decide +kernel
theorem dX2_amountOf_16 : decode cX2_amountOf 16 = .ok (.arraylength, 1) := by decide +kernel
theorem dX2_amountOf_17 : decode cX2_amountOf 17 = .ok (.if_icmp .ge 12, 3) := by decide +kernel
theorem dX2_amountOf_20 : decode cX2_amountOf 20 = .ok (.aload_n 0, 1) := by decide +kernel
theorem dX2_amountOf_21 : decode cX2_amountOf 21 = .ok (.getfield 34, 3) := by decide +kernel
theorem dX2_amountOf_24 : decode cX2_amountOf 24 = .ok (.iload_n 3, 1) := by decide +kernel
theorem dX2_amountOf_25 : decode cX2_amountOf 25 = .ok (.iaload, 1) := by decide +kernel
theorem dX2_amountOf_26 : decode cX2_amountOf 26 = .ok (.goto 4, 3) := by decide +kernel
theorem dX2_amountOf_29 : decode cX2_amountOf 29 = .ok (.iconst 0, 1) := by decide +kernel
theorem dX2_amountOf_30 : decode cX2_amountOf 30 = .ok (.ireturn, 1) := by decide +kernel
theorem dX2_worthOf_0 : decode cX2_worthOf 0 = .ok (.iconst 0, 1) := by decide +kernel
theorem dX2_worthOf_1 : decode cX2_worthOf 1 = .ok (.istore_n 2, 1) := by decide +kernel
theorem dX2_worthOf_2 : decode cX2_worthOf 2 = .ok (.iconst 0, 1) := by decide +kernel
theorem dX2_worthOf_3 : decode cX2_worthOf 3 = .ok (.istore_n 3, 1) := by decide +kernel
theorem dX2_worthOf_4 : decode cX2_worthOf 4 = .ok (.iload_n 3, 1) := by decide +kernel
theorem dX2_worthOf_5 : decode cX2_worthOf 5 = .ok (.aload_n 0, 1) := by decide +kernel
theorem dX2_worthOf_6 : decode cX2_worthOf 6 = .ok (.getfield 27, 3) := by decide +kernel
theorem dX2_worthOf_9 : decode cX2_worthOf 9 = .ok (.arraylength, 1) := by decide +kernel
theorem dX2_worthOf_10 : decode cX2_worthOf 10 = .ok (.if_icmp .ge 25, 3) := by decide +kernel
theorem dX2_worthOf_13 : decode cX2_worthOf 13 = .ok (.iload_n 2, 1) := by decide +kernel
theorem dX2_worthOf_14 : decode cX2_worthOf 14 = .ok (.aload_n 0, 1) := by decide +kernel
theorem dX2_worthOf_15 : decode cX2_worthOf 15 = .ok (.iload_n 1, 1) := by decide +kernel
theorem dX2_worthOf_16 : decode cX2_worthOf 16 = .ok (.iload_n 3, 1) := by decide +kernel
theorem dX2_worthOf_17 : decode cX2_worthOf 17 = .ok (.invokevirtual 104, 3) := by decide +kernel
theorem dX2_worthOf_20 : decode cX2_worthOf 20 = .ok (.aload_n 0, 1) := by decide +kernel
theorem dX2_worthOf_21 : decode cX2_worthOf 21 = .ok (.getfield 27, 3) := by decide +kernel
theorem dX2_worthOf_24 : decode cX2_worthOf 24 = .ok (.iload_n 3, 1) := by decide +kernel
theorem dX2_worthOf_25 : decode cX2_worthOf 25 = .ok (.iaload, 1) := by decide +kernel
theorem dX2_worthOf_26 : decode cX2_worthOf 26 = .ok (.imul, 1) := by decide +kernel
theorem dX2_worthOf_27 : decode cX2_worthOf 27 = .ok (.iadd, 1) := by decide +kernel
theorem dX2_worthOf_28 : decode cX2_worthOf 28 = .ok (.istore_n 2, 1) := by decide +kernel
theorem dX2_worthOf_29 : decode cX2_worthOf 29 = .ok (.iinc 3 1, 3) := by decide +kernel
theorem dX2_worthOf_32 : decode cX2_worthOf 32 = .ok (.goto (-28), 3) := by decide +kernel
theorem dX2_worthOf_35 : decode cX2_worthOf 35 = .ok (.iload_n 2, 1) := by decide +kernel
theorem dX2_worthOf_36 : decode cX2_worthOf 36 = .ok (.ireturn, 1) := by decide +kernel
theorem dX2_winOf_0 : decode cX2_winOf 0 = .ok (.aload_n 0, 1) := by decide +kernel
theorem dX2_winOf_1 : decode cX2_winOf 1 = .ok (.getfield 19, 3) := by decide +kernel
theorem dX2_winOf_4 : decode cX2_winOf 4 = .ok (.iload_n 1, 1) := by decide +kernel
theorem dX2_winOf_5 : decode cX2_winOf 5 = .ok (.invokevirtual 56, 3) := by decide +kernel
theorem dX2_winOf_8 : decode cX2_winOf 8 = .ok (.ifCond .eq 23, 3) := by decide +kernel
theorem dX2_winOf_11 : decode cX2_winOf 11 = .ok (.aload_n 0, 1) := by decide +kernel
theorem dX2_winOf_12 : decode cX2_winOf 12 = .ok (.getfield 19, 3) := by decide +kernel
theorem dX2_winOf_15 : decode cX2_winOf 15 = .ok (.getfield 107, 3) := by decide +kernel
theorem dX2_winOf_18 : decode cX2_winOf 18 = .ok (.iload_n 1, 1) := by decide +kernel
theorem dX2_winOf_19 : decode cX2_winOf 19 = .ok (.invokestatic 110, 3) := by decide +kernel
theorem dX2_winOf_22 : decode cX2_winOf 22 = .ok (.iconst 1, 1) := by decide +kernel
theorem dX2_winOf_23 : decode cX2_winOf 23 = .ok (.iadd, 1) := by decide +kernel
theorem dX2_winOf_24 : decode cX2_winOf 24 = .ok (.if_icmp .ne 7, 3) := by decide +kernel
theorem dX2_winOf_27 : decode cX2_winOf 27 = .ok (.iconst 1, 1) := by decide +kernel
theorem dX2_winOf_28 : decode cX2_winOf 28 = .ok (.goto 4, 3) := by decide +kernel
theorem dX2_winOf_31 : decode cX2_winOf 31 = .ok (.iconst 0, 1) := by decide +kernel
theorem dX2_winOf_32 : decode cX2_winOf 32 = .ok (.ireturn, 1) := by decide +kernel
theorem dX2_threatOf_0 : decode cX2_threatOf 0 = .ok (.aload_n 0, 1) := by decide +kernel
theorem dX2_threatOf_1 : decode cX2_threatOf 1 = .ok (.getfield 19, 3) := by decide +kernel
theorem dX2_threatOf_4 : decode cX2_threatOf 4 = .ok (.iload_n 1, 1) := by decide +kernel
theorem dX2_threatOf_5 : decode cX2_threatOf 5 = .ok (.invokevirtual 56, 3) := by decide +kernel
theorem dX2_threatOf_8 : decode cX2_threatOf 8 = .ok (.ifCond .eq 7, 3) := by decide +kernel
theorem dX2_threatOf_11 : decode cX2_threatOf 11 = .ok (.iconst 0, 1) := by decide +kernel
theorem dX2_threatOf_12 : decode cX2_threatOf 12 = .ok (.goto 15, 3) := by decide +kernel
theorem dX2_threatOf_15 : decode cX2_threatOf 15 = .ok (.aload_n 0, 1) := by decide +kernel
theorem dX2_threatOf_16 : decode cX2_threatOf 16 = .ok (.iload_n 1, 1) := by decide +kernel
theorem dX2_threatOf_17 : decode cX2_threatOf 17 = .ok (.invokestatic 110, 3) := by decide +kernel
theorem dX2_threatOf_20 : decode cX2_threatOf 20 = .ok (.iload_n 1, 1) := by decide +kernel
theorem dX2_threatOf_21 : decode cX2_threatOf 21 = .ok (.invokevirtual 113, 3) := by decide +kernel
theorem dX2_threatOf_24 : decode cX2_threatOf 24 = .ok (.invokestatic 96, 3) := by decide +kernel
theorem dX2_threatOf_27 : decode cX2_threatOf 27 = .ok (.ireturn, 1) := by decide +kernel
theorem dX2_forcedOf_0 : decode cX2_forcedOf 0 = .ok (.aload_n 0, 1) := by decide +kernel
theorem dX2_forcedOf_1 : decode cX2_forcedOf 1 = .ok (.getfield 19, 3) := by decide +kernel
theorem dX2_forcedOf_4 : decode cX2_forcedOf 4 = .ok (.iload_n 1, 1) := by decide +kernel
theorem dX2_forcedOf_5 : decode cX2_forcedOf 5 = .ok (.invokestatic 110, 3) := by decide +kernel
theorem dX2_forcedOf_8 : decode cX2_forcedOf 8 = .ok (.iload_n 1, 1) := by decide +kernel
theorem dX2_forcedOf_9 : decode cX2_forcedOf 9 = .ok (.iconst 1, 1) := by decide +kernel
theorem dX2_forcedOf_10 : decode cX2_forcedOf 10 = .ok (.isub, 1) := by decide +kernel
theorem dX2_forcedOf_11 : decode cX2_forcedOf 11 = .ok (.invokevirtual 66, 3) := by decide +kernel
theorem dX2_forcedOf_14 : decode cX2_forcedOf 14 = .ok (.istore_n 2, 1) := by decide +kernel
theorem dX2_forcedOf_15 : decode cX2_forcedOf 15 = .ok (.aload_n 0, 1) := by decide +kernel
theorem dX2_forcedOf_16 : decode cX2_forcedOf 16 = .ok (.getfield 19, 3) := by decide +kernel
theorem dX2_forcedOf_19 : decode cX2_forcedOf 19 = .ok (.iconst 1, 1) := by decide +kernel
theorem dX2_forcedOf_20 : decode cX2_forcedOf 20 = .ok (.iload_n 1, 1) := by decide +kernel
theorem dX2_forcedOf_21 : decode cX2_forcedOf 21 = .ok (.invokestatic 110, 3) := by decide +kernel
theorem dX2_forcedOf_24 : decode cX2_forcedOf 24 = .ok (.isub, 1) := by decide +kernel
theorem dX2_forcedOf_25 : decode cX2_forcedOf 25 = .ok (.iload_n 1, 1) := by decide +kernel
theorem dX2_forcedOf_26 : decode cX2_forcedOf 26 = .ok (.iconst 1, 1) := by decide +kernel
theorem dX2_forcedOf_27 : decode cX2_forcedOf 27 = .ok (.isub, 1) := by decide +kernel
theorem dX2_forcedOf_28 : decode cX2_forcedOf 28 = .ok (.invokevirtual 66, 3) := by decide +kernel
theorem dX2_forcedOf_31 : decode cX2_forcedOf 31 = .ok (.istore_n 3, 1) := by decide +kernel
theorem dX2_forcedOf_32 : decode cX2_forcedOf 32 = .ok (.aload_n 0, 1) := by decide +kernel
theorem dX2_forcedOf_33 : decode cX2_forcedOf 33 = .ok (.getfield 13, 3) := by decide +kernel
theorem dX2_forcedOf_36 : decode cX2_forcedOf 36 = .ok (.iload_n 2, 1) := by decide +kernel
theorem dX2_forcedOf_37 : decode cX2_forcedOf 37 = .ok (.iload_n 3, 1) := by decide +kernel
theorem dX2_forcedOf_38 : decode cX2_forcedOf 38 = .ok (.ior, 1) := by decide +kernel
theorem dX2_forcedOf_39 : decode cX2_forcedOf 39 = .ok (.invokevirtual 116, 3) := by decide +kernel
theorem dX2_forcedOf_42 : decode cX2_forcedOf 42 = .ok (.aload_n 0, 1) := by decide +kernel
theorem dX2_forcedOf_43 : decode cX2_forcedOf 43 = .ok (.getfield 19, 3) := by decide +kernel
theorem dX2_forcedOf_46 : decode cX2_forcedOf 46 = .ok (.iload_n 1, 1) := by decide +kernel
theorem dX2_forcedOf_47 : decode cX2_forcedOf 47 = .ok (.invokevirtual 119, 3) := by decide +kernel
theorem dX2_forcedOf_50 : decode cX2_forcedOf 50 = .ok (.iconst (-1), 1) := by decide +kernel
theorem dX2_forcedOf_51 : decode cX2_forcedOf 51 = .ok (.ixor, 1) := by decide +kernel
theorem dX2_forcedOf_52 : decode cX2_forcedOf 52 = .ok (.iand, 1) := by decide +kernel
theorem dX2_forcedOf_53 : decode cX2_forcedOf 53 = .ok (.istore 4, 2) := by decide +kernel
theorem dX2_forcedOf_55 : decode cX2_forcedOf 55 = .ok (.iload 4, 2) := by decide +kernel
theorem dX2_forcedOf_57 : decode cX2_forcedOf 57 = .ok (.ifCond .eq 18, 3) := by decide +kernel
theorem dX2_forcedOf_60 : decode cX2_forcedOf 60 = .ok (.aload_n 0, 1) := by decide +kernel
theorem dX2_forcedOf_61 : decode cX2_forcedOf 61 = .ok (.iload_n 1, 1) := by decide +kernel
theorem dX2_forcedOf_62 : decode cX2_forcedOf 62 = .ok (.aload_n 0, 1) := by decide +kernel
theorem dX2_forcedOf_63 : decode cX2_forcedOf 63 = .ok (.getfield 37, 3) := by decide +kernel
theorem dX2_forcedOf_66 : decode cX2_forcedOf 66 = .ok (.iconst 1, 1) := by decide +kernel
theorem dX2_forcedOf_67 : decode cX2_forcedOf 67 = .ok (.isub, 1) := by decide +kernel
theorem dX2_forcedOf_68 : decode cX2_forcedOf 68 = .ok (.invokevirtual 73, 3) := by decide +kernel
theorem dX2_forcedOf_71 : decode cX2_forcedOf 71 = .ok (.iconst 1, 1) := by decide +kernel
theorem dX2_forcedOf_72 : decode cX2_forcedOf 72 = .ok (.if_icmp .ne 5, 3) := by decide +kernel
theorem dX2_forcedOf_75 : decode cX2_forcedOf 75 = .ok (.iconst 0, 1) := by decide +kernel
theorem dX2_forcedOf_76 : decode cX2_forcedOf 76 = .ok (.ireturn, 1) := by decide +kernel
theorem dX2_forcedOf_77 : decode cX2_forcedOf 77 = .ok (.aload_n 0, 1) := by decide +kernel
theorem dX2_forcedOf_78 : decode cX2_forcedOf 78 = .ok (.getfield 23, 3) := by decide +kernel
theorem dX2_forcedOf_81 : decode cX2_forcedOf 81 = .ok (.iload_n 2, 1) := by decide +kernel
theorem dX2_forcedOf_82 : decode cX2_forcedOf 82 = .ok (.iload_n 3, 1) := by decide +kernel
theorem dX2_forcedOf_83 : decode cX2_forcedOf 83 = .ok (.iload 4, 2) := by decide +kernel
theorem dX2_forcedOf_85 : decode cX2_forcedOf 85 = .ok (.aload_n 0, 1) := by decide +kernel
theorem dX2_forcedOf_86 : decode cX2_forcedOf 86 = .ok (.getfield 37, 3) := by decide +kernel
theorem dX2_forcedOf_89 : decode cX2_forcedOf 89 = .ok (.iconst 1, 1) := by decide +kernel
theorem dX2_forcedOf_90 : decode cX2_forcedOf 90 = .ok (.isub, 1) := by decide +kernel
theorem dX2_forcedOf_91 : decode cX2_forcedOf 91 = .ok (.iconst 0, 1) := by decide +kernel
theorem dX2_forcedOf_92 : decode cX2_forcedOf 92 = .ok (.invokevirtual 122, 3) := by decide +kernel
theorem dX2_forcedOf_95 : decode cX2_forcedOf 95 = .ok (.ifCond .ne 7, 3) := by decide +kernel
theorem dX2_forcedOf_98 : decode cX2_forcedOf 98 = .ok (.iconst 1, 1) := by decide +kernel
theorem dX2_forcedOf_99 : decode cX2_forcedOf 99 = .ok (.goto 4, 3) := by decide +kernel
theorem dX2_forcedOf_102 : decode cX2_forcedOf 102 = .ok (.iconst 0, 1) := by decide +kernel
theorem dX2_forcedOf_103 : decode cX2_forcedOf 103 = .ok (.ireturn, 1) := by decide +kernel
theorem dX2_missedBy_0 : decode cX2_missedBy 0 = .ok (.aload_n 0, 1) := by decide +kernel
theorem dX2_missedBy_1 : decode cX2_missedBy 1 = .ok (.iload_n 1, 1) := by decide +kernel
theorem dX2_missedBy_2 : decode cX2_missedBy 2 = .ok (.invokestatic 110, 3) := by decide +kernel
theorem dX2_missedBy_5 : decode cX2_missedBy 5 = .ok (.iload_n 1, 1) := by decide +kernel
theorem dX2_missedBy_6 : decode cX2_missedBy 6 = .ok (.iconst 1, 1) := by decide +kernel
theorem dX2_missedBy_7 : decode cX2_missedBy 7 = .ok (.isub, 1) := by decide +kernel
theorem dX2_missedBy_8 : decode cX2_missedBy 8 = .ok (.invokevirtual 113, 3) := by decide +kernel
theorem dX2_missedBy_11 : decode cX2_missedBy 11 = .ok (.istore_n 2, 1) := by decide +kernel
theorem dX2_missedBy_12 : decode cX2_missedBy 12 = .ok (.iload_n 2, 1) := by decide +kernel
theorem dX2_missedBy_13 : decode cX2_missedBy 13 = .ok (.aload_n 0, 1) := by decide +kernel
theorem dX2_missedBy_14 : decode cX2_missedBy 14 = .ok (.getfield 19, 3) := by decide +kernel
theorem dX2_missedBy_17 : decode cX2_missedBy 17 = .ok (.iload_n 1, 1) := by decide +kernel
theorem dX2_missedBy_18 : decode cX2_missedBy 18 = .ok (.invokevirtual 119, 3) := by decide +kernel
theorem dX2_missedBy_21 : decode cX2_missedBy 21 = .ok (.iand, 1) := by decide +kernel
theorem dX2_missedBy_22 : decode cX2_missedBy 22 = .ok (.ifCond .eq 7, 3) := by decide +kernel
theorem dX2_missedBy_25 : decode cX2_missedBy 25 = .ok (.iconst 0, 1) := by decide +kernel
theorem dX2_missedBy_26 : decode cX2_missedBy 26 = .ok (.goto 4, 3) := by decide +kernel
theorem dX2_missedBy_29 : decode cX2_missedBy 29 = .ok (.iload_n 2, 1) := by decide +kernel
theorem dX2_missedBy_30 : decode cX2_missedBy 30 = .ok (.ireturn, 1) := by decide +kernel
theorem dX2_winningFor_0 : decode cX2_winningFor 0 = .ok (.aload_n 0, 1) := by decide +kernel
theorem dX2_winningFor_1 : decode cX2_winningFor 1 = .ok (.getfield 19, 3) := by decide +kernel
theorem dX2_winningFor_4 : decode cX2_winningFor 4 = .ok (.iload_n 1, 1) := by decide +kernel
theorem dX2_winningFor_5 : decode cX2_winningFor 5 = .ok (.iload_n 2, 1) := by decide +kernel
theorem dX2_winningFor_6 : decode cX2_winningFor 6 = .ok (.invokevirtual 66, 3) := by decide +kernel
theorem dX2_winningFor_9 : decode cX2_winningFor 9 = .ok (.istore_n 3, 1) := by decide +kernel
theorem dX2_winningFor_10 : decode cX2_winningFor 10 = .ok (.aload_n 0, 1) := by decide +kernel
theorem dX2_winningFor_11 : decode cX2_winningFor 11 = .ok (.getfield 13, 3) := by decide +kernel
theorem dX2_winningFor_14 : decode cX2_winningFor 14 = .ok (.iload_n 3, 1) := by decide +kernel
theorem dX2_winningFor_15 : decode cX2_winningFor 15 = .ok (.aload_n 0, 1) := by decide +kernel
theorem dX2_winningFor_16 : decode cX2_winningFor 16 = .ok (.getfield 19, 3) := by decide +kernel
theorem dX2_winningFor_19 : decode cX2_winningFor 19 = .ok (.iconst 1, 1) := by decide +kernel
theorem dX2_winningFor_20 : decode cX2_winningFor 20 = .ok (.iload_n 1, 1) := by decide +kernel
theorem dX2_winningFor_21 : decode cX2_winningFor 21 = .ok (.isub, 1) := by decide +kernel
theorem dX2_winningFor_22 : decode cX2_winningFor 22 = .ok (.iload_n 2, 1) := by decide +kernel
theorem dX2_winningFor_23 : decode cX2_winningFor 23 = .ok (.invokevirtual 66, 3) := by decide +kernel
theorem dX2_winningFor_26 : decode cX2_winningFor 26 = .ok (.ior, 1) := by decide +kernel
theorem dX2_winningFor_27 : decode cX2_winningFor 27 = .ok (.invokevirtual 116, 3) := by decide +kernel
theorem dX2_winningFor_30 : decode cX2_winningFor 30 = .ok (.istore 4, 2) := by decide +kernel
theorem dX2_winningFor_32 : decode cX2_winningFor 32 = .ok (.aload_n 0, 1) := by decide +kernel
theorem dX2_winningFor_33 : decode cX2_winningFor 33 = .ok (.getfield 13, 3) := by decide +kernel
theorem dX2_winningFor_36 : decode cX2_winningFor 36 = .ok (.getfield 126, 3) := by decide +kernel
theorem dX2_winningFor_39 : decode cX2_winningFor 39 = .ok (.ifCond .eq 7, 3) := by decide +kernel
theorem dX2_winningFor_42 : decode cX2_winningFor 42 = .ok (.iconst 0, 1) := by decide +kernel
theorem dX2_winningFor_43 : decode cX2_winningFor 43 = .ok (.goto 14, 3) := by decide +kernel
theorem dX2_winningFor_46 : decode cX2_winningFor 46 = .ok (.aload_n 0, 1) := by decide +kernel
theorem dX2_winningFor_47 : decode cX2_winningFor 47 = .ok (.getfield 13, 3) := by decide +kernel
theorem dX2_winningFor_50 : decode cX2_winningFor 50 = .ok (.iload_n 3, 1) := by decide +kernel
theorem dX2_winningFor_51 : decode cX2_winningFor 51 = .ok (.invokevirtual 130, 3) := by decide +kernel
theorem dX2_winningFor_54 : decode cX2_winningFor 54 = .ok (.iload 4, 2) := by decide +kernel
theorem dX2_winningFor_56 : decode cX2_winningFor 56 = .ok (.iand, 1) := by decide +kernel
theorem dX2_winningFor_57 : decode cX2_winningFor 57 = .ok (.ireturn, 1) := by decide +kernel
theorem dX2_turningMove_0 : decode cX2_turningMove 0 = .ok (.iconst 0, 1) := by decide +kernel
theorem dX2_turningMove_1 : decode cX2_turningMove 1 = .ok (.istore_n 1, 1) := by decide +kernel
theorem dX2_turningMove_2 : decode cX2_turningMove 2 = .ok (.aload_n 0, 1) := by decide +kernel
theorem dX2_turningMove_3 : decode cX2_turningMove 3 = .ok (.aload_n 0, 1) := by decide +kernel
theorem dX2_turningMove_4 : decode cX2_turningMove 4 = .ok (.getfield 19, 3) := by decide +kernel
theorem dX2_turningMove_7 : decode cX2_turningMove 7 = .ok (.getfield 76, 3) := by decide +kernel
theorem dX2_turningMove_10 : decode cX2_turningMove 10 = .ok (.invokevirtual 133, 3) := by decide +kernel
theorem dX2_turningMove_13 : decode cX2_turningMove 13 = .ok (.istore_n 2, 1) := by decide +kernel
theorem dX2_turningMove_14 : decode cX2_turningMove 14 = .ok (.aload_n 0, 1) := by decide +kernel
theorem dX2_turningMove_15 : decode cX2_turningMove 15 = .ok (.getfield 19, 3) := by decide +kernel
theorem dX2_turningMove_18 : decode cX2_turningMove 18 = .ok (.getfield 76, 3) := by decide +kernel
theorem dX2_turningMove_21 : decode cX2_turningMove 21 = .ok (.istore_n 3, 1) := by decide +kernel
theorem dX2_turningMove_22 : decode cX2_turningMove 22 = .ok (.iload_n 3, 1) := by decide +kernel
theorem dX2_turningMove_23 : decode cX2_turningMove 23 = .ok (.iconst 1, 1) := by decide +kernel
theorem dX2_turningMove_24 : decode cX2_turningMove 24 = .ok (.if_icmp .lt 28, 3) := by decide +kernel
theorem dX2_turningMove_27 : decode cX2_turningMove 27 = .ok (.iload_n 2, 1) := by decide +kernel
theorem dX2_turningMove_28 : decode cX2_turningMove 28 = .ok (.iconst 2, 1) := by decide +kernel
theorem dX2_turningMove_29 : decode cX2_turningMove 29 = .ok (.if_icmp .eq 23, 3) := by decide +kernel
theorem dX2_turningMove_32 : decode cX2_turningMove 32 = .ok (.aload_n 0, 1) := by decide +kernel
theorem dX2_turningMove_33 : decode cX2_turningMove 33 = .ok (.iload_n 3, 1) := by decide +kernel
theorem dX2_turningMove_34 : decode cX2_turningMove 34 = .ok (.invokevirtual 133, 3) := by decide +kernel
theorem dX2_turningMove_37 : decode cX2_turningMove 37 = .ok (.iload_n 2, 1) := by decide +kernel
theorem dX2_turningMove_38 : decode cX2_turningMove 38 = .ok (.if_icmp .eq 6, 3) := by decide +kernel
theorem dX2_turningMove_41 : decode cX2_turningMove 41 = .ok (.goto 11, 3) := by decide +kernel
theorem dX2_turningMove_44 : decode cX2_turningMove 44 = .ok (.iload_n 3, 1) := by decide +kernel
theorem dX2_turningMove_45 : decode cX2_turningMove 45 = .ok (.istore_n 1, 1) := by decide +kernel
theorem dX2_turningMove_46 : decode cX2_turningMove 46 = .ok (.iinc 3 (-1), 3) := by decide +kernel
theorem dX2_turningMove_49 : decode cX2_turningMove 49 = .ok (.goto (-27), 3) := by decide +kernel
theorem dX2_turningMove_52 : decode cX2_turningMove 52 = .ok (.iload_n 1, 1) := by decide +kernel
theorem dX2_turningMove_53 : decode cX2_turningMove 53 = .ok (.ireturn, 1) := by decide +kernel
theorem dX2_makerOf_0 : decode cX2_makerOf 0 = .ok (.iconst 1, 1) := by decide +kernel
theorem dX2_makerOf_1 : decode cX2_makerOf 1 = .ok (.iload_n 0, 1) := by decide +kernel
theorem dX2_makerOf_2 : decode cX2_makerOf 2 = .ok (.iconst 1, 1) := by decide +kernel
theorem dX2_makerOf_3 : decode cX2_makerOf 3 = .ok (.iand, 1) := by decide +kernel
theorem dX2_makerOf_4 : decode cX2_makerOf 4 = .ok (.isub, 1) := by decide +kernel
theorem dX2_makerOf_5 : decode cX2_makerOf 5 = .ok (.ireturn, 1) := by decide +kernel
theorem dX3_init_0 : decode cX3_init 0 = .ok (.aload_n 0, 1) := by decide +kernel
theorem dX3_init_1 : decode cX3_init 1 = .ok (.invokespecial 1, 3) := by decide +kernel
theorem dX3_init_4 : decode cX3_init 4 = .ok (.aload_n 0, 1) := by decide +kernel
theorem dX3_init_5 : decode cX3_init 5 = .ok (.aload_n 1, 1) := by decide +kernel
theorem dX3_init_6 : decode cX3_init 6 = .ok (.putfield 7, 3) := by decide +kernel
theorem dX3_init_9 : decode cX3_init 9 = .ok (.aload_n 0, 1) := by decide +kernel
theorem dX3_init_10 : decode cX3_init 10 = .ok (.bipush 16, 2) := by decide +kernel
theorem dX3_init_12 : decode cX3_init 12 = .ok (.newarray .int, 2) := by decide +kernel
theorem dX3_init_14 : decode cX3_init 14 = .ok (.putfield 15, 3) := by decide +kernel
theorem dX3_init_17 : decode cX3_init 17 = .ok (.return_, 1) := by decide +kernel
theorem dX3_clear_0 : decode cX3_clear 0 = .ok (.aload_n 0, 1) := by decide +kernel
theorem dX3_clear_1 : decode cX3_clear 1 = .ok (.iconst 0, 1) := by decide +kernel
theorem dX3_clear_2 : decode cX3_clear 2 = .ok (.putfield 19, 3) := by decide +kernel
theorem dX3_clear_5 : decode cX3_clear 5 = .ok (.aload_n 0, 1) := by decide +kernel
theorem dX3_clear_6 : decode cX3_clear 6 = .ok (.iconst 0, 1) := by decide +kernel
theorem dX3_clear_7 : decode cX3_clear 7 = .ok (.putfield 23, 3) := by decide +kernel
theorem dX3_clear_10 : decode cX3_clear 10 = .ok (.return_, 1) := by decide +kernel
theorem dX3_addMove_0 : decode cX3_addMove 0 = .ok (.aload_n 0, 1) := by decide +kernel
theorem dX3_addMove_1 : decode cX3_addMove 1 = .ok (.iconst 0, 1) := by decide +kernel
theorem dX3_addMove_2 : decode cX3_addMove 2 = .ok (.aload_n 0, 1) := by decide +kernel
theorem dX3_addMove_3 : decode cX3_addMove 3 = .ok (.getfield 19, 3) := by decide +kernel
theorem dX3_addMove_6 : decode cX3_addMove 6 = .ok (.invokevirtual 26, 3) := by decide +kernel
theorem dX3_addMove_9 : decode cX3_addMove 9 = .ok (.aload_n 0, 1) := by decide +kernel
theorem dX3_addMove_10 : decode cX3_addMove 10 = .ok (.iconst 1, 1) := by decide +kernel
theorem dX3_addMove_11 : decode cX3_addMove 11 = .ok (.aload_n 0, 1) := by decide +kernel
theorem dX3_addMove_12 : decode cX3_addMove 12 = .ok (.getfield 19, 3) := by decide +kernel
theorem dX3_addMove_15 : decode cX3_addMove 15 = .ok (.invokevirtual 26, 3) := by decide +kernel
theorem dX3_addMove_18 : decode cX3_addMove 18 = .ok (.ior, 1) := by decide +kernel
theorem dX3_addMove_19 : decode cX3_addMove 19 = .ok (.istore_n 2, 1) := by decide +kernel
theorem dX3_addMove_20 : decode cX3_addMove 20 = .ok (.aload_n 0, 1) := by decide +kernel
theorem dX3_addMove_21 : decode cX3_addMove 21 = .ok (.getfield 7, 3) := by decide +kernel
theorem dX3_addMove_24 : decode cX3_addMove 24 = .ok (.iload_n 2, 1) := by decide +kernel
theorem dX3_addMove_25 : decode cX3_addMove 25 = .ok (.invokevirtual 30, 3) := by decide +kernel
theorem dX3_addMove_28 : decode cX3_addMove 28 = .ok (.iload_n 1, 1) := by decide +kernel
theorem dX3_addMove_29 : decode cX3_addMove 29 = .ok (.iand, 1) := by decide +kernel
theorem dX3_addMove_30 : decode cX3_addMove 30 = .ok (.ifCond .eq 7, 3) := by decide +kernel
theorem dX3_addMove_33 : decode cX3_addMove 33 = .ok (.iconst 1, 1) := by decide +kernel
theorem dX3_addMove_34 : decode cX3_addMove 34 = .ok (.goto 4, 3) := by decide +kernel
theorem dX3_addMove_37 : decode cX3_addMove 37 = .ok (.iconst 0, 1) := by decide +kernel
theorem dX3_addMove_38 : decode cX3_addMove 38 = .ok (.istore_n 3, 1) := by decide +kernel
theorem dX3_addMove_39 : decode cX3_addMove 39 = .ok (.iload_n 3, 1) := by decide +kernel
theorem dX3_addMove_40 : decode cX3_addMove 40 = .ok (.ifCond .eq 22, 3) := by decide +kernel
theorem dX3_addMove_43 : decode cX3_addMove 43 = .ok (.aload_n 0, 1) := by decide +kernel
theorem dX3_addMove_44 : decode cX3_addMove 44 = .ok (.getfield 23, 3) := by decide +kernel
theorem dX3_addMove_47 : decode cX3_addMove 47 = .ok (.ifCond .ne 15, 3) := by decide +kernel
theorem dX3_addMove_50 : decode cX3_addMove 50 = .ok (.aload_n 0, 1) := by decide +kernel
theorem dX3_addMove_51 : decode cX3_addMove 51 = .ok (.getfield 19, 3) := by decide +kernel
theorem dX3_addMove_54 : decode cX3_addMove 54 = .ok (.aload_n 0, 1) := by decide +kernel
theorem dX3_addMove_55 : decode cX3_addMove 55 = .ok (.getfield 15, 3) := by decide +kernel
theorem dX3_addMove_58 : decode cX3_addMove 58 = .ok (.arraylength, 1) := by decide +kernel
theorem dX3_addMove_59 : decode cX3_addMove 59 = .ok (.if_icmp .lt 5, 3) := by decide +kernel
theorem dX3_addMove_62 : decode cX3_addMove 62 = .ok (.iconst 0, 1) := by decide +kernel
theorem dX3_addMove_63 : decode cX3_addMove 63 = .ok (.ireturn, 1) := by decide +kernel
theorem dX3_addMove_64 : decode cX3_addMove 64 = .ok (.aload_n 0, 1) := by decide +kernel
theorem dX3_addMove_65 : decode cX3_addMove 65 = .ok (.getfield 19, 3) := by decide +kernel
theorem dX3_addMove_68 : decode cX3_addMove 68 = .ok (.iconst 1, 1) := by decide +kernel
theorem dX3_addMove_69 : decode cX3_addMove 69 = .ok (.iand, 1) := by decide +kernel
theorem dX3_addMove_70 : decode cX3_addMove 70 = .ok (.istore 4, 2) := by decide +kernel
theorem dX3_addMove_72 : decode cX3_addMove 72 = .ok (.aload_n 0, 1) := by decide +kernel
theorem dX3_addMove_73 : decode cX3_addMove 73 = .ok (.getfield 7, 3) := by decide +kernel
theorem dX3_addMove_76 : decode cX3_addMove 76 = .ok (.aload_n 0, 1) := by decide +kernel
theorem dX3_addMove_77 : decode cX3_addMove 77 = .ok (.iload 4, 2) := by decide +kernel
theorem dX3_addMove_79 : decode cX3_addMove 79 = .ok (.aload_n 0, 1) := by decide +kernel
theorem dX3_addMove_80 : decode cX3_addMove 80 = .ok (.getfield 19, 3) := by decide +kernel
theorem dX3_addMove_83 : decode cX3_addMove 83 = .ok (.invokevirtual 26, 3) := by decide +kernel
theorem dX3_addMove_86 : decode cX3_addMove 86 = .ok (.invokevirtual 34, 3) := by decide +kernel
theorem dX3_addMove_89 : decode cX3_addMove 89 = .ok (.iload_n 1, 1) := by decide +kernel
theorem dX3_addMove_90 : decode cX3_addMove 90 = .ok (.iand, 1) := by decide +kernel
theorem dX3_addMove_91 : decode cX3_addMove 91 = .ok (.ifCond .eq 7, 3) := by decide +kernel
theorem dX3_addMove_94 : decode cX3_addMove 94 = .ok (.iconst 1, 1) := by decide +kernel
theorem dX3_addMove_95 : decode cX3_addMove 95 = .ok (.goto 4, 3) := by decide +kernel
theorem dX3_addMove_98 : decode cX3_addMove 98 = .ok (.iconst 0, 1) := by decide +kernel
theorem dX3_addMove_99 : decode cX3_addMove 99 = .ok (.istore 5, 2) := by decide +kernel
theorem dX3_addMove_101 : decode cX3_addMove 101 = .ok (.aload_n 0, 1) := by decide +kernel
theorem dX3_addMove_102 : decode cX3_addMove 102 = .ok (.getfield 15, 3) := by decide +kernel
theorem dX3_addMove_105 : decode cX3_addMove 105 = .ok (.aload_n 0, 1) := by decide +kernel
theorem dX3_addMove_106 : decode cX3_addMove 106 = .ok (.getfield 19, 3) := by decide +kernel
theorem dX3_addMove_109 : decode cX3_addMove 109 = .ok (.iload_n 1, 1) := by decide +kernel
theorem dX3_addMove_110 : decode cX3_addMove 110 = .ok (.iastore, 1) := by decide +kernel
theorem dX3_addMove_111 : decode cX3_addMove 111 = .ok (.aload_n 0, 1) := by decide +kernel
theorem dX3_addMove_112 : decode cX3_addMove 112 = .ok (.dup, 1) := by decide +kernel
theorem dX3_addMove_113 : decode cX3_addMove 113 = .ok (.getfield 19, 3) := by decide +kernel
theorem dX3_addMove_116 : decode cX3_addMove 116 = .ok (.iconst 1, 1) := by decide +kernel
theorem dX3_addMove_117 : decode cX3_addMove 117 = .ok (.iadd, 1) := by decide +kernel
theorem dX3_addMove_118 : decode cX3_addMove 118 = .ok (.putfield 19, 3) := by decide +kernel
theorem dX3_addMove_121 : decode cX3_addMove 121 = .ok (.iload 5, 2) := by decide +kernel
theorem dX3_addMove_123 : decode cX3_addMove 123 = .ok (.ifCond .eq 31, 3) := by decide +kernel
theorem dX3_addMove_126 : decode cX3_addMove 126 = .ok (.aload_n 0, 1) := by decide +kernel
theorem dX3_addMove_127 : decode cX3_addMove 127 = .ok (.aload_n 0, 1) := by decide +kernel
theorem dX3_addMove_128 : decode cX3_addMove 128 = .ok (.getfield 7, 3) := by decide +kernel
theorem dX3_addMove_131 : decode cX3_addMove 131 = .ok (.getfield 37, 3) := by decide +kernel
theorem dX3_addMove_134 : decode cX3_addMove 134 = .ok (.ifCond .eq 10, 3) := by decide +kernel
theorem dX3_addMove_137 : decode cX3_addMove 137 = .ok (.iconst 1, 1) := by decide +kernel
theorem dX3_addMove_138 : decode cX3_addMove 138 = .ok (.iload 4, 2) := by decide +kernel
theorem dX3_addMove_140 : decode cX3_addMove 140 = .ok (.isub, 1) := by decide +kernel
theorem dX3_addMove_141 : decode cX3_addMove 141 = .ok (.goto 5, 3) := by decide +kernel
theorem dX3_addMove_144 : decode cX3_addMove 144 = .ok (.iload 4, 2) := by decide +kernel
theorem dX3_addMove_146 : decode cX3_addMove 146 = .ok (.iconst 1, 1) := by decide +kernel
theorem dX3_addMove_147 : decode cX3_addMove 147 = .ok (.iadd, 1) := by decide +kernel
theorem dX3_addMove_148 : decode cX3_addMove 148 = .ok (.putfield 23, 3) := by decide +kernel
theorem dX3_addMove_151 : decode cX3_addMove 151 = .ok (.goto 21, 3) := by decide +kernel
theorem dX3_addMove_154 : decode cX3_addMove 154 = .ok (.aload_n 0, 1) := by decide +kernel
theorem dX3_addMove_155 : decode cX3_addMove 155 = .ok (.getfield 7, 3) := by decide +kernel
theorem dX3_addMove_158 : decode cX3_addMove 158 = .ok (.iload_n 2, 1) := by decide +kernel
theorem dX3_addMove_159 : decode cX3_addMove 159 = .ok (.iload_n 1, 1) := by decide +kernel
theorem dX3_addMove_160 : decode cX3_addMove 160 = .ok (.ior, 1) := by decide +kernel
theorem dX3_addMove_161 : decode cX3_addMove 161 = .ok (.invokevirtual 30, 3) := by decide +kernel
theorem dX3_addMove_164 : decode cX3_addMove 164 = .ok (.ifCond .ne 8, 3) := by decide +kernel
theorem dX3_addMove_167 : decode cX3_addMove 167 = .ok (.aload_n 0, 1) := by decide +kernel
theorem dX3_addMove_168 : decode cX3_addMove 168 = .ok (.iconst 3, 1) := by decide +kernel
theorem dX3_addMove_169 : decode cX3_addMove 169 = .ok (.putfield 23, 3) := by decide +kernel
theorem dX3_addMove_172 : decode cX3_addMove 172 = .ok (.iconst 1, 1) := by decide +kernel
theorem dX3_addMove_173 : decode cX3_addMove 173 = .ok (.ireturn, 1) := by decide +kernel
theorem dX3_takeBack_0 : decode cX3_takeBack 0 = .ok (.aload_n 0, 1) := by decide +kernel
theorem dX3_takeBack_1 : decode cX3_takeBack 1 = .ok (.getfield 19, 3) := by decide +kernel
theorem dX3_takeBack_4 : decode cX3_takeBack 4 = .ok (.ifCond .ne 5, 3) := by decide +kernel
theorem dX3_takeBack_7 : decode cX3_takeBack 7 = .ok (.iconst 0, 1) := by decide +kernel
theorem dX3_takeBack_8 : decode cX3_takeBack 8 = .ok (.ireturn, 1) := by decide +kernel
theorem dX3_takeBack_9 : decode cX3_takeBack 9 = .ok (.aload_n 0, 1) := by decide +kernel
theorem dX3_takeBack_10 : decode cX3_takeBack 10 = .ok (.dup, 1) := by decide +kernel
theorem dX3_takeBack_11 : decode cX3_takeBack 11 = .ok (.getfield 19, 3) := by decide +kernel
theorem dX3_takeBack_14 : decode cX3_takeBack 14 = .ok (.iconst 1, 1) := by decide +kernel
theorem dX3_takeBack_15 : decode cX3_takeBack 15 = .ok (.isub, 1) := by decide +kernel
theorem dX3_takeBack_16 : decode cX3_takeBack 16 = .ok (.putfield 19, 3) := by decide +kernel
theorem dX3_takeBack_19 : decode cX3_takeBack 19 = .ok (.aload_n 0, 1) := by decide +kernel
theorem dX3_takeBack_20 : decode cX3_takeBack 20 = .ok (.iconst 0, 1) := by decide +kernel
theorem dX3_takeBack_21 : decode cX3_takeBack 21 = .ok (.putfield 23, 3) := by decide +kernel
theorem dX3_takeBack_24 : decode cX3_takeBack 24 = .ok (.iconst 1, 1) := by decide +kernel
theorem dX3_takeBack_25 : decode cX3_takeBack 25 = .ok (.ireturn, 1) := by decide +kernel
theorem dX3_bitOfMove_0 : decode cX3_bitOfMove 0 = .ok (.iload_n 1, 1) := by decide +kernel
theorem dX3_bitOfMove_1 : decode cX3_bitOfMove 1 = .ok (.iconst 1, 1) := by decide +kernel
theorem dX3_bitOfMove_2 : decode cX3_bitOfMove 2 = .ok (.if_icmp .lt 31, 3) := by decide +kernel
theorem dX3_bitOfMove_5 : decode cX3_bitOfMove 5 = .ok (.iload_n 1, 1) := by decide +kernel
theorem dX3_bitOfMove_6 : decode cX3_bitOfMove 6 = .ok (.aload_n 0, 1) := by decide +kernel
theorem dX3_bitOfMove_7 : decode cX3_bitOfMove 7 = .ok (.getfield 19, 3) := by decide +kernel
theorem dX3_bitOfMove_10 : decode cX3_bitOfMove 10 = .ok (.if_icmp .gt 23, 3) := by decide +kernel
theorem dX3_bitOfMove_13 : decode cX3_bitOfMove 13 = .ok (.iload_n 1, 1) := by decide +kernel
theorem dX3_bitOfMove_14 : decode cX3_bitOfMove 14 = .ok (.aload_n 0, 1) := by decide +kernel
theorem dX3_bitOfMove_15 : decode cX3_bitOfMove 15 = .ok (.getfield 15, 3) := by decide +kernel
theorem dX3_bitOfMove_18 : decode cX3_bitOfMove 18 = .ok (.arraylength, 1) := by decide +kernel
theorem dX3_bitOfMove_19 : decode cX3_bitOfMove 19 = .ok (.if_icmp .gt 14, 3) := by decide +kernel
theorem dX3_bitOfMove_22 : decode cX3_bitOfMove 22 = .ok (.aload_n 0, 1) := by decide +kernel
theorem dX3_bitOfMove_23 : decode cX3_bitOfMove 23 = .ok (.getfield 15, 3) := by decide +kernel
theorem dX3_bitOfMove_26 : decode cX3_bitOfMove 26 = .ok (.iload_n 1, 1) := by decide +kernel
theorem dX3_bitOfMove_27 : decode cX3_bitOfMove 27 = .ok (.iconst 1, 1) := by decide +kernel
theorem dX3_bitOfMove_28 : decode cX3_bitOfMove 28 = .ok (.isub, 1) := by decide +kernel
theorem dX3_bitOfMove_29 : decode cX3_bitOfMove 29 = .ok (.iaload, 1) := by decide +kernel
theorem dX3_bitOfMove_30 : decode cX3_bitOfMove 30 = .ok (.goto 4, 3) := by decide +kernel
theorem dX3_bitOfMove_33 : decode cX3_bitOfMove 33 = .ok (.iconst 0, 1) := by decide +kernel
theorem dX3_bitOfMove_34 : decode cX3_bitOfMove 34 = .ok (.ireturn, 1) := by decide +kernel
theorem dX3_stonesOf_0 : decode cX3_stonesOf 0 = .ok (.iconst 0, 1) := by decide +kernel
theorem dX3_stonesOf_1 : decode cX3_stonesOf 1 = .ok (.istore_n 3, 1) := by decide +kernel
theorem dX3_stonesOf_2 : decode cX3_stonesOf 2 = .ok (.iload_n 1, 1) := by decide +kernel
theorem dX3_stonesOf_3 : decode cX3_stonesOf 3 = .ok (.iconst 1, 1) := by decide +kernel
theorem dX3_stonesOf_4 : decode cX3_stonesOf 4 = .ok (.iadd, 1) := by decide +kernel
theorem dX3_stonesOf_5 : decode cX3_stonesOf 5 = .ok (.istore 4, 2) := by decide +kernel
theorem dX3_stonesOf_7 : decode cX3_stonesOf 7 = .ok (.iload 4, 2) := by decide +kernel
theorem dX3_stonesOf_9 : decode cX3_stonesOf 9 = .ok (.iload_n 2, 1) := by decide +kernel
theorem dX3_stonesOf_10 : decode cX3_stonesOf 10 = .ok (.if_icmp .gt 25, 3) := by decide +kernel
theorem dX3_stonesOf_13 : decode cX3_stonesOf 13 = .ok (.iload 4, 2) := by decide +kernel
theorem dX3_stonesOf_15 : decode cX3_stonesOf 15 = .ok (.bipush 16, 2) := by decide +kernel
theorem dX3_stonesOf_17 : decode cX3_stonesOf 17 = .ok (.if_icmp .gt 18, 3) := by decide +kernel
theorem dX3_stonesOf_20 : decode cX3_stonesOf 20 = .ok (.iload_n 3, 1) := by decide +kernel
theorem dX3_stonesOf_21 : decode cX3_stonesOf 21 = .ok (.aload_n 0, 1) := by decide +kernel
theorem dX3_stonesOf_22 : decode cX3_stonesOf 22 = .ok (.iload 4, 2) := by decide +kernel
theorem dX3_stonesOf_24 : decode cX3_stonesOf 24 = .ok (.invokevirtual 41, 3) := by decide +kernel
theorem dX3_stonesOf_27 : decode cX3_stonesOf 27 = .ok (.ior, 1) := by decide +kernel
theorem dX3_stonesOf_28 : decode cX3_stonesOf 28 = .ok (.istore_n 3, 1) := by decide +kernel
theorem dX3_stonesOf_29 : decode cX3_stonesOf 29 = .ok (.iinc 4 2, 3) := by decide +kernel
theorem dX3_stonesOf_32 : decode cX3_stonesOf 32 = .ok (.goto (-25), 3) := by decide +kernel
theorem dX3_stonesOf_35 : decode cX3_stonesOf 35 = .ok (.iload_n 3, 1) := by decide +kernel
theorem dX3_stonesOf_36 : decode cX3_stonesOf 36 = .ok (.ireturn, 1) := by decide +kernel
theorem dX3_hasEndedBehind_0 : decode cX3_hasEndedBehind 0 = .ok (.iload_n 1, 1) := by decide +kernel
theorem dX3_hasEndedBehind_1 : decode cX3_hasEndedBehind 1 = .ok (.aload_n 0, 1) := by decide +kernel
theorem dX3_hasEndedBehind_2 : decode cX3_hasEndedBehind 2 = .ok (.getfield 19, 3) := by decide +kernel
theorem dX3_hasEndedBehind_5 : decode cX3_hasEndedBehind 5 = .ok (.if_icmp .ne 14, 3) := by decide +kernel
theorem dX3_hasEndedBehind_8 : decode cX3_hasEndedBehind 8 = .ok (.aload_n 0, 1) := by decide +kernel
theorem dX3_hasEndedBehind_9 : decode cX3_hasEndedBehind 9 = .ok (.getfield 23, 3) := by decide +kernel
theorem dX3_hasEndedBehind_12 : decode cX3_hasEndedBehind 12 = .ok (.ifCond .eq 7, 3) := by decide +kernel
theorem dX3_hasEndedBehind_15 : decode cX3_hasEndedBehind 15 = .ok (.iconst 1, 1) := by decide +kernel
theorem dX3_hasEndedBehind_16 : decode cX3_hasEndedBehind 16 = .ok (.goto 4, 3) := by decide +kernel
theorem dX3_hasEndedBehind_19 : decode cX3_hasEndedBehind 19 = .ok (.iconst 0, 1) := by decide +kernel
theorem dX3_hasEndedBehind_20 : decode cX3_hasEndedBehind 20 = .ok (.ireturn, 1) := by decide +kernel
theorem dX3_endValue_0 : decode cX3_endValue 0 = .ok (.aload_n 0, 1) := by decide +kernel
theorem dX3_endValue_1 : decode cX3_endValue 1 = .ok (.getfield 23, 3) := by decide +kernel
theorem dX3_endValue_4 : decode cX3_endValue 4 = .ok (.iconst 3, 1) := by decide +kernel
theorem dX3_endValue_5 : decode cX3_endValue 5 = .ok (.if_icmp .ne 5, 3) := by decide +kernel
theorem dX3_endValue_8 : decode cX3_endValue 8 = .ok (.iconst 0, 1) := by decide +kernel
theorem dX3_endValue_9 : decode cX3_endValue 9 = .ok (.ireturn, 1) := by decide +kernel
theorem dX3_endValue_10 : decode cX3_endValue 10 = .ok (.aload_n 0, 1) := by decide +kernel
theorem dX3_endValue_11 : decode cX3_endValue 11 = .ok (.getfield 23, 3) := by decide +kernel
theorem dX3_endValue_14 : decode cX3_endValue 14 = .ok (.aload_n 0, 1) := by decide +kernel
theorem dX3_endValue_15 : decode cX3_endValue 15 = .ok (.getfield 19, 3) := by decide +kernel
theorem dX3_endValue_18 : decode cX3_endValue 18 = .ok (.iconst 1, 1) := by decide +kernel
theorem dX3_endValue_19 : decode cX3_endValue 19 = .ok (.iand, 1) := by decide +kernel
theorem dX3_endValue_20 : decode cX3_endValue 20 = .ok (.iconst 1, 1) := by decide +kernel
theorem dX3_endValue_21 : decode cX3_endValue 21 = .ok (.iadd, 1) := by decide +kernel
theorem dX3_endValue_22 : decode cX3_endValue 22 = .ok (.if_icmp .ne 7, 3) := by decide +kernel
theorem dX3_endValue_25 : decode cX3_endValue 25 = .ok (.iconst 1, 1) := by decide +kernel
theorem dX3_endValue_26 : decode cX3_endValue 26 = .ok (.goto 4, 3) := by decide +kernel
theorem dX3_endValue_29 : decode cX3_endValue 29 = .ok (.iconst (-1), 1) := by decide +kernel
theorem dX3_endValue_30 : decode cX3_endValue 30 = .ok (.ireturn, 1) := by decide +kernel
theorem dX4_init_0 : decode cX4_init 0 = .ok (.aload_n 0, 1) := by decide +kernel
theorem dX4_init_1 : decode cX4_init 1 = .ok (.invokespecial 1, 3) := by decide +kernel
theorem dX4_init_4 : decode cX4_init 4 = .ok (.aload_n 0, 1) := by decide +kernel
theorem dX4_init_5 : decode cX4_init 5 = .ok (.aload_n 1, 1) := by decide +kernel
theorem dX4_init_6 : decode cX4_init 6 = .ok (.putfield 7, 3) := by decide +kernel
theorem dX4_init_9 : decode cX4_init 9 = .ok (.aload_n 0, 1) := by decide +kernel
theorem dX4_init_10 : decode cX4_init 10 = .ok (.aload_n 2, 1) := by decide +kernel
theorem dX4_init_11 : decode cX4_init 11 = .ok (.putfield 13, 3) := by decide +kernel
theorem dX4_init_14 : decode cX4_init 14 = .ok (.aload_n 0, 1) := by decide +kernel
theorem dX4_init_15 : decode cX4_init 15 = .ok (.aload_n 3, 1) := by decide +kernel
theorem dX4_init_16 : decode cX4_init 16 = .ok (.putfield 17, 3) := by decide +kernel
theorem dX4_init_19 : decode cX4_init 19 = .ok (.aload_n 0, 1) := by decide +kernel
theorem dX4_init_20 : decode cX4_init 20 = .ok (.new 21, 3) := by decide +kernel
theorem dX4_init_23 : decode cX4_init 23 = .ok (.dup, 1) := by decide +kernel
theorem dX4_init_24 : decode cX4_init 24 = .ok (.invokespecial 23, 3) := by decide +kernel
theorem dX4_init_27 : decode cX4_init 27 = .ok (.putfield 24, 3) := by decide +kernel
theorem dX4_init_30 : decode cX4_init 30 = .ok (.return_, 1) := by decide +kernel
theorem dX4_isLevel_0 : decode cX4_isLevel 0 = .ok (.iload_n 0, 1) := by decide +kernel
theorem dX4_isLevel_1 : decode cX4_isLevel 1 = .ok (.ifCond .eq 8, 3) := by decide +kernel
theorem dX4_isLevel_4 : decode cX4_isLevel 4 = .ok (.iload_n 0, 1) := by decide +kernel
theorem dX4_isLevel_5 : decode cX4_isLevel 5 = .ok (.iconst 1, 1) := by decide +kernel
theorem dX4_isLevel_6 : decode cX4_isLevel 6 = .ok (.if_icmp .ne 7, 3) := by decide +kernel
theorem dX4_isLevel_9 : decode cX4_isLevel 9 = .ok (.iconst 1, 1) := by decide +kernel
theorem dX4_isLevel_10 : decode cX4_isLevel 10 = .ok (.goto 4, 3) := by decide +kernel
theorem dX4_isLevel_13 : decode cX4_isLevel 13 = .ok (.iconst 0, 1) := by decide +kernel
theorem dX4_isLevel_14 : decode cX4_isLevel 14 = .ok (.ireturn, 1) := by decide +kernel
theorem dX4_writeWords_0 : decode cX4_writeWords 0 = .ok (.aload_n 1, 1) := by decide +kernel
theorem dX4_writeWords_1 : decode cX4_writeWords 1 = .ok (.iload_n 2, 1) := by decide +kernel
theorem dX4_writeWords_2 : decode cX4_writeWords 2 = .ok (.invokevirtual 28, 3) := by decide +kernel
theorem dX4_writeWords_5 : decode cX4_writeWords 5 = .ok (.aload_n 1, 1) := by decide +kernel
theorem dX4_writeWords_6 : decode cX4_writeWords 6 = .ok (.bipush 46, 2) := by decide +kernel
theorem dX4_writeWords_8 : decode cX4_writeWords 8 = .ok (.invokevirtual 32, 3) := by decide +kernel
