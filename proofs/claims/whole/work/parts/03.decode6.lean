theorem dX9_forgets_8 : decode cX9_forgets 8 = .ok (.aload_n 0, 1) := by decide +kernel
theorem dX9_forgets_9 : decode cX9_forgets 9 = .ok (.getfield 44, 3) := by decide +kernel
theorem dX9_forgets_12 : decode cX9_forgets 12 = .ok (.iload_n 1, 1) := by decide +kernel
theorem dX9_forgets_13 : decode cX9_forgets 13 = .ok (.iconst 0, 1) := by decide +kernel
theorem dX9_forgets_14 : decode cX9_forgets 14 = .ok (.bastore, 1) := by decide +kernel
theorem dX9_forgets_15 : decode cX9_forgets 15 = .ok (.iinc 1 1, 3) := by decide +kernel
theorem dX9_forgets_18 : decode cX9_forgets 18 = .ok (.goto (-16), 3) := by decide +kernel
theorem dX9_forgets_21 : decode cX9_forgets 21 = .ok (.return_, 1) := by decide +kernel
theorem dX9_leader_0 : decode cX9_leader 0 = .ok (.iload_n 1, 1) := by decide +kernel
theorem dX9_leader_1 : decode cX9_leader 1 = .ok (.iconst 0, 1) := by decide +kernel
theorem dX9_leader_2 : decode cX9_leader 2 = .ok (.aload_n 0, 1) := by decide +kernel
theorem dX9_leader_3 : decode cX9_leader 3 = .ok (.getfield 78, 3) := by decide +kernel
theorem dX9_leader_6 : decode cX9_leader 6 = .ok (.invokestatic 67, 3) := by decide +kernel
theorem dX9_leader_9 : decode cX9_leader 9 = .ok (.ifCond .ne 5, 3) := by decide +kernel
theorem dX9_leader_12 : decode cX9_leader 12 = .ok (.iconst (-1), 1) := by decide +kernel
theorem dX9_leader_13 : decode cX9_leader 13 = .ok (.ireturn, 1) := by decide +kernel
theorem dX9_leader_14 : decode cX9_leader 14 = .ok (.aload_n 0, 1) := by decide +kernel
theorem dX9_leader_15 : decode cX9_leader 15 = .ok (.getfield 44, 3) := by decide +kernel
theorem dX9_leader_18 : decode cX9_leader 18 = .ok (.iload_n 1, 1) := by decide +kernel
theorem dX9_leader_19 : decode cX9_leader 19 = .ok (.baload, 1) := by decide +kernel
theorem dX9_leader_20 : decode cX9_leader 20 = .ok (.ifCond .ne 54, 3) := by decide +kernel
theorem dX9_leader_23 : decode cX9_leader 23 = .ok (.aload_n 0, 1) := by decide +kernel
theorem dX9_leader_24 : decode cX9_leader 24 = .ok (.iload_n 1, 1) := by decide +kernel
theorem dX9_leader_25 : decode cX9_leader 25 = .ok (.invokevirtual 106, 3) := by decide +kernel
theorem dX9_leader_28 : decode cX9_leader 28 = .ok (.aload_n 0, 1) := by decide +kernel
theorem dX9_leader_29 : decode cX9_leader 29 = .ok (.aload_n 0, 1) := by decide +kernel
theorem dX9_leader_30 : decode cX9_leader 30 = .ok (.getfield 19, 3) := by decide +kernel
theorem dX9_leader_33 : decode cX9_leader 33 = .ok (.invokevirtual 113, 3) := by decide +kernel
theorem dX9_leader_36 : decode cX9_leader 36 = .ok (.istore_n 2, 1) := by decide +kernel
theorem dX9_leader_37 : decode cX9_leader 37 = .ok (.aload_n 0, 1) := by decide +kernel
theorem dX9_leader_38 : decode cX9_leader 38 = .ok (.getfield 41, 3) := by decide +kernel
theorem dX9_leader_41 : decode cX9_leader 41 = .ok (.iload_n 1, 1) := by decide +kernel
theorem dX9_leader_42 : decode cX9_leader 42 = .ok (.iload_n 2, 1) := by decide +kernel
theorem dX9_leader_43 : decode cX9_leader 43 = .ok (.ifCond .ne 7, 3) := by decide +kernel
theorem dX9_leader_46 : decode cX9_leader 46 = .ok (.iconst 2, 1) := by decide +kernel
theorem dX9_leader_47 : decode cX9_leader 47 = .ok (.goto 19, 3) := by decide +kernel
theorem dX9_leader_50 : decode cX9_leader 50 = .ok (.iload_n 2, 1) := by decide +kernel
theorem dX9_leader_51 : decode cX9_leader 51 = .ok (.iconst 1, 1) := by decide +kernel
theorem dX9_leader_52 : decode cX9_leader 52 = .ok (.if_icmp .ne 9, 3) := by decide +kernel
theorem dX9_leader_55 : decode cX9_leader 55 = .ok (.iload_n 1, 1) := by decide +kernel
theorem dX9_leader_56 : decode cX9_leader 56 = .ok (.iconst 2, 1) := by decide +kernel
theorem dX9_leader_57 : decode cX9_leader 57 = .ok (.irem, 1) := by decide +kernel
theorem dX9_leader_58 : decode cX9_leader 58 = .ok (.goto 8, 3) := by decide +kernel
theorem dX9_leader_61 : decode cX9_leader 61 = .ok (.iconst 1, 1) := by decide +kernel
theorem dX9_leader_62 : decode cX9_leader 62 = .ok (.iload_n 1, 1) := by decide +kernel
theorem dX9_leader_63 : decode cX9_leader 63 = .ok (.iconst 2, 1) := by decide +kernel
theorem dX9_leader_64 : decode cX9_leader 64 = .ok (.irem, 1) := by decide +kernel
theorem dX9_leader_65 : decode cX9_leader 65 = .ok (.isub, 1) := by decide +kernel
theorem dX9_leader_66 : decode cX9_leader 66 = .ok (.iastore, 1) := by decide +kernel
theorem dX9_leader_67 : decode cX9_leader 67 = .ok (.aload_n 0, 1) := by decide +kernel
theorem dX9_leader_68 : decode cX9_leader 68 = .ok (.getfield 44, 3) := by decide +kernel
theorem dX9_leader_71 : decode cX9_leader 71 = .ok (.iload_n 1, 1) := by decide +kernel
theorem dX9_leader_72 : decode cX9_leader 72 = .ok (.iconst 1, 1) := by decide +kernel
theorem dX9_leader_73 : decode cX9_leader 73 = .ok (.bastore, 1) := by decide +kernel
theorem dX9_leader_74 : decode cX9_leader 74 = .ok (.aload_n 0, 1) := by decide +kernel
theorem dX9_leader_75 : decode cX9_leader 75 = .ok (.getfield 41, 3) := by decide +kernel
theorem dX9_leader_78 : decode cX9_leader 78 = .ok (.iload_n 1, 1) := by decide +kernel
theorem dX9_leader_79 : decode cX9_leader 79 = .ok (.iaload, 1) := by decide +kernel
theorem dX9_leader_80 : decode cX9_leader 80 = .ok (.ireturn, 1) := by decide +kernel
theorem dX9_wins_0 : decode cX9_wins 0 = .ok (.iconst 0, 1) := by decide +kernel
theorem dX9_wins_1 : decode cX9_wins 1 = .ok (.istore_n 2, 1) := by decide +kernel
theorem dX9_wins_2 : decode cX9_wins 2 = .ok (.iconst 0, 1) := by decide +kernel
theorem dX9_wins_3 : decode cX9_wins 3 = .ok (.istore_n 3, 1) := by decide +kernel
theorem dX9_wins_4 : decode cX9_wins 4 = .ok (.iload_n 3, 1) := by decide +kernel
theorem dX9_wins_5 : decode cX9_wins 5 = .ok (.aload_n 0, 1) := by decide +kernel
theorem dX9_wins_6 : decode cX9_wins 6 = .ok (.getfield 7, 3) := by decide +kernel
theorem dX9_wins_9 : decode cX9_wins 9 = .ok (.aload_n 0, 1) := by decide +kernel
theorem dX9_wins_10 : decode cX9_wins 10 = .ok (.getfield 13, 3) := by decide +kernel
theorem dX9_wins_13 : decode cX9_wins 13 = .ok (.imul, 1) := by decide +kernel
theorem dX9_wins_14 : decode cX9_wins 14 = .ok (.if_icmp .ge 26, 3) := by decide +kernel
theorem dX9_wins_17 : decode cX9_wins 17 = .ok (.iload_n 2, 1) := by decide +kernel
theorem dX9_wins_18 : decode cX9_wins 18 = .ok (.aload_n 0, 1) := by decide +kernel
theorem dX9_wins_19 : decode cX9_wins 19 = .ok (.iload_n 3, 1) := by decide +kernel
theorem dX9_wins_20 : decode cX9_wins 20 = .ok (.iload_n 1, 1) := by decide +kernel
theorem dX9_wins_21 : decode cX9_wins 21 = .ok (.invokevirtual 121, 3) := by decide +kernel
theorem dX9_wins_24 : decode cX9_wins 24 = .ok (.ifCond .eq 7, 3) := by decide +kernel
theorem dX9_wins_27 : decode cX9_wins 27 = .ok (.iconst 1, 1) := by decide +kernel
theorem dX9_wins_28 : decode cX9_wins 28 = .ok (.goto 4, 3) := by decide +kernel
theorem dX9_wins_31 : decode cX9_wins 31 = .ok (.iconst 0, 1) := by decide +kernel
theorem dX9_wins_32 : decode cX9_wins 32 = .ok (.iadd, 1) := by decide +kernel
theorem dX9_wins_33 : decode cX9_wins 33 = .ok (.istore_n 2, 1) := by decide +kernel
theorem dX9_wins_34 : decode cX9_wins 34 = .ok (.iinc 3 1, 3) := by decide +kernel
theorem dX9_wins_37 : decode cX9_wins 37 = .ok (.goto (-33), 3) := by decide +kernel
theorem dX9_wins_40 : decode cX9_wins 40 = .ok (.iload_n 2, 1) := by decide +kernel
theorem dX9_wins_41 : decode cX9_wins 41 = .ok (.ireturn, 1) := by decide +kernel
theorem dX9_winsBy_0 : decode cX9_winsBy 0 = .ok (.aload_n 0, 1) := by decide +kernel
theorem dX9_winsBy_1 : decode cX9_winsBy 1 = .ok (.getfield 75, 3) := by decide +kernel
theorem dX9_winsBy_4 : decode cX9_winsBy 4 = .ok (.ifCond .ne 11, 3) := by decide +kernel
theorem dX9_winsBy_7 : decode cX9_winsBy 7 = .ok (.aload_n 0, 1) := by decide +kernel
theorem dX9_winsBy_8 : decode cX9_winsBy 8 = .ok (.iload_n 1, 1) := by decide +kernel
theorem dX9_winsBy_9 : decode cX9_winsBy 9 = .ok (.invokevirtual 109, 3) := by decide +kernel
theorem dX9_winsBy_12 : decode cX9_winsBy 12 = .ok (.ifCond .ne 5, 3) := by decide +kernel
theorem dX9_winsBy_15 : decode cX9_winsBy 15 = .ok (.iconst 0, 1) := by decide +kernel
theorem dX9_winsBy_16 : decode cX9_winsBy 16 = .ok (.ireturn, 1) := by decide +kernel
theorem dX9_winsBy_17 : decode cX9_winsBy 17 = .ok (.aload_n 0, 1) := by decide +kernel
theorem dX9_winsBy_18 : decode cX9_winsBy 18 = .ok (.iload_n 1, 1) := by decide +kernel
theorem dX9_winsBy_19 : decode cX9_winsBy 19 = .ok (.iload_n 2, 1) := by decide +kernel
theorem dX9_winsBy_20 : decode cX9_winsBy 20 = .ok (.invokevirtual 95, 3) := by decide +kernel
theorem dX9_winsBy_23 : decode cX9_winsBy 23 = .ok (.ireturn, 1) := by decide +kernel
theorem dX9_threat_0 : decode cX9_threat 0 = .ok (.aload_n 0, 1) := by decide +kernel
theorem dX9_threat_1 : decode cX9_threat 1 = .ok (.iload_n 1, 1) := by decide +kernel
theorem dX9_threat_2 : decode cX9_threat 2 = .ok (.invokevirtual 106, 3) := by decide +kernel
theorem dX9_threat_5 : decode cX9_threat 5 = .ok (.aload_n 0, 1) := by decide +kernel
theorem dX9_threat_6 : decode cX9_threat 6 = .ok (.getfield 84, 3) := by decide +kernel
theorem dX9_threat_9 : decode cX9_threat 9 = .ok (.iconst 3, 1) := by decide +kernel
theorem dX9_threat_10 : decode cX9_threat 10 = .ok (.if_icmp .eq 7, 3) := by decide +kernel
theorem dX9_threat_13 : decode cX9_threat 13 = .ok (.iconst 0, 1) := by decide +kernel
theorem dX9_threat_14 : decode cX9_threat 14 = .ok (.goto 12, 3) := by decide +kernel
theorem dX9_threat_17 : decode cX9_threat 17 = .ok (.aload_n 0, 1) := by decide +kernel
theorem dX9_threat_18 : decode cX9_threat 18 = .ok (.iload_n 1, 1) := by decide +kernel
theorem dX9_threat_19 : decode cX9_threat 19 = .ok (.iconst 1, 1) := by decide +kernel
theorem dX9_threat_20 : decode cX9_threat 20 = .ok (.isub, 1) := by decide +kernel
theorem dX9_threat_21 : decode cX9_threat 21 = .ok (.iconst 2, 1) := by decide +kernel
theorem dX9_threat_22 : decode cX9_threat 22 = .ok (.irem, 1) := by decide +kernel
theorem dX9_threat_23 : decode cX9_threat 23 = .ok (.invokevirtual 124, 3) := by decide +kernel
theorem dX9_threat_26 : decode cX9_threat 26 = .ok (.ireturn, 1) := by decide +kernel
theorem dX9_forced_0 : decode cX9_forced 0 = .ok (.iconst 0, 1) := by decide +kernel
theorem dX9_forced_1 : decode cX9_forced 1 = .ok (.istore_n 2, 1) := by decide +kernel
theorem dX9_forced_2 : decode cX9_forced 2 = .ok (.iconst 0, 1) := by decide +kernel
theorem dX9_forced_3 : decode cX9_forced 3 = .ok (.istore_n 3, 1) := by decide +kernel
theorem dX9_forced_4 : decode cX9_forced 4 = .ok (.iconst 0, 1) := by decide +kernel
theorem dX9_forced_5 : decode cX9_forced 5 = .ok (.istore 4, 2) := by decide +kernel
theorem dX9_forced_7 : decode cX9_forced 7 = .ok (.iload 4, 2) := by decide +kernel
theorem dX9_forced_9 : decode cX9_forced 9 = .ok (.aload_n 0, 1) := by decide +kernel
theorem dX9_forced_10 : decode cX9_forced 10 = .ok (.getfield 7, 3) := by decide +kernel
theorem dX9_forced_13 : decode cX9_forced 13 = .ok (.aload_n 0, 1) := by decide +kernel
theorem dX9_forced_14 : decode cX9_forced 14 = .ok (.getfield 13, 3) := by decide +kernel
theorem dX9_forced_17 : decode cX9_forced 17 = .ok (.imul, 1) := by decide +kernel
theorem dX9_forced_18 : decode cX9_forced 18 = .ok (.if_icmp .ge 54, 3) := by decide +kernel
theorem dX9_forced_21 : decode cX9_forced 21 = .ok (.aload_n 0, 1) := by decide +kernel
theorem dX9_forced_22 : decode cX9_forced 22 = .ok (.iload_n 1, 1) := by decide +kernel
theorem dX9_forced_23 : decode cX9_forced 23 = .ok (.iconst 1, 1) := by decide +kernel
theorem dX9_forced_24 : decode cX9_forced 24 = .ok (.isub, 1) := by decide +kernel
theorem dX9_forced_25 : decode cX9_forced 25 = .ok (.iload 4, 2) := by decide +kernel
theorem dX9_forced_27 : decode cX9_forced 27 = .ok (.aload_n 0, 1) := by decide +kernel
theorem dX9_forced_28 : decode cX9_forced 28 = .ok (.getfield 19, 3) := by decide +kernel
theorem dX9_forced_31 : decode cX9_forced 31 = .ok (.iconst 1, 1) := by decide +kernel
theorem dX9_forced_32 : decode cX9_forced 32 = .ok (.isub, 1) := by decide +kernel
theorem dX9_forced_33 : decode cX9_forced 33 = .ok (.invokevirtual 117, 3) := by decide +kernel
theorem dX9_forced_36 : decode cX9_forced 36 = .ok (.istore 5, 2) := by decide +kernel
theorem dX9_forced_38 : decode cX9_forced 38 = .ok (.iload_n 2, 1) := by decide +kernel
theorem dX9_forced_39 : decode cX9_forced 39 = .ok (.iload 5, 2) := by decide +kernel
theorem dX9_forced_41 : decode cX9_forced 41 = .ok (.bipush (-3), 2) := by decide +kernel
theorem dX9_forced_43 : decode cX9_forced 43 = .ok (.if_icmp .ne 7, 3) := by decide +kernel
theorem dX9_forced_46 : decode cX9_forced 46 = .ok (.iconst 0, 1) := by decide +kernel
theorem dX9_forced_47 : decode cX9_forced 47 = .ok (.goto 4, 3) := by decide +kernel
theorem dX9_forced_50 : decode cX9_forced 50 = .ok (.iconst 1, 1) := by decide +kernel
theorem dX9_forced_51 : decode cX9_forced 51 = .ok (.iadd, 1) := by decide +kernel
theorem dX9_forced_52 : decode cX9_forced 52 = .ok (.istore_n 2, 1) := by decide +kernel
theorem dX9_forced_53 : decode cX9_forced 53 = .ok (.iload_n 3, 1) := by decide +kernel
theorem dX9_forced_54 : decode cX9_forced 54 = .ok (.iload 5, 2) := by decide +kernel
theorem dX9_forced_56 : decode cX9_forced 56 = .ok (.ifCond .lt 7, 3) := by decide +kernel
theorem dX9_forced_59 : decode cX9_forced 59 = .ok (.iconst 1, 1) := by decide +kernel
theorem dX9_forced_60 : decode cX9_forced 60 = .ok (.goto 4, 3) := by decide +kernel
theorem dX9_forced_63 : decode cX9_forced 63 = .ok (.iconst 0, 1) := by decide +kernel
theorem dX9_forced_64 : decode cX9_forced 64 = .ok (.iadd, 1) := by decide +kernel
theorem dX9_forced_65 : decode cX9_forced 65 = .ok (.istore_n 3, 1) := by decide +kernel
theorem dX9_forced_66 : decode cX9_forced 66 = .ok (.iinc 4 1, 3) := by decide +kernel
theorem dX9_forced_69 : decode cX9_forced 69 = .ok (.goto (-62), 3) := by decide +kernel
theorem dX9_forced_72 : decode cX9_forced 72 = .ok (.iload_n 2, 1) := by decide +kernel
theorem dX9_forced_73 : decode cX9_forced 73 = .ok (.iconst 2, 1) := by decide +kernel
theorem dX9_forced_74 : decode cX9_forced 74 = .ok (.if_icmp .lt 36, 3) := by decide +kernel
theorem dX9_forced_77 : decode cX9_forced 77 = .ok (.iload_n 3, 1) := by decide +kernel
theorem dX9_forced_78 : decode cX9_forced 78 = .ok (.iconst 1, 1) := by decide +kernel
theorem dX9_forced_79 : decode cX9_forced 79 = .ok (.if_icmp .ne 31, 3) := by decide +kernel
theorem dX9_forced_82 : decode cX9_forced 82 = .ok (.aload_n 0, 1) := by decide +kernel
theorem dX9_forced_83 : decode cX9_forced 83 = .ok (.iload_n 1, 1) := by decide +kernel
theorem dX9_forced_84 : decode cX9_forced 84 = .ok (.iconst 1, 1) := by decide +kernel
theorem dX9_forced_85 : decode cX9_forced 85 = .ok (.isub, 1) := by decide +kernel
theorem dX9_forced_86 : decode cX9_forced 86 = .ok (.aload_n 0, 1) := by decide +kernel
theorem dX9_forced_87 : decode cX9_forced 87 = .ok (.getfield 22, 3) := by decide +kernel
theorem dX9_forced_90 : decode cX9_forced 90 = .ok (.iload_n 1, 1) := by decide +kernel
theorem dX9_forced_91 : decode cX9_forced 91 = .ok (.iconst 1, 1) := by decide +kernel
theorem dX9_forced_92 : decode cX9_forced 92 = .ok (.isub, 1) := by decide +kernel
theorem dX9_forced_93 : decode cX9_forced 93 = .ok (.iaload, 1) := by decide +kernel
theorem dX9_forced_94 : decode cX9_forced 94 = .ok (.aload_n 0, 1) := by decide +kernel
theorem dX9_forced_95 : decode cX9_forced 95 = .ok (.getfield 19, 3) := by decide +kernel
theorem dX9_forced_98 : decode cX9_forced 98 = .ok (.iconst 1, 1) := by decide +kernel
theorem dX9_forced_99 : decode cX9_forced 99 = .ok (.isub, 1) := by decide +kernel
theorem dX9_forced_100 : decode cX9_forced 100 = .ok (.invokevirtual 117, 3) := by decide +kernel
theorem dX9_forced_103 : decode cX9_forced 103 = .ok (.ifCond .lt 7, 3) := by decide +kernel
theorem dX9_forced_106 : decode cX9_forced 106 = .ok (.iconst 1, 1) := by decide +kernel
theorem dX9_forced_107 : decode cX9_forced 107 = .ok (.goto 4, 3) := by decide +kernel
theorem dX9_forced_110 : decode cX9_forced 110 = .ok (.iconst 0, 1) := by decide +kernel
theorem dX9_forced_111 : decode cX9_forced 111 = .ok (.ireturn, 1) := by decide +kernel
theorem dX9_slip_0 : decode cX9_slip 0 = .ok (.aload_n 0, 1) := by decide +kernel
theorem dX9_slip_1 : decode cX9_slip 1 = .ok (.iload_n 1, 1) := by decide +kernel
theorem dX9_slip_2 : decode cX9_slip 2 = .ok (.iconst 1, 1) := by decide +kernel
theorem dX9_slip_3 : decode cX9_slip 3 = .ok (.isub, 1) := by decide +kernel
theorem dX9_slip_4 : decode cX9_slip 4 = .ok (.aload_n 0, 1) := by decide +kernel
theorem dX9_slip_5 : decode cX9_slip 5 = .ok (.getfield 19, 3) := by decide +kernel
theorem dX9_slip_8 : decode cX9_slip 8 = .ok (.invokevirtual 127, 3) := by decide +kernel
theorem dX9_slip_11 : decode cX9_slip 11 = .ok (.istore_n 2, 1) := by decide +kernel
theorem dX9_slip_12 : decode cX9_slip 12 = .ok (.iload_n 2, 1) := by decide +kernel
theorem dX9_slip_13 : decode cX9_slip 13 = .ok (.aload_n 0, 1) := by decide +kernel
theorem dX9_slip_14 : decode cX9_slip 14 = .ok (.iload_n 1, 1) := by decide +kernel
theorem dX9_slip_15 : decode cX9_slip 15 = .ok (.iconst 1, 1) := by decide +kernel
theorem dX9_slip_16 : decode cX9_slip 16 = .ok (.isub, 1) := by decide +kernel
theorem dX9_slip_17 : decode cX9_slip 17 = .ok (.aload_n 0, 1) := by decide +kernel
theorem dX9_slip_18 : decode cX9_slip 18 = .ok (.getfield 22, 3) := by decide +kernel
theorem dX9_slip_21 : decode cX9_slip 21 = .ok (.iload_n 1, 1) := by decide +kernel
theorem dX9_slip_22 : decode cX9_slip 22 = .ok (.iconst 1, 1) := by decide +kernel
theorem dX9_slip_23 : decode cX9_slip 23 = .ok (.isub, 1) := by decide +kernel
theorem dX9_slip_24 : decode cX9_slip 24 = .ok (.iaload, 1) := by decide +kernel
theorem dX9_slip_25 : decode cX9_slip 25 = .ok (.aload_n 0, 1) := by decide +kernel
theorem dX9_slip_26 : decode cX9_slip 26 = .ok (.getfield 19, 3) := by decide +kernel
theorem dX9_slip_29 : decode cX9_slip 29 = .ok (.iconst 1, 1) := by decide +kernel
theorem dX9_slip_30 : decode cX9_slip 30 = .ok (.isub, 1) := by decide +kernel
theorem dX9_slip_31 : decode cX9_slip 31 = .ok (.invokevirtual 117, 3) := by decide +kernel
theorem dX9_slip_34 : decode cX9_slip 34 = .ok (.isub, 1) := by decide +kernel
theorem dX9_slip_35 : decode cX9_slip 35 = .ok (.ireturn, 1) := by decide +kernel
theorem dX9_missed_0 : decode cX9_missed 0 = .ok (.aload_n 0, 1) := by decide +kernel
theorem dX9_missed_1 : decode cX9_missed 1 = .ok (.iload_n 1, 1) := by decide +kernel
theorem dX9_missed_2 : decode cX9_missed 2 = .ok (.iconst 1, 1) := by decide +kernel
theorem dX9_missed_3 : decode cX9_missed 3 = .ok (.isub, 1) := by decide +kernel
theorem dX9_missed_4 : decode cX9_missed 4 = .ok (.invokevirtual 106, 3) := by decide +kernel
theorem dX9_missed_7 : decode cX9_missed 7 = .ok (.iload_n 1, 1) := by decide +kernel
theorem dX9_missed_8 : decode cX9_missed 8 = .ok (.iconst 1, 1) := by decide +kernel
theorem dX9_missed_9 : decode cX9_missed 9 = .ok (.isub, 1) := by decide +kernel
theorem dX9_missed_10 : decode cX9_missed 10 = .ok (.iconst 2, 1) := by decide +kernel
theorem dX9_missed_11 : decode cX9_missed 11 = .ok (.irem, 1) := by decide +kernel
theorem dX9_missed_12 : decode cX9_missed 12 = .ok (.istore_n 2, 1) := by decide +kernel
theorem dX9_missed_13 : decode cX9_missed 13 = .ok (.aload_n 0, 1) := by decide +kernel
theorem dX9_missed_14 : decode cX9_missed 14 = .ok (.aload_n 0, 1) := by decide +kernel
theorem dX9_missed_15 : decode cX9_missed 15 = .ok (.getfield 22, 3) := by decide +kernel
theorem dX9_missed_18 : decode cX9_missed 18 = .ok (.iload_n 1, 1) := by decide +kernel
theorem dX9_missed_19 : decode cX9_missed 19 = .ok (.iconst 1, 1) := by decide +kernel
theorem dX9_missed_20 : decode cX9_missed 20 = .ok (.isub, 1) := by decide +kernel
theorem dX9_missed_21 : decode cX9_missed 21 = .ok (.iaload, 1) := by decide +kernel
theorem dX9_missed_22 : decode cX9_missed 22 = .ok (.iload_n 2, 1) := by decide +kernel
theorem dX9_missed_23 : decode cX9_missed 23 = .ok (.invokevirtual 121, 3) := by decide +kernel
theorem dX9_missed_26 : decode cX9_missed 26 = .ok (.ifCond .eq 7, 3) := by decide +kernel
theorem dX9_missed_29 : decode cX9_missed 29 = .ok (.iconst 0, 1) := by decide +kernel
theorem dX9_missed_30 : decode cX9_missed 30 = .ok (.goto 8, 3) := by decide +kernel
theorem dX9_missed_33 : decode cX9_missed 33 = .ok (.aload_n 0, 1) := by decide +kernel
theorem dX9_missed_34 : decode cX9_missed 34 = .ok (.iload_n 2, 1) := by decide +kernel
theorem dX9_missed_35 : decode cX9_missed 35 = .ok (.invokevirtual 124, 3) := by decide +kernel
theorem dX9_missed_38 : decode cX9_missed 38 = .ok (.ireturn, 1) := by decide +kernel
theorem dX9_turn_0 : decode cX9_turn 0 = .ok (.aload_n 0, 1) := by decide +kernel
theorem dX9_turn_1 : decode cX9_turn 1 = .ok (.iload_n 1, 1) := by decide +kernel
theorem dX9_turn_2 : decode cX9_turn 2 = .ok (.invokevirtual 131, 3) := by decide +kernel
theorem dX9_turn_5 : decode cX9_turn 5 = .ok (.istore_n 2, 1) := by decide +kernel
theorem dX9_turn_6 : decode cX9_turn 6 = .ok (.iload_n 2, 1) := by decide +kernel
theorem dX9_turn_7 : decode cX9_turn 7 = .ok (.iconst 2, 1) := by decide +kernel
theorem dX9_turn_8 : decode cX9_turn 8 = .ok (.if_icmp .ne 5, 3) := by decide +kernel
theorem dX9_turn_11 : decode cX9_turn 11 = .ok (.iconst 0, 1) := by decide +kernel
theorem dX9_turn_12 : decode cX9_turn 12 = .ok (.ireturn, 1) := by decide +kernel
theorem dX9_turn_13 : decode cX9_turn 13 = .ok (.iload_n 1, 1) := by decide +kernel
theorem dX9_turn_14 : decode cX9_turn 14 = .ok (.iconst 1, 1) := by decide +kernel
theorem dX9_turn_15 : decode cX9_turn 15 = .ok (.iadd, 1) := by decide +kernel
theorem dX9_turn_16 : decode cX9_turn 16 = .ok (.istore_n 3, 1) := by decide +kernel
theorem dX9_turn_17 : decode cX9_turn 17 = .ok (.iload_n 3, 1) := by decide +kernel
theorem dX9_turn_18 : decode cX9_turn 18 = .ok (.aload_n 0, 1) := by decide +kernel
theorem dX9_turn_19 : decode cX9_turn 19 = .ok (.getfield 78, 3) := by decide +kernel
theorem dX9_turn_22 : decode cX9_turn 22 = .ok (.if_icmp .gt 20, 3) := by decide +kernel
theorem dX9_turn_25 : decode cX9_turn 25 = .ok (.aload_n 0, 1) := by decide +kernel
theorem dX9_turn_26 : decode cX9_turn 26 = .ok (.iload_n 3, 1) := by decide +kernel
theorem dX9_turn_27 : decode cX9_turn 27 = .ok (.invokevirtual 131, 3) := by decide +kernel
theorem dX9_turn_30 : decode cX9_turn 30 = .ok (.iload_n 2, 1) := by decide +kernel
theorem dX9_turn_31 : decode cX9_turn 31 = .ok (.if_icmp .eq 5, 3) := by decide +kernel
theorem dX9_turn_34 : decode cX9_turn 34 = .ok (.iconst 0, 1) := by decide +kernel
theorem dX9_turn_35 : decode cX9_turn 35 = .ok (.ireturn, 1) := by decide +kernel
theorem dX9_turn_36 : decode cX9_turn 36 = .ok (.iinc 3 1, 3) := by decide +kernel
theorem dX9_turn_39 : decode cX9_turn 39 = .ok (.goto (-22), 3) := by decide +kernel
theorem dX9_turn_42 : decode cX9_turn 42 = .ok (.iload_n 1, 1) := by decide +kernel
theorem dX9_turn_43 : decode cX9_turn 43 = .ok (.iconst 1, 1) := by decide +kernel
theorem dX9_turn_44 : decode cX9_turn 44 = .ok (.if_icmp .eq 14, 3) := by decide +kernel
theorem dX9_turn_47 : decode cX9_turn 47 = .ok (.aload_n 0, 1) := by decide +kernel
theorem dX9_turn_48 : decode cX9_turn 48 = .ok (.iload_n 1, 1) := by decide +kernel
theorem dX9_turn_49 : decode cX9_turn 49 = .ok (.iconst 1, 1) := by decide +kernel
theorem dX9_turn_50 : decode cX9_turn 50 = .ok (.isub, 1) := by decide +kernel
theorem dX9_turn_51 : decode cX9_turn 51 = .ok (.invokevirtual 131, 3) := by decide +kernel
theorem dX9_turn_54 : decode cX9_turn 54 = .ok (.iload_n 2, 1) := by decide +kernel
theorem dX9_turn_55 : decode cX9_turn 55 = .ok (.if_icmp .eq 7, 3) := by decide +kernel
theorem dX9_turn_58 : decode cX9_turn 58 = .ok (.iconst 1, 1) := by decide +kernel
theorem dX9_turn_59 : decode cX9_turn 59 = .ok (.goto 4, 3) := by decide +kernel
theorem dX9_turn_62 : decode cX9_turn 62 = .ok (.iconst 0, 1) := by decide +kernel
theorem dX9_turn_63 : decode cX9_turn 63 = .ok (.ireturn, 1) := by decide +kernel
theorem dX9_found_0 : decode cX9_found 0 = .ok (.iload_n 1, 1) := by decide +kernel
theorem dX9_found_1 : decode cX9_found 1 = .ok (.iconst 1, 1) := by decide +kernel
theorem dX9_found_2 : decode cX9_found 2 = .ok (.aload_n 0, 1) := by decide +kernel
theorem dX9_found_3 : decode cX9_found 3 = .ok (.getfield 78, 3) := by decide +kernel
theorem dX9_found_6 : decode cX9_found 6 = .ok (.invokestatic 67, 3) := by decide +kernel
theorem dX9_found_9 : decode cX9_found 9 = .ok (.ifCond .ne 5, 3) := by decide +kernel
theorem dX9_found_12 : decode cX9_found 12 = .ok (.iconst (-1), 1) := by decide +kernel
theorem dX9_found_13 : decode cX9_found 13 = .ok (.ireturn, 1) := by decide +kernel
theorem dX9_found_14 : decode cX9_found 14 = .ok (.iload_n 2, 1) := by decide +kernel
theorem dX9_found_15 : decode cX9_found 15 = .ok (.tableswitch 90 0 5 #[37, 60, 66, 72, 78, 84], 37) := by decide +kernel
theorem dX9_found_52 : decode cX9_found 52 = .ok (.aload_n 0, 1) := by decide +kernel
theorem dX9_found_53 : decode cX9_found 53 = .ok (.iload_n 1, 1) := by decide +kernel
theorem dX9_found_54 : decode cX9_found 54 = .ok (.invokevirtual 106, 3) := by decide +kernel
theorem dX9_found_57 : decode cX9_found 57 = .ok (.aload_n 0, 1) := by decide +kernel
theorem dX9_found_58 : decode cX9_found 58 = .ok (.getfield 84, 3) := by decide +kernel
theorem dX9_found_61 : decode cX9_found 61 = .ok (.iload_n 1, 1) := by decide +kernel
theorem dX9_found_62 : decode cX9_found 62 = .ok (.iconst 1, 1) := by decide +kernel
theorem dX9_found_63 : decode cX9_found 63 = .ok (.isub, 1) := by decide +kernel
theorem dX9_found_64 : decode cX9_found 64 = .ok (.iconst 2, 1) := by decide +kernel
theorem dX9_found_65 : decode cX9_found 65 = .ok (.irem, 1) := by decide +kernel
theorem dX9_found_66 : decode cX9_found 66 = .ok (.if_icmp .ne 7, 3) := by decide +kernel
theorem dX9_found_69 : decode cX9_found 69 = .ok (.iconst 1, 1) := by decide +kernel
theorem dX9_found_70 : decode cX9_found 70 = .ok (.goto 4, 3) := by decide +kernel
theorem dX9_found_73 : decode cX9_found 73 = .ok (.iconst 0, 1) := by decide +kernel
theorem dX9_found_74 : decode cX9_found 74 = .ok (.ireturn, 1) := by decide +kernel
theorem dX9_found_75 : decode cX9_found 75 = .ok (.aload_n 0, 1) := by decide +kernel
theorem dX9_found_76 : decode cX9_found 76 = .ok (.iload_n 1, 1) := by decide +kernel
theorem dX9_found_77 : decode cX9_found 77 = .ok (.invokevirtual 134, 3) := by decide +kernel
theorem dX9_found_80 : decode cX9_found 80 = .ok (.ireturn, 1) := by decide +kernel
theorem dX9_found_81 : decode cX9_found 81 = .ok (.aload_n 0, 1) := by decide +kernel
theorem dX9_found_82 : decode cX9_found 82 = .ok (.iload_n 1, 1) := by decide +kernel
theorem dX9_found_83 : decode cX9_found 83 = .ok (.invokevirtual 137, 3) := by decide +kernel
theorem dX9_found_86 : decode cX9_found 86 = .ok (.ireturn, 1) := by decide +kernel
theorem dX9_found_87 : decode cX9_found 87 = .ok (.aload_n 0, 1) := by decide +kernel
theorem dX9_found_88 : decode cX9_found 88 = .ok (.iload_n 1, 1) := by decide +kernel
theorem dX9_found_89 : decode cX9_found 89 = .ok (.invokevirtual 140, 3) := by decide +kernel
theorem dX9_found_92 : decode cX9_found 92 = .ok (.ireturn, 1) := by decide +kernel
theorem dX9_found_93 : decode cX9_found 93 = .ok (.aload_n 0, 1) := by decide +kernel
theorem dX9_found_94 : decode cX9_found 94 = .ok (.iload_n 1, 1) := by decide +kernel
theorem dX9_found_95 : decode cX9_found 95 = .ok (.invokevirtual 143, 3) := by decide +kernel
theorem dX9_found_98 : decode cX9_found 98 = .ok (.ireturn, 1) := by decide +kernel
theorem dX9_found_99 : decode cX9_found 99 = .ok (.aload_n 0, 1) := by decide +kernel
theorem dX9_found_100 : decode cX9_found 100 = .ok (.iload_n 1, 1) := by decide +kernel
theorem dX9_found_101 : decode cX9_found 101 = .ok (.invokevirtual 146, 3) := by decide +kernel
theorem dX9_found_104 : decode cX9_found 104 = .ok (.ireturn, 1) := by decide +kernel
theorem dX9_found_105 : decode cX9_found 105 = .ok (.iconst (-1), 1) := by decide +kernel
theorem dX9_found_106 : decode cX9_found 106 = .ok (.ireturn, 1) := by decide +kernel
theorem dX9_reaches_0 : decode cX9_reaches 0 = .ok (.iconst 0, 1) := by decide +kernel
theorem dX9_reaches_1 : decode cX9_reaches 1 = .ok (.istore 7, 2) := by decide +kernel
theorem dX9_reaches_3 : decode cX9_reaches 3 = .ok (.iconst 0, 1) := by decide +kernel
theorem dX9_reaches_4 : decode cX9_reaches 4 = .ok (.istore 8, 2) := by decide +kernel
theorem dX9_reaches_6 : decode cX9_reaches 6 = .ok (.aload_n 0, 1) := by decide +kernel
theorem dX9_reaches_7 : decode cX9_reaches 7 = .ok (.aload_n 0, 1) := by decide +kernel
theorem dX9_reaches_8 : decode cX9_reaches 8 = .ok (.getfield 78, 3) := by decide +kernel
theorem dX9_reaches_11 : decode cX9_reaches 11 = .ok (.invokevirtual 106, 3) := by decide +kernel
theorem dX9_reaches_14 : decode cX9_reaches 14 = .ok (.iconst 0, 1) := by decide +kernel
theorem dX9_reaches_15 : decode cX9_reaches 15 = .ok (.istore 9, 2) := by decide +kernel
theorem dX9_reaches_17 : decode cX9_reaches 17 = .ok (.iload 9, 2) := by decide +kernel
theorem dX9_reaches_19 : decode cX9_reaches 19 = .ok (.iload_n 2, 1) := by decide +kernel
theorem dX9_reaches_20 : decode cX9_reaches 20 = .ok (.if_icmp .ge 78, 3) := by decide +kernel
theorem dX9_reaches_23 : decode cX9_reaches 23 = .ok (.iload 9, 2) := by decide +kernel
theorem dX9_reaches_25 : decode cX9_reaches 25 = .ok (.ifCond .ne 7, 3) := by decide +kernel
theorem dX9_reaches_28 : decode cX9_reaches 28 = .ok (.iload_n 3, 1) := by decide +kernel
theorem dX9_reaches_29 : decode cX9_reaches 29 = .ok (.goto 27, 3) := by decide +kernel
theorem dX9_reaches_32 : decode cX9_reaches 32 = .ok (.iload 9, 2) := by decide +kernel
theorem dX9_reaches_34 : decode cX9_reaches 34 = .ok (.iconst 1, 1) := by decide +kernel
theorem dX9_reaches_35 : decode cX9_reaches 35 = .ok (.if_icmp .ne 8, 3) := by decide +kernel
theorem dX9_reaches_38 : decode cX9_reaches 38 = .ok (.iload 4, 2) := by decide +kernel
theorem dX9_reaches_40 : decode cX9_reaches 40 = .ok (.goto 16, 3) := by decide +kernel
theorem dX9_reaches_43 : decode cX9_reaches 43 = .ok (.iload 9, 2) := by decide +kernel
theorem dX9_reaches_45 : decode cX9_reaches 45 = .ok (.iconst 2, 1) := by decide +kernel
theorem dX9_reaches_46 : decode cX9_reaches 46 = .ok (.if_icmp .ne 8, 3) := by decide +kernel
theorem dX9_reaches_49 : decode cX9_reaches 49 = .ok (.iload 5, 2) := by decide +kernel
theorem dX9_reaches_51 : decode cX9_reaches 51 = .ok (.goto 5, 3) := by decide +kernel
theorem dX9_reaches_54 : decode cX9_reaches 54 = .ok (.iload 6, 2) := by decide +kernel
theorem dX9_reaches_56 : decode cX9_reaches 56 = .ok (.istore 10, 2) := by decide +kernel
theorem dX9_reaches_58 : decode cX9_reaches 58 = .ok (.aload_n 0, 1) := by decide +kernel
theorem dX9_reaches_59 : decode cX9_reaches 59 = .ok (.iload 10, 2) := by decide +kernel
theorem dX9_reaches_61 : decode cX9_reaches 61 = .ok (.invokevirtual 109, 3) := by decide +kernel
theorem dX9_reaches_64 : decode cX9_reaches 64 = .ok (.ifCond .ne 5, 3) := by decide +kernel
theorem dX9_reaches_67 : decode cX9_reaches 67 = .ok (.iconst 0, 1) := by decide +kernel
theorem dX9_reaches_68 : decode cX9_reaches 68 = .ok (.ireturn, 1) := by decide +kernel
theorem dX9_reaches_69 : decode cX9_reaches 69 = .ok (.aload_n 0, 1) := by decide +kernel
theorem dX9_reaches_70 : decode cX9_reaches 70 = .ok (.getfield 29, 3) := by decide +kernel
theorem dX9_reaches_73 : decode cX9_reaches 73 = .ok (.iload 10, 2) := by decide +kernel
theorem dX9_reaches_75 : decode cX9_reaches 75 = .ok (.iload_n 1, 1) := by decide +kernel
theorem dX9_reaches_76 : decode cX9_reaches 76 = .ok (.iastore, 1) := by decide +kernel
theorem dX9_reaches_77 : decode cX9_reaches 77 = .ok (.aload_n 0, 1) := by decide +kernel
theorem dX9_reaches_78 : decode cX9_reaches 78 = .ok (.iload 10, 2) := by decide +kernel
theorem dX9_reaches_80 : decode cX9_reaches 80 = .ok (.iload_n 1, 1) := by decide +kernel
theorem dX9_reaches_81 : decode cX9_reaches 81 = .ok (.invokevirtual 95, 3) := by decide +kernel
theorem dX9_reaches_84 : decode cX9_reaches 84 = .ok (.istore 8, 2) := by decide +kernel
theorem dX9_reaches_86 : decode cX9_reaches 86 = .ok (.iload 7, 2) := by decide +kernel
theorem dX9_reaches_88 : decode cX9_reaches 88 = .ok (.iconst 1, 1) := by decide +kernel
theorem dX9_reaches_89 : decode cX9_reaches 89 = .ok (.iadd, 1) := by decide +kernel
theorem dX9_reaches_90 : decode cX9_reaches 90 = .ok (.istore 7, 2) := by decide +kernel
theorem dX9_reaches_92 : decode cX9_reaches 92 = .ok (.iinc 9 1, 3) := by decide +kernel
theorem dX9_reaches_95 : decode cX9_reaches 95 = .ok (.goto (-78), 3) := by decide +kernel
theorem dX9_reaches_98 : decode cX9_reaches 98 = .ok (.iload 8, 2) := by decide +kernel
theorem dX9_reaches_100 : decode cX9_reaches 100 = .ok (.ireturn, 1) := by decide +kernel
theorem dX9_rowsOf_0 : decode cX9_rowsOf 0 = .ok (.iconst 1, 1) := by decide +kernel
theorem dX9_rowsOf_1 : decode cX9_rowsOf 1 = .ok (.istore_n 2, 1) := by decide +kernel
theorem dX9_rowsOf_2 : decode cX9_rowsOf 2 = .ok (.iconst 0, 1) := by decide +kernel
theorem dX9_rowsOf_3 : decode cX9_rowsOf 3 = .ok (.istore_n 3, 1) := by decide +kernel
theorem dX9_rowsOf_4 : decode cX9_rowsOf 4 = .ok (.iload_n 3, 1) := by decide +kernel
theorem dX9_rowsOf_5 : decode cX9_rowsOf 5 = .ok (.iload_n 1, 1) := by decide +kernel
theorem dX9_rowsOf_6 : decode cX9_rowsOf 6 = .ok (.if_icmp .ge 21, 3) := by decide +kernel
theorem dX9_rowsOf_9 : decode cX9_rowsOf 9 = .ok (.iload_n 2, 1) := by decide +kernel
theorem dX9_rowsOf_10 : decode cX9_rowsOf 10 = .ok (.aload_n 0, 1) := by decide +kernel
theorem dX9_rowsOf_11 : decode cX9_rowsOf 11 = .ok (.getfield 7, 3) := by decide +kernel
theorem dX9_rowsOf_14 : decode cX9_rowsOf 14 = .ok (.imul, 1) := by decide +kernel
theorem dX9_rowsOf_15 : decode cX9_rowsOf 15 = .ok (.aload_n 0, 1) := by decide +kernel
theorem dX9_rowsOf_16 : decode cX9_rowsOf 16 = .ok (.getfield 13, 3) := by decide +kernel
theorem dX9_rowsOf_19 : decode cX9_rowsOf 19 = .ok (.imul, 1) := by decide +kernel
theorem dX9_rowsOf_20 : decode cX9_rowsOf 20 = .ok (.istore_n 2, 1) := by decide +kernel
theorem dX9_rowsOf_21 : decode cX9_rowsOf 21 = .ok (.iinc 3 1, 3) := by decide +kernel
theorem dX9_rowsOf_24 : decode cX9_rowsOf 24 = .ok (.goto (-20), 3) := by decide +kernel
theorem dX9_rowsOf_27 : decode cX9_rowsOf 27 = .ok (.iload_n 2, 1) := by decide +kernel
theorem dX9_rowsOf_28 : decode cX9_rowsOf 28 = .ok (.ireturn, 1) := by decide +kernel
theorem dX9_plan_0 : decode cX9_plan 0 = .ok (.iload_n 1, 1) := by decide +kernel
theorem dX9_plan_1 : decode cX9_plan 1 = .ok (.iconst 0, 1) := by decide +kernel
theorem dX9_plan_2 : decode cX9_plan 2 = .ok (.iconst 1, 1) := by decide +kernel
theorem dX9_plan_3 : decode cX9_plan 3 = .ok (.invokestatic 67, 3) := by decide +kernel
theorem dX9_plan_6 : decode cX9_plan 6 = .ok (.ifCond .ne 5, 3) := by decide +kernel
theorem dX9_plan_9 : decode cX9_plan 9 = .ok (.iconst (-1), 1) := by decide +kernel
theorem dX9_plan_10 : decode cX9_plan 10 = .ok (.ireturn, 1) := by decide +kernel
theorem dX9_plan_11 : decode cX9_plan 11 = .ok (.aload_n 0, 1) := by decide +kernel
theorem dX9_plan_12 : decode cX9_plan 12 = .ok (.aload_n 0, 1) := by decide +kernel
theorem dX9_plan_13 : decode cX9_plan 13 = .ok (.getfield 78, 3) := by decide +kernel
theorem dX9_plan_16 : decode cX9_plan 16 = .ok (.invokevirtual 106, 3) := by decide +kernel
theorem dX9_plan_19 : decode cX9_plan 19 = .ok (.aload_n 0, 1) := by decide +kernel
theorem dX9_plan_20 : decode cX9_plan 20 = .ok (.getfield 84, 3) := by decide +kernel
theorem dX9_plan_23 : decode cX9_plan 23 = .ok (.iconst 3, 1) := by decide +kernel
theorem dX9_plan_24 : decode cX9_plan 24 = .ok (.if_icmp .eq 5, 3) := by decide +kernel
theorem dX9_plan_27 : decode cX9_plan 27 = .ok (.iconst (-1), 1) := by decide +kernel
theorem dX9_plan_28 : decode cX9_plan 28 = .ok (.ireturn, 1) := by decide +kernel
theorem dX9_plan_29 : decode cX9_plan 29 = .ok (.aload_n 0, 1) := by decide +kernel
theorem dX9_plan_30 : decode cX9_plan 30 = .ok (.getfield 7, 3) := by decide +kernel
theorem dX9_plan_33 : decode cX9_plan 33 = .ok (.aload_n 0, 1) := by decide +kernel
theorem dX9_plan_34 : decode cX9_plan 34 = .ok (.getfield 13, 3) := by decide +kernel
theorem dX9_plan_37 : decode cX9_plan 37 = .ok (.imul, 1) := by decide +kernel
theorem dX9_plan_38 : decode cX9_plan 38 = .ok (.istore_n 2, 1) := by decide +kernel
theorem dX9_plan_39 : decode cX9_plan 39 = .ok (.iconst 1, 1) := by decide +kernel
theorem dX9_plan_40 : decode cX9_plan 40 = .ok (.istore_n 3, 1) := by decide +kernel
theorem dX9_plan_41 : decode cX9_plan 41 = .ok (.iload_n 3, 1) := by decide +kernel
theorem dX9_plan_42 : decode cX9_plan 42 = .ok (.iconst 4, 1) := by decide +kernel
theorem dX9_plan_43 : decode cX9_plan 43 = .ok (.if_icmp .gt 81, 3) := by decide +kernel
theorem dX9_plan_46 : decode cX9_plan 46 = .ok (.iconst 0, 1) := by decide +kernel
theorem dX9_plan_47 : decode cX9_plan 47 = .ok (.istore 4, 2) := by decide +kernel
theorem dX9_plan_49 : decode cX9_plan 49 = .ok (.iload 4, 2) := by decide +kernel
theorem dX9_plan_51 : decode cX9_plan 51 = .ok (.aload_n 0, 1) := by decide +kernel
theorem dX9_plan_52 : decode cX9_plan 52 = .ok (.iload_n 3, 1) := by decide +kernel
theorem dX9_plan_53 : decode cX9_plan 53 = .ok (.invokevirtual 149, 3) := by decide +kernel
theorem dX9_plan_56 : decode cX9_plan 56 = .ok (.if_icmp .ge 62, 3) := by decide +kernel
theorem dX9_plan_59 : decode cX9_plan 59 = .ok (.iload 4, 2) := by decide +kernel
theorem dX9_plan_61 : decode cX9_plan 61 = .ok (.istore 5, 2) := by decide +kernel
theorem dX9_plan_63 : decode cX9_plan 63 = .ok (.iload 5, 2) := by decide +kernel
theorem dX9_plan_65 : decode cX9_plan 65 = .ok (.iload_n 2, 1) := by decide +kernel
theorem dX9_plan_66 : decode cX9_plan 66 = .ok (.irem, 1) := by decide +kernel
theorem dX9_plan_67 : decode cX9_plan 67 = .ok (.istore 6, 2) := by decide +kernel
theorem dX9_plan_69 : decode cX9_plan 69 = .ok (.iload 5, 2) := by decide +kernel
theorem dX9_plan_71 : decode cX9_plan 71 = .ok (.iload_n 2, 1) := by decide +kernel
theorem dX9_plan_72 : decode cX9_plan 72 = .ok (.idiv, 1) := by decide +kernel
theorem dX9_plan_73 : decode cX9_plan 73 = .ok (.istore 5, 2) := by decide +kernel
theorem dX9_plan_75 : decode cX9_plan 75 = .ok (.iload 5, 2) := by decide +kernel
theorem dX9_plan_77 : decode cX9_plan 77 = .ok (.iload_n 2, 1) := by decide +kernel
theorem dX9_plan_78 : decode cX9_plan 78 = .ok (.irem, 1) := by decide +kernel
theorem dX9_plan_79 : decode cX9_plan 79 = .ok (.istore 7, 2) := by decide +kernel
theorem dX9_plan_81 : decode cX9_plan 81 = .ok (.iload 5, 2) := by decide +kernel
theorem dX9_plan_83 : decode cX9_plan 83 = .ok (.iload_n 2, 1) := by decide +kernel
theorem dX9_plan_84 : decode cX9_plan 84 = .ok (.idiv, 1) := by decide +kernel
theorem dX9_plan_85 : decode cX9_plan 85 = .ok (.istore 5, 2) := by decide +kernel
theorem dX9_plan_87 : decode cX9_plan 87 = .ok (.aload_n 0, 1) := by decide +kernel
theorem dX9_plan_88 : decode cX9_plan 88 = .ok (.iload_n 1, 1) := by decide +kernel
theorem dX9_plan_89 : decode cX9_plan 89 = .ok (.iload_n 3, 1) := by decide +kernel
theorem dX9_plan_90 : decode cX9_plan 90 = .ok (.iload 6, 2) := by decide +kernel
theorem dX9_plan_92 : decode cX9_plan 92 = .ok (.iload 7, 2) := by decide +kernel
theorem dX9_plan_94 : decode cX9_plan 94 = .ok (.iload 5, 2) := by decide +kernel
theorem dX9_plan_96 : decode cX9_plan 96 = .ok (.iload_n 2, 1) := by decide +kernel
theorem dX9_plan_97 : decode cX9_plan 97 = .ok (.irem, 1) := by decide +kernel
theorem dX9_plan_98 : decode cX9_plan 98 = .ok (.iload 5, 2) := by decide +kernel
theorem dX9_plan_100 : decode cX9_plan 100 = .ok (.iload_n 2, 1) := by decide +kernel
theorem dX9_plan_101 : decode cX9_plan 101 = .ok (.idiv, 1) := by decide +kernel
theorem dX9_plan_102 : decode cX9_plan 102 = .ok (.iload_n 2, 1) := by decide +kernel
theorem dX9_plan_103 : decode cX9_plan 103 = .ok (.irem, 1) := by decide +kernel
theorem dX9_plan_104 : decode cX9_plan 104 = .ok (.invokevirtual 152, 3) := by decide +kernel
theorem dX9_plan_107 : decode cX9_plan 107 = .ok (.ifCond .eq 5, 3) := by decide +kernel
theorem dX9_plan_110 : decode cX9_plan 110 = .ok (.iload_n 3, 1) := by decide +kernel
theorem dX9_plan_111 : decode cX9_plan 111 = .ok (.ireturn, 1) := by decide +kernel
theorem dX9_plan_112 : decode cX9_plan 112 = .ok (.iinc 4 1, 3) := by decide +kernel
theorem dX9_plan_115 : decode cX9_plan 115 = .ok (.goto (-66), 3) := by decide +kernel
theorem dX9_plan_118 : decode cX9_plan 118 = .ok (.iinc 3 1, 3) := by decide +kernel
theorem dX9_plan_121 : decode cX9_plan 121 = .ok (.goto (-80), 3) := by decide +kernel
theorem dX9_plan_124 : decode cX9_plan 124 = .ok (.iconst (-1), 1) := by decide +kernel
theorem dX9_plan_125 : decode cX9_plan 125 = .ok (.ireturn, 1) := by decide +kernel
theorem dX9_says_0 : decode cX9_says 0 = .ok (.aload_n 0, 1) := by decide +kernel
theorem dX9_says_1 : decode cX9_says 1 = .ok (.getfield 48, 3) := by decide +kernel
theorem dX9_says_4 : decode cX9_says 4 = .ok (.aload_n 0, 1) := by decide +kernel
theorem dX9_says_5 : decode cX9_says 5 = .ok (.getfield 156, 3) := by decide +kernel
theorem dX9_says_8 : decode cX9_says 8 = .ok (.iload_n 1, 1) := by decide +kernel
theorem dX9_says_9 : decode cX9_says 9 = .ok (.i2b, 1) := by decide +kernel
theorem dX9_says_10 : decode cX9_says 10 = .ok (.bastore, 1) := by decide +kernel
theorem dX9_says_11 : decode cX9_says 11 = .ok (.aload_n 0, 1) := by decide +kernel
theorem dX9_says_12 : decode cX9_says 12 = .ok (.aload_n 0, 1) := by decide +kernel
theorem dX9_says_13 : decode cX9_says 13 = .ok (.getfield 156, 3) := by decide +kernel
theorem dX9_says_16 : decode cX9_says 16 = .ok (.iconst 1, 1) := by decide +kernel
theorem dX9_says_17 : decode cX9_says 17 = .ok (.iadd, 1) := by decide +kernel
theorem dX9_says_18 : decode cX9_says 18 = .ok (.putfield 156, 3) := by decide +kernel
theorem dX9_says_21 : decode cX9_says 21 = .ok (.return_, 1) := by decide +kernel
theorem dX9_saysNumber_0 : decode cX9_saysNumber 0 = .ok (.iload_n 1, 1) := by decide +kernel
theorem dX9_saysNumber_1 : decode cX9_saysNumber 1 = .ok (.bipush 10, 2) := by decide +kernel
theorem dX9_saysNumber_3 : decode cX9_saysNumber 3 = .ok (.if_icmp .lt 14, 3) := by decide +kernel
theorem dX9_saysNumber_6 : decode cX9_saysNumber 6 = .ok (.aload_n 0, 1) := by decide +kernel
theorem dX9_saysNumber_7 : decode cX9_saysNumber 7 = .ok (.bipush 48, 2) := by decide +kernel
theorem dX9_saysNumber_9 : decode cX9_saysNumber 9 = .ok (.iload_n 1, 1) := by decide +kernel
theorem dX9_saysNumber_10 : decode cX9_saysNumber 10 = .ok (.bipush 10, 2) := by decide +kernel
theorem dX9_saysNumber_12 : decode cX9_saysNumber 12 = .ok (.idiv, 1) := by decide +kernel
theorem dX9_saysNumber_13 : decode cX9_saysNumber 13 = .ok (.iadd, 1) := by decide +kernel
theorem dX9_saysNumber_14 : decode cX9_saysNumber 14 = .ok (.invokevirtual 159, 3) := by decide +kernel
theorem dX9_saysNumber_17 : decode cX9_saysNumber 17 = .ok (.aload_n 0, 1) := by decide +kernel
theorem dX9_saysNumber_18 : decode cX9_saysNumber 18 = .ok (.bipush 48, 2) := by decide +kernel
theorem dX9_saysNumber_20 : decode cX9_saysNumber 20 = .ok (.iload_n 1, 1) := by decide +kernel
theorem dX9_saysNumber_21 : decode cX9_saysNumber 21 = .ok (.bipush 10, 2) := by decide +kernel
theorem dX9_saysNumber_23 : decode cX9_saysNumber 23 = .ok (.irem, 1) := by decide +kernel
theorem dX9_saysNumber_24 : decode cX9_saysNumber 24 = .ok (.iadd, 1) := by decide +kernel
theorem dX9_saysNumber_25 : decode cX9_saysNumber 25 = .ok (.invokevirtual 159, 3) := by decide +kernel
theorem dX9_saysNumber_28 : decode cX9_saysNumber 28 = .ok (.return_, 1) := by decide +kernel
theorem dX9_saysCell_0 : decode cX9_saysCell 0 = .ok (.aload_n 0, 1) := by decide +kernel
theorem dX9_saysCell_1 : decode cX9_saysCell 1 = .ok (.bipush 97, 2) := by decide +kernel
theorem dX9_saysCell_3 : decode cX9_saysCell 3 = .ok (.iload_n 1, 1) := by decide +kernel
theorem dX9_saysCell_4 : decode cX9_saysCell 4 = .ok (.aload_n 0, 1) := by decide +kernel
theorem dX9_saysCell_5 : decode cX9_saysCell 5 = .ok (.getfield 7, 3) := by decide +kernel
theorem dX9_saysCell_8 : decode cX9_saysCell 8 = .ok (.irem, 1) := by decide +kernel
theorem dX9_saysCell_9 : decode cX9_saysCell 9 = .ok (.iadd, 1) := by decide +kernel
theorem dX9_saysCell_10 : decode cX9_saysCell 10 = .ok (.invokevirtual 159, 3) := by decide +kernel
theorem dX9_saysCell_13 : decode cX9_saysCell 13 = .ok (.aload_n 0, 1) := by decide +kernel
theorem dX9_saysCell_14 : decode cX9_saysCell 14 = .ok (.bipush 49, 2) := by decide +kernel
theorem dX9_saysCell_16 : decode cX9_saysCell 16 = .ok (.iload_n 1, 1) := by decide +kernel
theorem dX9_saysCell_17 : decode cX9_saysCell 17 = .ok (.aload_n 0, 1) := by decide +kernel
theorem dX9_saysCell_18 : decode cX9_saysCell 18 = .ok (.getfield 7, 3) := by decide +kernel
theorem dX9_saysCell_21 : decode cX9_saysCell 21 = .ok (.idiv, 1) := by decide +kernel
theorem dX9_saysCell_22 : decode cX9_saysCell 22 = .ok (.iadd, 1) := by decide +kernel
theorem dX9_saysCell_23 : decode cX9_saysCell 23 = .ok (.invokevirtual 159, 3) := by decide +kernel
theorem dX9_saysCell_26 : decode cX9_saysCell 26 = .ok (.return_, 1) := by decide +kernel
theorem dX9_lowestMissed_0 : decode cX9_lowestMissed 0 = .ok (.aload_n 0, 1) := by decide +kernel
theorem dX9_lowestMissed_1 : decode cX9_lowestMissed 1 = .ok (.iload_n 1, 1) := by decide +kernel
theorem dX9_lowestMissed_2 : decode cX9_lowestMissed 2 = .ok (.iconst 1, 1) := by decide +kernel
theorem dX9_lowestMissed_3 : decode cX9_lowestMissed 3 = .ok (.isub, 1) := by decide +kernel
theorem dX9_lowestMissed_4 : decode cX9_lowestMissed 4 = .ok (.invokevirtual 106, 3) := by decide +kernel
theorem dX9_lowestMissed_7 : decode cX9_lowestMissed 7 = .ok (.iconst 0, 1) := by decide +kernel
theorem dX9_lowestMissed_8 : decode cX9_lowestMissed 8 = .ok (.istore_n 2, 1) := by decide +kernel
theorem dX9_lowestMissed_9 : decode cX9_lowestMissed 9 = .ok (.iload_n 2, 1) := by decide +kernel
theorem dX9_lowestMissed_10 : decode cX9_lowestMissed 10 = .ok (.aload_n 0, 1) := by decide +kernel
theorem dX9_lowestMissed_11 : decode cX9_lowestMissed 11 = .ok (.getfield 7, 3) := by decide +kernel
theorem dX9_lowestMissed_14 : decode cX9_lowestMissed 14 = .ok (.aload_n 0, 1) := by decide +kernel
theorem dX9_lowestMissed_15 : decode cX9_lowestMissed 15 = .ok (.getfield 13, 3) := by decide +kernel
theorem dX9_lowestMissed_18 : decode cX9_lowestMissed 18 = .ok (.imul, 1) := by decide +kernel
theorem dX9_lowestMissed_19 : decode cX9_lowestMissed 19 = .ok (.if_icmp .ge 24, 3) := by decide +kernel
theorem dX9_lowestMissed_22 : decode cX9_lowestMissed 22 = .ok (.aload_n 0, 1) := by decide +kernel
theorem dX9_lowestMissed_23 : decode cX9_lowestMissed 23 = .ok (.iload_n 2, 1) := by decide +kernel
theorem dX9_lowestMissed_24 : decode cX9_lowestMissed 24 = .ok (.iload_n 1, 1) := by decide +kernel
theorem dX9_lowestMissed_25 : decode cX9_lowestMissed 25 = .ok (.iconst 1, 1) := by decide +kernel
theorem dX9_lowestMissed_26 : decode cX9_lowestMissed 26 = .ok (.isub, 1) := by decide +kernel
theorem dX9_lowestMissed_27 : decode cX9_lowestMissed 27 = .ok (.iconst 2, 1) := by decide +kernel
theorem dX9_lowestMissed_28 : decode cX9_lowestMissed 28 = .ok (.irem, 1) := by decide +kernel
theorem dX9_lowestMissed_29 : decode cX9_lowestMissed 29 = .ok (.invokevirtual 121, 3) := by decide +kernel
theorem dX9_lowestMissed_32 : decode cX9_lowestMissed 32 = .ok (.ifCond .eq 5, 3) := by decide +kernel
theorem dX9_lowestMissed_35 : decode cX9_lowestMissed 35 = .ok (.iload_n 2, 1) := by decide +kernel
theorem dX9_lowestMissed_36 : decode cX9_lowestMissed 36 = .ok (.ireturn, 1) := by decide +kernel
theorem dX9_lowestMissed_37 : decode cX9_lowestMissed 37 = .ok (.iinc 2 1, 3) := by decide +kernel
theorem dX9_lowestMissed_40 : decode cX9_lowestMissed 40 = .ok (.goto (-31), 3) := by decide +kernel
theorem dX9_lowestMissed_43 : decode cX9_lowestMissed 43 = .ok (.iconst (-1), 1) := by decide +kernel
theorem dX9_lowestMissed_44 : decode cX9_lowestMissed 44 = .ok (.ireturn, 1) := by decide +kernel
theorem dX9_saysMove_0 : decode cX9_saysMove 0 = .ok (.aload_n 0, 1) := by decide +kernel
theorem dX9_saysMove_1 : decode cX9_saysMove 1 = .ok (.iload_n 1, 1) := by decide +kernel
theorem dX9_saysMove_2 : decode cX9_saysMove 2 = .ok (.invokevirtual 162, 3) := by decide +kernel
theorem dX9_saysMove_5 : decode cX9_saysMove 5 = .ok (.aload_n 0, 1) := by decide +kernel
theorem dX9_saysMove_6 : decode cX9_saysMove 6 = .ok (.bipush 46, 2) := by decide +kernel
theorem dX9_saysMove_8 : decode cX9_saysMove 8 = .ok (.invokevirtual 159, 3) := by decide +kernel
theorem dX9_saysMove_11 : decode cX9_saysMove 11 = .ok (.aload_n 0, 1) := by decide +kernel
theorem dX9_saysMove_12 : decode cX9_saysMove 12 = .ok (.aload_n 0, 1) := by decide +kernel
theorem dX9_saysMove_13 : decode cX9_saysMove 13 = .ok (.getfield 22, 3) := by decide +kernel
theorem dX9_saysMove_16 : decode cX9_saysMove 16 = .ok (.iload_n 1, 1) := by decide +kernel
theorem dX9_saysMove_17 : decode cX9_saysMove 17 = .ok (.iconst 1, 1) := by decide +kernel
theorem dX9_saysMove_18 : decode cX9_saysMove 18 = .ok (.isub, 1) := by decide +kernel
theorem dX9_saysMove_19 : decode cX9_saysMove 19 = .ok (.iaload, 1) := by decide +kernel
theorem dX9_saysMove_20 : decode cX9_saysMove 20 = .ok (.invokevirtual 165, 3) := by decide +kernel
theorem dX9_saysMove_23 : decode cX9_saysMove 23 = .ok (.aload_n 0, 1) := by decide +kernel
theorem dX9_saysMove_24 : decode cX9_saysMove 24 = .ok (.iload_n 1, 1) := by decide +kernel
theorem dX9_saysMove_25 : decode cX9_saysMove 25 = .ok (.iconst 0, 1) := by decide +kernel
theorem dX9_saysMove_26 : decode cX9_saysMove 26 = .ok (.invokevirtual 168, 3) := by decide +kernel
theorem dX9_saysMove_29 : decode cX9_saysMove 29 = .ok (.ifCond .le 9, 3) := by decide +kernel
theorem dX9_saysMove_32 : decode cX9_saysMove 32 = .ok (.aload_n 0, 1) := by decide +kernel
theorem dX9_saysMove_33 : decode cX9_saysMove 33 = .ok (.bipush 35, 2) := by decide +kernel
theorem dX9_saysMove_35 : decode cX9_saysMove 35 = .ok (.invokevirtual 159, 3) := by decide +kernel
theorem dX9_saysMove_38 : decode cX9_saysMove 38 = .ok (.aload_n 0, 1) := by decide +kernel
theorem dX9_saysMove_39 : decode cX9_saysMove 39 = .ok (.iload_n 1, 1) := by decide +kernel
theorem dX9_saysMove_40 : decode cX9_saysMove 40 = .ok (.iconst 1, 1) := by decide +kernel
theorem dX9_saysMove_41 : decode cX9_saysMove 41 = .ok (.invokevirtual 168, 3) := by decide +kernel
theorem dX9_saysMove_44 : decode cX9_saysMove 44 = .ok (.istore_n 3, 1) := by decide +kernel
theorem dX9_saysMove_45 : decode cX9_saysMove 45 = .ok (.iload_n 3, 1) := by decide +kernel
theorem dX9_saysMove_46 : decode cX9_saysMove 46 = .ok (.ifCond .le 14, 3) := by decide +kernel
theorem dX9_saysMove_49 : decode cX9_saysMove 49 = .ok (.aload_n 0, 1) := by decide +kernel
theorem dX9_saysMove_50 : decode cX9_saysMove 50 = .ok (.bipush 43, 2) := by decide +kernel
theorem dX9_saysMove_52 : decode cX9_saysMove 52 = .ok (.invokevirtual 159, 3) := by decide +kernel
theorem dX9_saysMove_55 : decode cX9_saysMove 55 = .ok (.aload_n 0, 1) := by decide +kernel
theorem dX9_saysMove_56 : decode cX9_saysMove 56 = .ok (.iload_n 3, 1) := by decide +kernel
theorem dX9_saysMove_57 : decode cX9_saysMove 57 = .ok (.invokevirtual 162, 3) := by decide +kernel
theorem dX9_saysMove_60 : decode cX9_saysMove 60 = .ok (.iload_n 2, 1) := by decide +kernel
theorem dX9_saysMove_61 : decode cX9_saysMove 61 = .ok (.iconst 1, 1) := by decide +kernel
theorem dX9_saysMove_62 : decode cX9_saysMove 62 = .ok (.if_icmp .ne 18, 3) := by decide +kernel
theorem dX9_saysMove_65 : decode cX9_saysMove 65 = .ok (.aload_n 0, 1) := by decide +kernel
theorem dX9_saysMove_66 : decode cX9_saysMove 66 = .ok (.iload_n 1, 1) := by decide +kernel
theorem dX9_saysMove_67 : decode cX9_saysMove 67 = .ok (.iconst 2, 1) := by decide +kernel
theorem dX9_saysMove_68 : decode cX9_saysMove 68 = .ok (.invokevirtual 168, 3) := by decide +kernel
theorem dX9_saysMove_71 : decode cX9_saysMove 71 = .ok (.ifCond .le 9, 3) := by decide +kernel
theorem dX9_saysMove_74 : decode cX9_saysMove 74 = .ok (.aload_n 0, 1) := by decide +kernel
theorem dX9_saysMove_75 : decode cX9_saysMove 75 = .ok (.bipush 33, 2) := by decide +kernel
theorem dX9_saysMove_77 : decode cX9_saysMove 77 = .ok (.invokevirtual 159, 3) := by decide +kernel
theorem dX9_saysMove_80 : decode cX9_saysMove 80 = .ok (.iload_n 2, 1) := by decide +kernel
theorem dX9_saysMove_81 : decode cX9_saysMove 81 = .ok (.iconst 1, 1) := by decide +kernel
theorem dX9_saysMove_82 : decode cX9_saysMove 82 = .ok (.if_icmp .ne 12, 3) := by decide +kernel
theorem dX9_saysMove_85 : decode cX9_saysMove 85 = .ok (.aload_n 0, 1) := by decide +kernel
theorem dX9_saysMove_86 : decode cX9_saysMove 86 = .ok (.iload_n 1, 1) := by decide +kernel
theorem dX9_saysMove_87 : decode cX9_saysMove 87 = .ok (.iconst 3, 1) := by decide +kernel
theorem dX9_saysMove_88 : decode cX9_saysMove 88 = .ok (.invokevirtual 168, 3) := by decide +kernel
theorem dX9_saysMove_91 : decode cX9_saysMove 91 = .ok (.goto 4, 3) := by decide +kernel
theorem dX9_saysMove_94 : decode cX9_saysMove 94 = .ok (.iconst 0, 1) := by decide +kernel
theorem dX9_saysMove_95 : decode cX9_saysMove 95 = .ok (.istore 4, 2) := by decide +kernel
theorem dX9_saysMove_97 : decode cX9_saysMove 97 = .ok (.iconst 0, 1) := by decide +kernel
theorem dX9_saysMove_98 : decode cX9_saysMove 98 = .ok (.istore 5, 2) := by decide +kernel
theorem dX9_saysMove_100 : decode cX9_saysMove 100 = .ok (.iload 5, 2) := by decide +kernel
theorem dX9_saysMove_102 : decode cX9_saysMove 102 = .ok (.iload 4, 2) := by decide +kernel
theorem dX9_saysMove_104 : decode cX9_saysMove 104 = .ok (.if_icmp .ge 15, 3) := by decide +kernel
theorem dX9_saysMove_107 : decode cX9_saysMove 107 = .ok (.aload_n 0, 1) := by decide +kernel
theorem dX9_saysMove_108 : decode cX9_saysMove 108 = .ok (.bipush 63, 2) := by decide +kernel
theorem dX9_saysMove_110 : decode cX9_saysMove 110 = .ok (.invokevirtual 159, 3) := by decide +kernel
theorem dX9_saysMove_113 : decode cX9_saysMove 113 = .ok (.iinc 5 1, 3) := by decide +kernel
theorem dX9_saysMove_116 : decode cX9_saysMove 116 = .ok (.goto (-16), 3) := by decide +kernel
theorem dX9_saysMove_119 : decode cX9_saysMove 119 = .ok (.aload_n 0, 1) := by decide +kernel
theorem dX9_saysMove_120 : decode cX9_saysMove 120 = .ok (.iload_n 1, 1) := by decide +kernel
theorem dX9_saysMove_121 : decode cX9_saysMove 121 = .ok (.iconst 4, 1) := by decide +kernel
theorem dX9_saysMove_122 : decode cX9_saysMove 122 = .ok (.invokevirtual 168, 3) := by decide +kernel
theorem dX9_saysMove_125 : decode cX9_saysMove 125 = .ok (.ifCond .le 18, 3) := by decide +kernel
theorem dX9_saysMove_128 : decode cX9_saysMove 128 = .ok (.aload_n 0, 1) := by decide +kernel
theorem dX9_saysMove_129 : decode cX9_saysMove 129 = .ok (.bipush 42, 2) := by decide +kernel
theorem dX9_saysMove_131 : decode cX9_saysMove 131 = .ok (.invokevirtual 159, 3) := by decide +kernel
theorem dX9_saysMove_134 : decode cX9_saysMove 134 = .ok (.aload_n 0, 1) := by decide +kernel
theorem dX9_saysMove_135 : decode cX9_saysMove 135 = .ok (.aload_n 0, 1) := by decide +kernel
theorem dX9_saysMove_136 : decode cX9_saysMove 136 = .ok (.iload_n 1, 1) := by decide +kernel
theorem dX9_saysMove_137 : decode cX9_saysMove 137 = .ok (.invokevirtual 171, 3) := by decide +kernel
theorem dX9_saysMove_140 : decode cX9_saysMove 140 = .ok (.invokevirtual 165, 3) := by decide +kernel
theorem dX9_saysMove_143 : decode cX9_saysMove 143 = .ok (.iload_n 2, 1) := by decide +kernel
theorem dX9_saysMove_144 : decode cX9_saysMove 144 = .ok (.iconst 1, 1) := by decide +kernel
theorem dX9_saysMove_145 : decode cX9_saysMove 145 = .ok (.if_icmp .ne 18, 3) := by decide +kernel
theorem dX9_saysMove_148 : decode cX9_saysMove 148 = .ok (.aload_n 0, 1) := by decide +kernel
theorem dX9_saysMove_149 : decode cX9_saysMove 149 = .ok (.iload_n 1, 1) := by decide +kernel
theorem dX9_saysMove_150 : decode cX9_saysMove 150 = .ok (.iconst 5, 1) := by decide +kernel
theorem dX9_saysMove_151 : decode cX9_saysMove 151 = .ok (.invokevirtual 168, 3) := by decide +kernel
theorem dX9_saysMove_154 : decode cX9_saysMove 154 = .ok (.ifCond .le 9, 3) := by decide +kernel
theorem dX9_saysMove_157 : decode cX9_saysMove 157 = .ok (.aload_n 0, 1) := by decide +kernel
theorem dX9_saysMove_158 : decode cX9_saysMove 158 = .ok (.bipush 61, 2) := by decide +kernel
theorem dX9_saysMove_160 : decode cX9_saysMove 160 = .ok (.invokevirtual 159, 3) := by decide +kernel
theorem dX9_saysMove_163 : decode cX9_saysMove 163 = .ok (.return_, 1) := by decide +kernel
theorem dX9_words_0 : decode cX9_words 0 = .ok (.iload_n 1, 1) := by decide +kernel
theorem dX9_words_1 : decode cX9_words 1 = .ok (.iconst 1, 1) := by decide +kernel
theorem dX9_words_2 : decode cX9_words 2 = .ok (.aload_n 0, 1) := by decide +kernel
theorem dX9_words_3 : decode cX9_words 3 = .ok (.getfield 78, 3) := by decide +kernel
theorem dX9_words_6 : decode cX9_words 6 = .ok (.invokestatic 67, 3) := by decide +kernel
theorem dX9_words_9 : decode cX9_words 9 = .ok (.ifCond .eq 12, 3) := by decide +kernel
theorem dX9_words_12 : decode cX9_words 12 = .ok (.iload_n 2, 1) := by decide +kernel
theorem dX9_words_13 : decode cX9_words 13 = .ok (.iconst 0, 1) := by decide +kernel
theorem dX9_words_14 : decode cX9_words 14 = .ok (.iconst 1, 1) := by decide +kernel
theorem dX9_words_15 : decode cX9_words 15 = .ok (.invokestatic 67, 3) := by decide +kernel
theorem dX9_words_18 : decode cX9_words 18 = .ok (.ifCond .ne 5, 3) := by decide +kernel
theorem dX9_words_21 : decode cX9_words 21 = .ok (.iconst (-1), 1) := by decide +kernel
theorem dX9_words_22 : decode cX9_words 22 = .ok (.ireturn, 1) := by decide +kernel
theorem dX9_words_23 : decode cX9_words 23 = .ok (.aload_n 0, 1) := by decide +kernel
theorem dX9_words_24 : decode cX9_words 24 = .ok (.iconst 0, 1) := by decide +kernel
theorem dX9_words_25 : decode cX9_words 25 = .ok (.putfield 156, 3) := by decide +kernel
theorem dX9_words_28 : decode cX9_words 28 = .ok (.aload_n 0, 1) := by decide +kernel
theorem dX9_words_29 : decode cX9_words 29 = .ok (.iload_n 1, 1) := by decide +kernel
theorem dX9_words_30 : decode cX9_words 30 = .ok (.iload_n 2, 1) := by decide +kernel
theorem dX9_words_31 : decode cX9_words 31 = .ok (.invokevirtual 174, 3) := by decide +kernel
theorem dX9_words_34 : decode cX9_words 34 = .ok (.aload_n 0, 1) := by decide +kernel
theorem dX9_words_35 : decode cX9_words 35 = .ok (.getfield 156, 3) := by decide +kernel
theorem dX9_words_38 : decode cX9_words 38 = .ok (.ireturn, 1) := by decide +kernel
theorem dX9_tale_0 : decode cX9_tale 0 = .ok (.iload_n 1, 1) := by decide +kernel
theorem dX9_tale_1 : decode cX9_tale 1 = .ok (.iconst 0, 1) := by decide +kernel
theorem dX9_tale_2 : decode cX9_tale 2 = .ok (.iconst 1, 1) := by decide +kernel
theorem dX9_tale_3 : decode cX9_tale 3 = .ok (.invokestatic 67, 3) := by decide +kernel
theorem dX9_tale_6 : decode cX9_tale 6 = .ok (.ifCond .ne 5, 3) := by decide +kernel
theorem dX9_tale_9 : decode cX9_tale 9 = .ok (.iconst (-1), 1) := by decide +kernel
theorem dX9_tale_10 : decode cX9_tale 10 = .ok (.ireturn, 1) := by decide +kernel
theorem dX9_tale_11 : decode cX9_tale 11 = .ok (.aload_n 0, 1) := by decide +kernel
theorem dX9_tale_12 : decode cX9_tale 12 = .ok (.iconst 0, 1) := by decide +kernel
theorem dX9_tale_13 : decode cX9_tale 13 = .ok (.putfield 156, 3) := by decide +kernel
theorem dX9_tale_16 : decode cX9_tale 16 = .ok (.iconst 1, 1) := by decide +kernel
theorem dX9_tale_17 : decode cX9_tale 17 = .ok (.istore_n 2, 1) := by decide +kernel
theorem dX9_tale_18 : decode cX9_tale 18 = .ok (.iload_n 2, 1) := by decide +kernel
theorem dX9_tale_19 : decode cX9_tale 19 = .ok (.aload_n 0, 1) := by decide +kernel
theorem dX9_tale_20 : decode cX9_tale 20 = .ok (.getfield 78, 3) := by decide +kernel
theorem dX9_tale_23 : decode cX9_tale 23 = .ok (.if_icmp .gt 26, 3) := by decide +kernel
theorem dX9_tale_26 : decode cX9_tale 26 = .ok (.iload_n 2, 1) := by decide +kernel
theorem dX9_tale_27 : decode cX9_tale 27 = .ok (.iconst 1, 1) := by decide +kernel
theorem dX9_tale_28 : decode cX9_tale 28 = .ok (.if_icmp .le 9, 3) := by decide +kernel
theorem dX9_tale_31 : decode cX9_tale 31 = .ok (.aload_n 0, 1) := by decide +kernel
theorem dX9_tale_32 : decode cX9_tale 32 = .ok (.bipush 32, 2) := by decide +kernel
theorem dX9_tale_34 : decode cX9_tale 34 = .ok (.invokevirtual 159, 3) := by decide +kernel
theorem dX9_tale_37 : decode cX9_tale 37 = .ok (.aload_n 0, 1) := by decide +kernel
theorem dX9_tale_38 : decode cX9_tale 38 = .ok (.iload_n 2, 1) := by decide +kernel
theorem dX9_tale_39 : decode cX9_tale 39 = .ok (.iload_n 1, 1) := by decide +kernel
