theorem dX8_init_99 : decode cX8_init 99 = .ok (.putfield 53, 3) := by decide +kernel
theorem dX8_init_102 : decode cX8_init 102 = .ok (.aload_n 0, 1) := by decide +kernel
theorem dX8_init_103 : decode cX8_init 103 = .ok (.new 57, 3) := by decide +kernel
theorem dX8_init_106 : decode cX8_init 106 = .ok (.dup, 1) := by decide +kernel
theorem dX8_init_107 : decode cX8_init 107 = .ok (.invokespecial 59, 3) := by decide +kernel
theorem dX8_init_110 : decode cX8_init 110 = .ok (.putfield 60, 3) := by decide +kernel
theorem dX8_init_113 : decode cX8_init 113 = .ok (.aload_n 0, 1) := by decide +kernel
theorem dX8_init_114 : decode cX8_init 114 = .ok (.new 64, 3) := by decide +kernel
theorem dX8_init_117 : decode cX8_init 117 = .ok (.dup, 1) := by decide +kernel
theorem dX8_init_118 : decode cX8_init 118 = .ok (.invokespecial 66, 3) := by decide +kernel
theorem dX8_init_121 : decode cX8_init 121 = .ok (.putfield 67, 3) := by decide +kernel
theorem dX8_init_124 : decode cX8_init 124 = .ok (.return_, 1) := by decide +kernel
theorem dX8_game_0 : decode cX8_game 0 = .ok (.aload_n 0, 1) := by decide +kernel
theorem dX8_game_1 : decode cX8_game 1 = .ok (.getfield 10, 3) := by decide +kernel
theorem dX8_game_4 : decode cX8_game 4 = .ok (.iload_n 1, 1) := by decide +kernel
theorem dX8_game_5 : decode cX8_game 5 = .ok (.iload_n 2, 1) := by decide +kernel
theorem dX8_game_6 : decode cX8_game 6 = .ok (.iload_n 3, 1) := by decide +kernel
theorem dX8_game_7 : decode cX8_game 7 = .ok (.iload 4, 2) := by decide +kernel
theorem dX8_game_9 : decode cX8_game 9 = .ok (.iload 5, 2) := by decide +kernel
theorem dX8_game_11 : decode cX8_game 11 = .ok (.invokevirtual 71, 3) := by decide +kernel
theorem dX8_game_14 : decode cX8_game 14 = .ok (.ifCond .ne 5, 3) := by decide +kernel
theorem dX8_game_17 : decode cX8_game 17 = .ok (.iconst 0, 1) := by decide +kernel
theorem dX8_game_18 : decode cX8_game 18 = .ok (.ireturn, 1) := by decide +kernel
theorem dX8_game_19 : decode cX8_game 19 = .ok (.aload_n 0, 1) := by decide +kernel
theorem dX8_game_20 : decode cX8_game 20 = .ok (.getfield 21, 3) := by decide +kernel
theorem dX8_game_23 : decode cX8_game 23 = .ok (.invokevirtual 75, 3) := by decide +kernel
theorem dX8_game_26 : decode cX8_game 26 = .ok (.aload_n 0, 1) := by decide +kernel
theorem dX8_game_27 : decode cX8_game 27 = .ok (.getfield 37, 3) := by decide +kernel
theorem dX8_game_30 : decode cX8_game 30 = .ok (.invokevirtual 78, 3) := by decide +kernel
theorem dX8_game_33 : decode cX8_game 33 = .ok (.iconst 1, 1) := by decide +kernel
theorem dX8_game_34 : decode cX8_game 34 = .ok (.ireturn, 1) := by decide +kernel
theorem dX8_play_0 : decode cX8_play 0 = .ok (.aload_n 0, 1) := by decide +kernel
theorem dX8_play_1 : decode cX8_play 1 = .ok (.aload_n 0, 1) := by decide +kernel
theorem dX8_play_2 : decode cX8_play 2 = .ok (.getfield 10, 3) := by decide +kernel
theorem dX8_play_5 : decode cX8_play 5 = .ok (.iload_n 1, 1) := by decide +kernel
theorem dX8_play_6 : decode cX8_play 6 = .ok (.invokevirtual 81, 3) := by decide +kernel
theorem dX8_play_9 : decode cX8_play 9 = .ok (.invokevirtual 85, 3) := by decide +kernel
theorem dX8_play_12 : decode cX8_play 12 = .ok (.ifCond .eq 13, 3) := by decide +kernel
theorem dX8_play_15 : decode cX8_play 15 = .ok (.aload_n 0, 1) := by decide +kernel
theorem dX8_play_16 : decode cX8_play 16 = .ok (.getfield 21, 3) := by decide +kernel
theorem dX8_play_19 : decode cX8_play 19 = .ok (.getfield 89, 3) := by decide +kernel
theorem dX8_play_22 : decode cX8_play 22 = .ok (.goto 4, 3) := by decide +kernel
theorem dX8_play_25 : decode cX8_play 25 = .ok (.iconst (-1), 1) := by decide +kernel
theorem dX8_play_26 : decode cX8_play 26 = .ok (.ireturn, 1) := by decide +kernel
theorem dX8_back_0 : decode cX8_back 0 = .ok (.aload_n 0, 1) := by decide +kernel
theorem dX8_back_1 : decode cX8_back 1 = .ok (.getfield 21, 3) := by decide +kernel
theorem dX8_back_4 : decode cX8_back 4 = .ok (.invokevirtual 93, 3) := by decide +kernel
theorem dX8_back_7 : decode cX8_back 7 = .ok (.ifCond .eq 13, 3) := by decide +kernel
theorem dX8_back_10 : decode cX8_back 10 = .ok (.aload_n 0, 1) := by decide +kernel
theorem dX8_back_11 : decode cX8_back 11 = .ok (.getfield 21, 3) := by decide +kernel
theorem dX8_back_14 : decode cX8_back 14 = .ok (.getfield 89, 3) := by decide +kernel
theorem dX8_back_17 : decode cX8_back 17 = .ok (.goto 4, 3) := by decide +kernel
theorem dX8_back_20 : decode cX8_back 20 = .ok (.iconst (-1), 1) := by decide +kernel
theorem dX8_back_21 : decode cX8_back 21 = .ok (.ireturn, 1) := by decide +kernel
theorem dX8_depth_0 : decode cX8_depth 0 = .ok (.aload_n 0, 1) := by decide +kernel
theorem dX8_depth_1 : decode cX8_depth 1 = .ok (.getfield 37, 3) := by decide +kernel
theorem dX8_depth_4 : decode cX8_depth 4 = .ok (.iload_n 1, 1) := by decide +kernel
theorem dX8_depth_5 : decode cX8_depth 5 = .ok (.invokevirtual 97, 3) := by decide +kernel
theorem dX8_depth_8 : decode cX8_depth 8 = .ok (.ireturn, 1) := by decide +kernel
theorem dX8_weight_0 : decode cX8_weight 0 = .ok (.aload_n 0, 1) := by decide +kernel
theorem dX8_weight_1 : decode cX8_weight 1 = .ok (.getfield 37, 3) := by decide +kernel
theorem dX8_weight_4 : decode cX8_weight 4 = .ok (.iload_n 1, 1) := by decide +kernel
theorem dX8_weight_5 : decode cX8_weight 5 = .ok (.iload_n 2, 1) := by decide +kernel
theorem dX8_weight_6 : decode cX8_weight 6 = .ok (.invokevirtual 100, 3) := by decide +kernel
theorem dX8_weight_9 : decode cX8_weight 9 = .ok (.ireturn, 1) := by decide +kernel
theorem dX8_value_0 : decode cX8_value 0 = .ok (.aload_n 0, 1) := by decide +kernel
theorem dX8_value_1 : decode cX8_value 1 = .ok (.iload_n 1, 1) := by decide +kernel
theorem dX8_value_2 : decode cX8_value 2 = .ok (.invokevirtual 104, 3) := by decide +kernel
theorem dX8_value_5 : decode cX8_value 5 = .ok (.ifCond .eq 12, 3) := by decide +kernel
theorem dX8_value_8 : decode cX8_value 8 = .ok (.iload_n 2, 1) := by decide +kernel
theorem dX8_value_9 : decode cX8_value 9 = .ok (.ifCond .lt 8, 3) := by decide +kernel
theorem dX8_value_12 : decode cX8_value 12 = .ok (.iload_n 2, 1) := by decide +kernel
theorem dX8_value_13 : decode cX8_value 13 = .ok (.iconst 5, 1) := by decide +kernel
theorem dX8_value_14 : decode cX8_value 14 = .ok (.if_icmp .le 6, 3) := by decide +kernel
theorem dX8_value_17 : decode cX8_value 17 = .ok (.bipush (-2), 2) := by decide +kernel
theorem dX8_value_19 : decode cX8_value 19 = .ok (.ireturn, 1) := by decide +kernel
theorem dX8_value_20 : decode cX8_value 20 = .ok (.aload_n 0, 1) := by decide +kernel
theorem dX8_value_21 : decode cX8_value 21 = .ok (.getfield 37, 3) := by decide +kernel
theorem dX8_value_24 : decode cX8_value 24 = .ok (.iload_n 1, 1) := by decide +kernel
theorem dX8_value_25 : decode cX8_value 25 = .ok (.iload_n 2, 1) := by decide +kernel
theorem dX8_value_26 : decode cX8_value 26 = .ok (.invokevirtual 107, 3) := by decide +kernel
theorem dX8_value_29 : decode cX8_value 29 = .ok (.ireturn, 1) := by decide +kernel
theorem dX8_best_0 : decode cX8_best 0 = .ok (.aload_n 0, 1) := by decide +kernel
theorem dX8_best_1 : decode cX8_best 1 = .ok (.iload_n 1, 1) := by decide +kernel
theorem dX8_best_2 : decode cX8_best 2 = .ok (.invokevirtual 104, 3) := by decide +kernel
theorem dX8_best_5 : decode cX8_best 5 = .ok (.ifCond .eq 24, 3) := by decide +kernel
theorem dX8_best_8 : decode cX8_best 8 = .ok (.iload_n 2, 1) := by decide +kernel
theorem dX8_best_9 : decode cX8_best 9 = .ok (.iconst 1, 1) := by decide +kernel
theorem dX8_best_10 : decode cX8_best 10 = .ok (.if_icmp .lt 19, 3) := by decide +kernel
theorem dX8_best_13 : decode cX8_best 13 = .ok (.iload_n 2, 1) := by decide +kernel
theorem dX8_best_14 : decode cX8_best 14 = .ok (.iconst 5, 1) := by decide +kernel
theorem dX8_best_15 : decode cX8_best 15 = .ok (.if_icmp .gt 14, 3) := by decide +kernel
theorem dX8_best_18 : decode cX8_best 18 = .ok (.aload_n 0, 1) := by decide +kernel
theorem dX8_best_19 : decode cX8_best 19 = .ok (.getfield 21, 3) := by decide +kernel
theorem dX8_best_22 : decode cX8_best 22 = .ok (.iload_n 1, 1) := by decide +kernel
theorem dX8_best_23 : decode cX8_best 23 = .ok (.invokevirtual 111, 3) := by decide +kernel
theorem dX8_best_26 : decode cX8_best 26 = .ok (.ifCond .eq 5, 3) := by decide +kernel
theorem dX8_best_29 : decode cX8_best 29 = .ok (.iconst (-1), 1) := by decide +kernel
theorem dX8_best_30 : decode cX8_best 30 = .ok (.ireturn, 1) := by decide +kernel
theorem dX8_best_31 : decode cX8_best 31 = .ok (.aload_n 0, 1) := by decide +kernel
theorem dX8_best_32 : decode cX8_best 32 = .ok (.getfield 21, 3) := by decide +kernel
theorem dX8_best_35 : decode cX8_best 35 = .ok (.iload_n 1, 1) := by decide +kernel
theorem dX8_best_36 : decode cX8_best 36 = .ok (.iconst 1, 1) := by decide +kernel
theorem dX8_best_37 : decode cX8_best 37 = .ok (.iand, 1) := by decide +kernel
theorem dX8_best_38 : decode cX8_best 38 = .ok (.iload_n 1, 1) := by decide +kernel
theorem dX8_best_39 : decode cX8_best 39 = .ok (.invokevirtual 114, 3) := by decide +kernel
theorem dX8_best_42 : decode cX8_best 42 = .ok (.istore_n 3, 1) := by decide +kernel
theorem dX8_best_43 : decode cX8_best 43 = .ok (.aload_n 0, 1) := by decide +kernel
theorem dX8_best_44 : decode cX8_best 44 = .ok (.getfield 21, 3) := by decide +kernel
theorem dX8_best_47 : decode cX8_best 47 = .ok (.iconst 1, 1) := by decide +kernel
theorem dX8_best_48 : decode cX8_best 48 = .ok (.iload_n 1, 1) := by decide +kernel
theorem dX8_best_49 : decode cX8_best 49 = .ok (.iconst 1, 1) := by decide +kernel
theorem dX8_best_50 : decode cX8_best 50 = .ok (.iand, 1) := by decide +kernel
theorem dX8_best_51 : decode cX8_best 51 = .ok (.isub, 1) := by decide +kernel
theorem dX8_best_52 : decode cX8_best 52 = .ok (.iload_n 1, 1) := by decide +kernel
theorem dX8_best_53 : decode cX8_best 53 = .ok (.invokevirtual 114, 3) := by decide +kernel
theorem dX8_best_56 : decode cX8_best 56 = .ok (.istore 4, 2) := by decide +kernel
theorem dX8_best_58 : decode cX8_best 58 = .ok (.aload_n 0, 1) := by decide +kernel
theorem dX8_best_59 : decode cX8_best 59 = .ok (.getfield 10, 3) := by decide +kernel
theorem dX8_best_62 : decode cX8_best 62 = .ok (.iload_n 3, 1) := by decide +kernel
theorem dX8_best_63 : decode cX8_best 63 = .ok (.iload 4, 2) := by decide +kernel
theorem dX8_best_65 : decode cX8_best 65 = .ok (.ior, 1) := by decide +kernel
theorem dX8_best_66 : decode cX8_best 66 = .ok (.invokevirtual 117, 3) := by decide +kernel
theorem dX8_best_69 : decode cX8_best 69 = .ok (.istore 5, 2) := by decide +kernel
theorem dX8_best_71 : decode cX8_best 71 = .ok (.aload_n 0, 1) := by decide +kernel
theorem dX8_best_72 : decode cX8_best 72 = .ok (.getfield 37, 3) := by decide +kernel
theorem dX8_best_75 : decode cX8_best 75 = .ok (.iload_n 1, 1) := by decide +kernel
theorem dX8_best_76 : decode cX8_best 76 = .ok (.iload_n 2, 1) := by decide +kernel
theorem dX8_best_77 : decode cX8_best 77 = .ok (.invokevirtual 107, 3) := by decide +kernel
theorem dX8_best_80 : decode cX8_best 80 = .ok (.istore 6, 2) := by decide +kernel
theorem dX8_best_82 : decode cX8_best 82 = .ok (.iload 6, 2) := by decide +kernel
theorem dX8_best_84 : decode cX8_best 84 = .ok (.ifCond .ge 7, 3) := by decide +kernel
theorem dX8_best_87 : decode cX8_best 87 = .ok (.iconst 1, 1) := by decide +kernel
theorem dX8_best_88 : decode cX8_best 88 = .ok (.goto 4, 3) := by decide +kernel
theorem dX8_best_91 : decode cX8_best 91 = .ok (.iconst 0, 1) := by decide +kernel
theorem dX8_best_92 : decode cX8_best 92 = .ok (.istore 7, 2) := by decide +kernel
theorem dX8_best_94 : decode cX8_best 94 = .ok (.aload_n 0, 1) := by decide +kernel
theorem dX8_best_95 : decode cX8_best 95 = .ok (.getfield 10, 3) := by decide +kernel
theorem dX8_best_98 : decode cX8_best 98 = .ok (.iload 7, 2) := by decide +kernel
theorem dX8_best_100 : decode cX8_best 100 = .ok (.ifCond .eq 12, 3) := by decide +kernel
theorem dX8_best_103 : decode cX8_best 103 = .ok (.iload 5, 2) := by decide +kernel
theorem dX8_best_105 : decode cX8_best 105 = .ok (.iload 5, 2) := by decide +kernel
theorem dX8_best_107 : decode cX8_best 107 = .ok (.ineg, 1) := by decide +kernel
theorem dX8_best_108 : decode cX8_best 108 = .ok (.iand, 1) := by decide +kernel
theorem dX8_best_109 : decode cX8_best 109 = .ok (.goto 20, 3) := by decide +kernel
theorem dX8_best_112 : decode cX8_best 112 = .ok (.aload_n 0, 1) := by decide +kernel
theorem dX8_best_113 : decode cX8_best 113 = .ok (.getfield 28, 3) := by decide +kernel
theorem dX8_best_116 : decode cX8_best 116 = .ok (.iload_n 3, 1) := by decide +kernel
theorem dX8_best_117 : decode cX8_best 117 = .ok (.iload 4, 2) := by decide +kernel
theorem dX8_best_119 : decode cX8_best 119 = .ok (.iload 5, 2) := by decide +kernel
theorem dX8_best_121 : decode cX8_best 121 = .ok (.iload_n 2, 1) := by decide +kernel
theorem dX8_best_122 : decode cX8_best 122 = .ok (.iconst 1, 1) := by decide +kernel
theorem dX8_best_123 : decode cX8_best 123 = .ok (.isub, 1) := by decide +kernel
theorem dX8_best_124 : decode cX8_best 124 = .ok (.iload 6, 2) := by decide +kernel
theorem dX8_best_126 : decode cX8_best 126 = .ok (.invokevirtual 120, 3) := by decide +kernel
theorem dX8_best_129 : decode cX8_best 129 = .ok (.invokevirtual 124, 3) := by decide +kernel
theorem dX8_best_132 : decode cX8_best 132 = .ok (.ireturn, 1) := by decide +kernel
theorem dX8_found_0 : decode cX8_found 0 = .ok (.aload_n 0, 1) := by decide +kernel
theorem dX8_found_1 : decode cX8_found 1 = .ok (.iload_n 1, 1) := by decide +kernel
theorem dX8_found_2 : decode cX8_found 2 = .ok (.invokevirtual 127, 3) := by decide +kernel
theorem dX8_found_5 : decode cX8_found 5 = .ok (.ifCond .eq 13, 3) := by decide +kernel
theorem dX8_found_8 : decode cX8_found 8 = .ok (.iload_n 2, 1) := by decide +kernel
theorem dX8_found_9 : decode cX8_found 9 = .ok (.ifCond .lt 9, 3) := by decide +kernel
theorem dX8_found_12 : decode cX8_found 12 = .ok (.iload_n 2, 1) := by decide +kernel
theorem dX8_found_13 : decode cX8_found 13 = .ok (.bipush 6, 2) := by decide +kernel
theorem dX8_found_15 : decode cX8_found 15 = .ok (.if_icmp .lt 5, 3) := by decide +kernel
theorem dX8_found_18 : decode cX8_found 18 = .ok (.iconst (-1), 1) := by decide +kernel
theorem dX8_found_19 : decode cX8_found 19 = .ok (.ireturn, 1) := by decide +kernel
theorem dX8_found_20 : decode cX8_found 20 = .ok (.aload_n 0, 1) := by decide +kernel
theorem dX8_found_21 : decode cX8_found 21 = .ok (.getfield 37, 3) := by decide +kernel
theorem dX8_found_24 : decode cX8_found 24 = .ok (.invokevirtual 130, 3) := by decide +kernel
theorem dX8_found_27 : decode cX8_found 27 = .ok (.aload_n 0, 1) := by decide +kernel
theorem dX8_found_28 : decode cX8_found 28 = .ok (.getfield 37, 3) := by decide +kernel
theorem dX8_found_31 : decode cX8_found 31 = .ok (.iload_n 1, 1) := by decide +kernel
theorem dX8_found_32 : decode cX8_found 32 = .ok (.iload_n 2, 1) := by decide +kernel
theorem dX8_found_33 : decode cX8_found 33 = .ok (.invokevirtual 133, 3) := by decide +kernel
theorem dX8_found_36 : decode cX8_found 36 = .ok (.ireturn, 1) := by decide +kernel
theorem dX8_leader_0 : decode cX8_leader 0 = .ok (.aload_n 0, 1) := by decide +kernel
theorem dX8_leader_1 : decode cX8_leader 1 = .ok (.iload_n 1, 1) := by decide +kernel
theorem dX8_leader_2 : decode cX8_leader 2 = .ok (.invokevirtual 104, 3) := by decide +kernel
theorem dX8_leader_5 : decode cX8_leader 5 = .ok (.ifCond .eq 14, 3) := by decide +kernel
theorem dX8_leader_8 : decode cX8_leader 8 = .ok (.aload_n 0, 1) := by decide +kernel
theorem dX8_leader_9 : decode cX8_leader 9 = .ok (.getfield 37, 3) := by decide +kernel
theorem dX8_leader_12 : decode cX8_leader 12 = .ok (.iload_n 1, 1) := by decide +kernel
theorem dX8_leader_13 : decode cX8_leader 13 = .ok (.invokevirtual 136, 3) := by decide +kernel
theorem dX8_leader_16 : decode cX8_leader 16 = .ok (.goto 4, 3) := by decide +kernel
theorem dX8_leader_19 : decode cX8_leader 19 = .ok (.iconst (-1), 1) := by decide +kernel
theorem dX8_leader_20 : decode cX8_leader 20 = .ok (.ireturn, 1) := by decide +kernel
theorem dX8_plan_0 : decode cX8_plan 0 = .ok (.iload_n 1, 1) := by decide +kernel
theorem dX8_plan_1 : decode cX8_plan 1 = .ok (.ifCond .lt 25, 3) := by decide +kernel
theorem dX8_plan_4 : decode cX8_plan 4 = .ok (.iload_n 1, 1) := by decide +kernel
theorem dX8_plan_5 : decode cX8_plan 5 = .ok (.iconst 1, 1) := by decide +kernel
theorem dX8_plan_6 : decode cX8_plan 6 = .ok (.if_icmp .gt 20, 3) := by decide +kernel
theorem dX8_plan_9 : decode cX8_plan 9 = .ok (.aload_n 0, 1) := by decide +kernel
theorem dX8_plan_10 : decode cX8_plan 10 = .ok (.getfield 21, 3) := by decide +kernel
theorem dX8_plan_13 : decode cX8_plan 13 = .ok (.aload_n 0, 1) := by decide +kernel
theorem dX8_plan_14 : decode cX8_plan 14 = .ok (.getfield 21, 3) := by decide +kernel
theorem dX8_plan_17 : decode cX8_plan 17 = .ok (.getfield 89, 3) := by decide +kernel
theorem dX8_plan_20 : decode cX8_plan 20 = .ok (.invokevirtual 111, 3) := by decide +kernel
theorem dX8_plan_23 : decode cX8_plan 23 = .ok (.ifCond .eq 5, 3) := by decide +kernel
theorem dX8_plan_26 : decode cX8_plan 26 = .ok (.iconst (-1), 1) := by decide +kernel
theorem dX8_plan_27 : decode cX8_plan 27 = .ok (.ireturn, 1) := by decide +kernel
theorem dX8_plan_28 : decode cX8_plan 28 = .ok (.aload_n 0, 1) := by decide +kernel
theorem dX8_plan_29 : decode cX8_plan 29 = .ok (.getfield 21, 3) := by decide +kernel
theorem dX8_plan_32 : decode cX8_plan 32 = .ok (.iload_n 1, 1) := by decide +kernel
theorem dX8_plan_33 : decode cX8_plan 33 = .ok (.aload_n 0, 1) := by decide +kernel
theorem dX8_plan_34 : decode cX8_plan 34 = .ok (.getfield 21, 3) := by decide +kernel
theorem dX8_plan_37 : decode cX8_plan 37 = .ok (.getfield 89, 3) := by decide +kernel
theorem dX8_plan_40 : decode cX8_plan 40 = .ok (.invokevirtual 114, 3) := by decide +kernel
theorem dX8_plan_43 : decode cX8_plan 43 = .ok (.istore_n 2, 1) := by decide +kernel
theorem dX8_plan_44 : decode cX8_plan 44 = .ok (.aload_n 0, 1) := by decide +kernel
theorem dX8_plan_45 : decode cX8_plan 45 = .ok (.getfield 21, 3) := by decide +kernel
theorem dX8_plan_48 : decode cX8_plan 48 = .ok (.iconst 1, 1) := by decide +kernel
theorem dX8_plan_49 : decode cX8_plan 49 = .ok (.iload_n 1, 1) := by decide +kernel
theorem dX8_plan_50 : decode cX8_plan 50 = .ok (.isub, 1) := by decide +kernel
theorem dX8_plan_51 : decode cX8_plan 51 = .ok (.aload_n 0, 1) := by decide +kernel
theorem dX8_plan_52 : decode cX8_plan 52 = .ok (.getfield 21, 3) := by decide +kernel
theorem dX8_plan_55 : decode cX8_plan 55 = .ok (.getfield 89, 3) := by decide +kernel
theorem dX8_plan_58 : decode cX8_plan 58 = .ok (.invokevirtual 114, 3) := by decide +kernel
theorem dX8_plan_61 : decode cX8_plan 61 = .ok (.istore_n 3, 1) := by decide +kernel
theorem dX8_plan_62 : decode cX8_plan 62 = .ok (.aload_n 0, 1) := by decide +kernel
theorem dX8_plan_63 : decode cX8_plan 63 = .ok (.getfield 10, 3) := by decide +kernel
theorem dX8_plan_66 : decode cX8_plan 66 = .ok (.iload_n 2, 1) := by decide +kernel
theorem dX8_plan_67 : decode cX8_plan 67 = .ok (.iload_n 3, 1) := by decide +kernel
theorem dX8_plan_68 : decode cX8_plan 68 = .ok (.invokevirtual 139, 3) := by decide +kernel
theorem dX8_plan_71 : decode cX8_plan 71 = .ok (.istore 4, 2) := by decide +kernel
theorem dX8_plan_73 : decode cX8_plan 73 = .ok (.iload 4, 2) := by decide +kernel
theorem dX8_plan_75 : decode cX8_plan 75 = .ok (.iconst 4, 1) := by decide +kernel
theorem dX8_plan_76 : decode cX8_plan 76 = .ok (.if_icmp .gt 8, 3) := by decide +kernel
theorem dX8_plan_79 : decode cX8_plan 79 = .ok (.iload 4, 2) := by decide +kernel
theorem dX8_plan_81 : decode cX8_plan 81 = .ok (.goto 4, 3) := by decide +kernel
theorem dX8_plan_84 : decode cX8_plan 84 = .ok (.iconst (-1), 1) := by decide +kernel
theorem dX8_plan_85 : decode cX8_plan 85 = .ok (.ireturn, 1) := by decide +kernel
theorem dX8_words_0 : decode cX8_words 0 = .ok (.aload_n 0, 1) := by decide +kernel
theorem dX8_words_1 : decode cX8_words 1 = .ok (.iload_n 1, 1) := by decide +kernel
theorem dX8_words_2 : decode cX8_words 2 = .ok (.invokevirtual 127, 3) := by decide +kernel
theorem dX8_words_5 : decode cX8_words 5 = .ok (.ifCond .eq 10, 3) := by decide +kernel
theorem dX8_words_8 : decode cX8_words 8 = .ok (.iload_n 2, 1) := by decide +kernel
theorem dX8_words_9 : decode cX8_words 9 = .ok (.invokestatic 142, 3) := by decide +kernel
theorem dX8_words_12 : decode cX8_words 12 = .ok (.ifCond .ne 5, 3) := by decide +kernel
theorem dX8_words_15 : decode cX8_words 15 = .ok (.iconst (-1), 1) := by decide +kernel
theorem dX8_words_16 : decode cX8_words 16 = .ok (.ireturn, 1) := by decide +kernel
theorem dX8_words_17 : decode cX8_words 17 = .ok (.aload_n 0, 1) := by decide +kernel
theorem dX8_words_18 : decode cX8_words 18 = .ok (.getfield 37, 3) := by decide +kernel
theorem dX8_words_21 : decode cX8_words 21 = .ok (.invokevirtual 130, 3) := by decide +kernel
theorem dX8_words_24 : decode cX8_words 24 = .ok (.aload_n 0, 1) := by decide +kernel
theorem dX8_words_25 : decode cX8_words 25 = .ok (.getfield 67, 3) := by decide +kernel
theorem dX8_words_28 : decode cX8_words 28 = .ok (.invokevirtual 145, 3) := by decide +kernel
theorem dX8_words_31 : decode cX8_words 31 = .ok (.aload_n 0, 1) := by decide +kernel
theorem dX8_words_32 : decode cX8_words 32 = .ok (.getfield 46, 3) := by decide +kernel
theorem dX8_words_35 : decode cX8_words 35 = .ok (.aload_n 0, 1) := by decide +kernel
theorem dX8_words_36 : decode cX8_words 36 = .ok (.getfield 67, 3) := by decide +kernel
theorem dX8_words_39 : decode cX8_words 39 = .ok (.iload_n 1, 1) := by decide +kernel
theorem dX8_words_40 : decode cX8_words 40 = .ok (.iload_n 2, 1) := by decide +kernel
theorem dX8_words_41 : decode cX8_words 41 = .ok (.invokevirtual 146, 3) := by decide +kernel
theorem dX8_words_44 : decode cX8_words 44 = .ok (.aload_n 0, 1) := by decide +kernel
theorem dX8_words_45 : decode cX8_words 45 = .ok (.getfield 67, 3) := by decide +kernel
theorem dX8_words_48 : decode cX8_words 48 = .ok (.getfield 150, 3) := by decide +kernel
theorem dX8_words_51 : decode cX8_words 51 = .ok (.ireturn, 1) := by decide +kernel
theorem dX8_tale_0 : decode cX8_tale 0 = .ok (.iload_n 1, 1) := by decide +kernel
theorem dX8_tale_1 : decode cX8_tale 1 = .ok (.invokestatic 142, 3) := by decide +kernel
theorem dX8_tale_4 : decode cX8_tale 4 = .ok (.ifCond .ne 5, 3) := by decide +kernel
theorem dX8_tale_7 : decode cX8_tale 7 = .ok (.iconst (-1), 1) := by decide +kernel
theorem dX8_tale_8 : decode cX8_tale 8 = .ok (.ireturn, 1) := by decide +kernel
theorem dX8_tale_9 : decode cX8_tale 9 = .ok (.aload_n 0, 1) := by decide +kernel
theorem dX8_tale_10 : decode cX8_tale 10 = .ok (.getfield 37, 3) := by decide +kernel
theorem dX8_tale_13 : decode cX8_tale 13 = .ok (.invokevirtual 130, 3) := by decide +kernel
theorem dX8_tale_16 : decode cX8_tale 16 = .ok (.aload_n 0, 1) := by decide +kernel
theorem dX8_tale_17 : decode cX8_tale 17 = .ok (.getfield 67, 3) := by decide +kernel
theorem dX8_tale_20 : decode cX8_tale 20 = .ok (.invokevirtual 145, 3) := by decide +kernel
theorem dX8_tale_23 : decode cX8_tale 23 = .ok (.iconst 1, 1) := by decide +kernel
theorem dX8_tale_24 : decode cX8_tale 24 = .ok (.istore_n 2, 1) := by decide +kernel
theorem dX8_tale_25 : decode cX8_tale 25 = .ok (.iload_n 2, 1) := by decide +kernel
theorem dX8_tale_26 : decode cX8_tale 26 = .ok (.aload_n 0, 1) := by decide +kernel
theorem dX8_tale_27 : decode cX8_tale 27 = .ok (.getfield 21, 3) := by decide +kernel
theorem dX8_tale_30 : decode cX8_tale 30 = .ok (.getfield 89, 3) := by decide +kernel
theorem dX8_tale_33 : decode cX8_tale 33 = .ok (.if_icmp .gt 36, 3) := by decide +kernel
theorem dX8_tale_36 : decode cX8_tale 36 = .ok (.iload_n 2, 1) := by decide +kernel
theorem dX8_tale_37 : decode cX8_tale 37 = .ok (.iconst 1, 1) := by decide +kernel
theorem dX8_tale_38 : decode cX8_tale 38 = .ok (.if_icmp .le 12, 3) := by decide +kernel
theorem dX8_tale_41 : decode cX8_tale 41 = .ok (.aload_n 0, 1) := by decide +kernel
theorem dX8_tale_42 : decode cX8_tale 42 = .ok (.getfield 67, 3) := by decide +kernel
theorem dX8_tale_45 : decode cX8_tale 45 = .ok (.bipush 32, 2) := by decide +kernel
theorem dX8_tale_47 : decode cX8_tale 47 = .ok (.invokevirtual 153, 3) := by decide +kernel
theorem dX8_tale_50 : decode cX8_tale 50 = .ok (.aload_n 0, 1) := by decide +kernel
theorem dX8_tale_51 : decode cX8_tale 51 = .ok (.getfield 46, 3) := by decide +kernel
theorem dX8_tale_54 : decode cX8_tale 54 = .ok (.aload_n 0, 1) := by decide +kernel
theorem dX8_tale_55 : decode cX8_tale 55 = .ok (.getfield 67, 3) := by decide +kernel
theorem dX8_tale_58 : decode cX8_tale 58 = .ok (.iload_n 2, 1) := by decide +kernel
theorem dX8_tale_59 : decode cX8_tale 59 = .ok (.iload_n 1, 1) := by decide +kernel
theorem dX8_tale_60 : decode cX8_tale 60 = .ok (.invokevirtual 146, 3) := by decide +kernel
theorem dX8_tale_63 : decode cX8_tale 63 = .ok (.iinc 2 1, 3) := by decide +kernel
theorem dX8_tale_66 : decode cX8_tale 66 = .ok (.goto (-41), 3) := by decide +kernel
theorem dX8_tale_69 : decode cX8_tale 69 = .ok (.aload_n 0, 1) := by decide +kernel
theorem dX8_tale_70 : decode cX8_tale 70 = .ok (.getfield 67, 3) := by decide +kernel
theorem dX8_tale_73 : decode cX8_tale 73 = .ok (.getfield 150, 3) := by decide +kernel
theorem dX8_tale_76 : decode cX8_tale 76 = .ok (.ireturn, 1) := by decide +kernel
theorem dX8_octet_0 : decode cX8_octet 0 = .ok (.aload_n 0, 1) := by decide +kernel
theorem dX8_octet_1 : decode cX8_octet 1 = .ok (.getfield 67, 3) := by decide +kernel
theorem dX8_octet_4 : decode cX8_octet 4 = .ok (.iload_n 1, 1) := by decide +kernel
theorem dX8_octet_5 : decode cX8_octet 5 = .ok (.invokevirtual 157, 3) := by decide +kernel
theorem dX8_octet_8 : decode cX8_octet 8 = .ok (.ireturn, 1) := by decide +kernel
theorem dX8_chosen_0 : decode cX8_chosen 0 = .ok (.iload_n 1, 1) := by decide +kernel
theorem dX8_chosen_1 : decode cX8_chosen 1 = .ok (.ifCond .lt 10, 3) := by decide +kernel
theorem dX8_chosen_4 : decode cX8_chosen 4 = .ok (.iload_n 1, 1) := by decide +kernel
theorem dX8_chosen_5 : decode cX8_chosen 5 = .ok (.sipush 200, 3) := by decide +kernel
theorem dX8_chosen_8 : decode cX8_chosen 8 = .ok (.if_icmp .le 5, 3) := by decide +kernel
theorem dX8_chosen_11 : decode cX8_chosen 11 = .ok (.iconst (-1), 1) := by decide +kernel
theorem dX8_chosen_12 : decode cX8_chosen 12 = .ok (.ireturn, 1) := by decide +kernel
theorem dX8_chosen_13 : decode cX8_chosen 13 = .ok (.aload_n 0, 1) := by decide +kernel
theorem dX8_chosen_14 : decode cX8_chosen 14 = .ok (.getfield 37, 3) := by decide +kernel
theorem dX8_chosen_17 : decode cX8_chosen 17 = .ok (.invokevirtual 130, 3) := by decide +kernel
theorem dX8_chosen_20 : decode cX8_chosen 20 = .ok (.aload_n 0, 1) := by decide +kernel
theorem dX8_chosen_21 : decode cX8_chosen 21 = .ok (.getfield 53, 3) := by decide +kernel
theorem dX8_chosen_24 : decode cX8_chosen 24 = .ok (.invokevirtual 160, 3) := by decide +kernel
theorem dX8_chosen_27 : decode cX8_chosen 27 = .ok (.iconst 1, 1) := by decide +kernel
theorem dX8_chosen_28 : decode cX8_chosen 28 = .ok (.istore_n 2, 1) := by decide +kernel
theorem dX8_chosen_29 : decode cX8_chosen 29 = .ok (.iload_n 2, 1) := by decide +kernel
theorem dX8_chosen_30 : decode cX8_chosen 30 = .ok (.aload_n 0, 1) := by decide +kernel
theorem dX8_chosen_31 : decode cX8_chosen 31 = .ok (.getfield 21, 3) := by decide +kernel
theorem dX8_chosen_34 : decode cX8_chosen 34 = .ok (.getfield 89, 3) := by decide +kernel
theorem dX8_chosen_37 : decode cX8_chosen 37 = .ok (.if_icmp .gt 39, 3) := by decide +kernel
theorem dX8_chosen_40 : decode cX8_chosen 40 = .ok (.aload_n 0, 1) := by decide +kernel
theorem dX8_chosen_41 : decode cX8_chosen 41 = .ok (.getfield 37, 3) := by decide +kernel
theorem dX8_chosen_44 : decode cX8_chosen 44 = .ok (.iload_n 2, 1) := by decide +kernel
theorem dX8_chosen_45 : decode cX8_chosen 45 = .ok (.invokevirtual 161, 3) := by decide +kernel
theorem dX8_chosen_48 : decode cX8_chosen 48 = .ok (.istore_n 3, 1) := by decide +kernel
theorem dX8_chosen_49 : decode cX8_chosen 49 = .ok (.iload_n 3, 1) := by decide +kernel
theorem dX8_chosen_50 : decode cX8_chosen 50 = .ok (.ifCond .le 20, 3) := by decide +kernel
theorem dX8_chosen_53 : decode cX8_chosen 53 = .ok (.aload_n 0, 1) := by decide +kernel
theorem dX8_chosen_54 : decode cX8_chosen 54 = .ok (.getfield 53, 3) := by decide +kernel
theorem dX8_chosen_57 : decode cX8_chosen 57 = .ok (.iload_n 2, 1) := by decide +kernel
theorem dX8_chosen_58 : decode cX8_chosen 58 = .ok (.iload_n 3, 1) := by decide +kernel
theorem dX8_chosen_59 : decode cX8_chosen 59 = .ok (.aload_n 0, 1) := by decide +kernel
theorem dX8_chosen_60 : decode cX8_chosen 60 = .ok (.getfield 46, 3) := by decide +kernel
theorem dX8_chosen_63 : decode cX8_chosen 63 = .ok (.iload_n 2, 1) := by decide +kernel
theorem dX8_chosen_64 : decode cX8_chosen 64 = .ok (.invokevirtual 164, 3) := by decide +kernel
theorem dX8_chosen_67 : decode cX8_chosen 67 = .ok (.invokevirtual 167, 3) := by decide +kernel
theorem dX8_chosen_70 : decode cX8_chosen 70 = .ok (.iinc 2 1, 3) := by decide +kernel
theorem dX8_chosen_73 : decode cX8_chosen 73 = .ok (.goto (-44), 3) := by decide +kernel
theorem dX8_chosen_76 : decode cX8_chosen 76 = .ok (.aload_n 0, 1) := by decide +kernel
theorem dX8_chosen_77 : decode cX8_chosen 77 = .ok (.getfield 53, 3) := by decide +kernel
theorem dX8_chosen_80 : decode cX8_chosen 80 = .ok (.iload_n 1, 1) := by decide +kernel
theorem dX8_chosen_81 : decode cX8_chosen 81 = .ok (.invokevirtual 171, 3) := by decide +kernel
theorem dX8_chosen_84 : decode cX8_chosen 84 = .ok (.ireturn, 1) := by decide +kernel
theorem dX8_worth_0 : decode cX8_worth 0 = .ok (.aload_n 0, 1) := by decide +kernel
theorem dX8_worth_1 : decode cX8_worth 1 = .ok (.iload_n 1, 1) := by decide +kernel
theorem dX8_worth_2 : decode cX8_worth 2 = .ok (.invokevirtual 127, 3) := by decide +kernel
theorem dX8_worth_5 : decode cX8_worth 5 = .ok (.ifCond .ne 5, 3) := by decide +kernel
theorem dX8_worth_8 : decode cX8_worth 8 = .ok (.iconst (-1), 1) := by decide +kernel
theorem dX8_worth_9 : decode cX8_worth 9 = .ok (.ireturn, 1) := by decide +kernel
theorem dX8_worth_10 : decode cX8_worth 10 = .ok (.aload_n 0, 1) := by decide +kernel
theorem dX8_worth_11 : decode cX8_worth 11 = .ok (.getfield 37, 3) := by decide +kernel
theorem dX8_worth_14 : decode cX8_worth 14 = .ok (.invokevirtual 130, 3) := by decide +kernel
theorem dX8_worth_17 : decode cX8_worth 17 = .ok (.aload_n 0, 1) := by decide +kernel
theorem dX8_worth_18 : decode cX8_worth 18 = .ok (.getfield 37, 3) := by decide +kernel
theorem dX8_worth_21 : decode cX8_worth 21 = .ok (.iload_n 1, 1) := by decide +kernel
theorem dX8_worth_22 : decode cX8_worth 22 = .ok (.invokevirtual 161, 3) := by decide +kernel
theorem dX8_worth_25 : decode cX8_worth 25 = .ok (.ireturn, 1) := by decide +kernel
theorem dX8_feed_0 : decode cX8_feed 0 = .ok (.aload_n 0, 1) := by decide +kernel
theorem dX8_feed_1 : decode cX8_feed 1 = .ok (.getfield 60, 3) := by decide +kernel
theorem dX8_feed_4 : decode cX8_feed 4 = .ok (.invokevirtual 174, 3) := by decide +kernel
theorem dX8_feed_7 : decode cX8_feed 7 = .ok (.ifCond .ne 5, 3) := by decide +kernel
theorem dX8_feed_10 : decode cX8_feed 10 = .ok (.iconst (-1), 1) := by decide +kernel
theorem dX8_feed_11 : decode cX8_feed 11 = .ok (.ireturn, 1) := by decide +kernel
theorem dX8_feed_12 : decode cX8_feed 12 = .ok (.aload_n 0, 1) := by decide +kernel
theorem dX8_feed_13 : decode cX8_feed 13 = .ok (.getfield 60, 3) := by decide +kernel
theorem dX8_feed_16 : decode cX8_feed 16 = .ok (.iload_n 1, 1) := by decide +kernel
theorem dX8_feed_17 : decode cX8_feed 17 = .ok (.invokevirtual 177, 3) := by decide +kernel
theorem dX8_feed_20 : decode cX8_feed 20 = .ok (.aload_n 0, 1) := by decide +kernel
theorem dX8_feed_21 : decode cX8_feed 21 = .ok (.getfield 60, 3) := by decide +kernel
theorem dX8_feed_24 : decode cX8_feed 24 = .ok (.iload_n 2, 1) := by decide +kernel
theorem dX8_feed_25 : decode cX8_feed 25 = .ok (.invokevirtual 177, 3) := by decide +kernel
theorem dX8_feed_28 : decode cX8_feed 28 = .ok (.aload_n 0, 1) := by decide +kernel
theorem dX8_feed_29 : decode cX8_feed 29 = .ok (.getfield 60, 3) := by decide +kernel
theorem dX8_feed_32 : decode cX8_feed 32 = .ok (.iload_n 3, 1) := by decide +kernel
theorem dX8_feed_33 : decode cX8_feed 33 = .ok (.invokevirtual 177, 3) := by decide +kernel
theorem dX8_feed_36 : decode cX8_feed 36 = .ok (.aload_n 0, 1) := by decide +kernel
theorem dX8_feed_37 : decode cX8_feed 37 = .ok (.getfield 60, 3) := by decide +kernel
theorem dX8_feed_40 : decode cX8_feed 40 = .ok (.iload 4, 2) := by decide +kernel
theorem dX8_feed_42 : decode cX8_feed 42 = .ok (.invokevirtual 177, 3) := by decide +kernel
theorem dX8_feed_45 : decode cX8_feed 45 = .ok (.aload_n 0, 1) := by decide +kernel
theorem dX8_feed_46 : decode cX8_feed 46 = .ok (.getfield 60, 3) := by decide +kernel
theorem dX8_feed_49 : decode cX8_feed 49 = .ok (.iload 5, 2) := by decide +kernel
theorem dX8_feed_51 : decode cX8_feed 51 = .ok (.invokevirtual 177, 3) := by decide +kernel
theorem dX8_feed_54 : decode cX8_feed 54 = .ok (.aload_n 0, 1) := by decide +kernel
theorem dX8_feed_55 : decode cX8_feed 55 = .ok (.getfield 60, 3) := by decide +kernel
theorem dX8_feed_58 : decode cX8_feed 58 = .ok (.getfield 180, 3) := by decide +kernel
theorem dX8_feed_61 : decode cX8_feed 61 = .ok (.ireturn, 1) := by decide +kernel
theorem dX8_read_0 : decode cX8_read 0 = .ok (.iload_n 1, 1) := by decide +kernel
theorem dX8_read_1 : decode cX8_read 1 = .ok (.ifCond .lt 14, 3) := by decide +kernel
theorem dX8_read_4 : decode cX8_read 4 = .ok (.iload_n 1, 1) := by decide +kernel
theorem dX8_read_5 : decode cX8_read 5 = .ok (.aload_n 0, 1) := by decide +kernel
theorem dX8_read_6 : decode cX8_read 6 = .ok (.getfield 60, 3) := by decide +kernel
theorem dX8_read_9 : decode cX8_read 9 = .ok (.getfield 180, 3) := by decide +kernel
theorem dX8_read_12 : decode cX8_read 12 = .ok (.if_icmp .le 5, 3) := by decide +kernel
theorem dX8_read_15 : decode cX8_read 15 = .ok (.iconst (-1), 1) := by decide +kernel
theorem dX8_read_16 : decode cX8_read 16 = .ok (.ireturn, 1) := by decide +kernel
theorem dX8_read_17 : decode cX8_read 17 = .ok (.aload_n 0, 1) := by decide +kernel
theorem dX8_read_18 : decode cX8_read 18 = .ok (.getfield 21, 3) := by decide +kernel
theorem dX8_read_21 : decode cX8_read 21 = .ok (.getfield 89, 3) := by decide +kernel
theorem dX8_read_24 : decode cX8_read 24 = .ok (.istore_n 2, 1) := by decide +kernel
theorem dX8_read_25 : decode cX8_read 25 = .ok (.iconst 0, 1) := by decide +kernel
theorem dX8_read_26 : decode cX8_read 26 = .ok (.istore_n 3, 1) := by decide +kernel
theorem dX8_read_27 : decode cX8_read 27 = .ok (.iconst 0, 1) := by decide +kernel
theorem dX8_read_28 : decode cX8_read 28 = .ok (.istore 4, 2) := by decide +kernel
theorem dX8_read_30 : decode cX8_read 30 = .ok (.iload 4, 2) := by decide +kernel
theorem dX8_read_32 : decode cX8_read 32 = .ok (.iload_n 1, 1) := by decide +kernel
theorem dX8_read_33 : decode cX8_read 33 = .ok (.if_icmp .ge 80, 3) := by decide +kernel
theorem dX8_read_36 : decode cX8_read 36 = .ok (.iload_n 3, 1) := by decide +kernel
theorem dX8_read_37 : decode cX8_read 37 = .ok (.iload_n 1, 1) := by decide +kernel
theorem dX8_read_38 : decode cX8_read 38 = .ok (.if_icmp .ge 75, 3) := by decide +kernel
theorem dX8_read_41 : decode cX8_read 41 = .ok (.aload_n 0, 1) := by decide +kernel
theorem dX8_read_42 : decode cX8_read 42 = .ok (.getfield 60, 3) := by decide +kernel
theorem dX8_read_45 : decode cX8_read 45 = .ok (.iload_n 3, 1) := by decide +kernel
theorem dX8_read_46 : decode cX8_read 46 = .ok (.iload_n 1, 1) := by decide +kernel
theorem dX8_read_47 : decode cX8_read 47 = .ok (.aload_n 0, 1) := by decide +kernel
theorem dX8_read_48 : decode cX8_read 48 = .ok (.getfield 21, 3) := by decide +kernel
theorem dX8_read_51 : decode cX8_read 51 = .ok (.getfield 89, 3) := by decide +kernel
theorem dX8_read_54 : decode cX8_read 54 = .ok (.iconst 1, 1) := by decide +kernel
theorem dX8_read_55 : decode cX8_read 55 = .ok (.iadd, 1) := by decide +kernel
theorem dX8_read_56 : decode cX8_read 56 = .ok (.invokevirtual 181, 3) := by decide +kernel
theorem dX8_read_59 : decode cX8_read 59 = .ok (.ifCond .eq 54, 3) := by decide +kernel
theorem dX8_read_62 : decode cX8_read 62 = .ok (.aload_n 0, 1) := by decide +kernel
theorem dX8_read_63 : decode cX8_read 63 = .ok (.aload_n 0, 1) := by decide +kernel
theorem dX8_read_64 : decode cX8_read 64 = .ok (.getfield 10, 3) := by decide +kernel
theorem dX8_read_67 : decode cX8_read 67 = .ok (.aload_n 0, 1) := by decide +kernel
theorem dX8_read_68 : decode cX8_read 68 = .ok (.getfield 60, 3) := by decide +kernel
theorem dX8_read_71 : decode cX8_read 71 = .ok (.getfield 185, 3) := by decide +kernel
theorem dX8_read_74 : decode cX8_read 74 = .ok (.aload_n 0, 1) := by decide +kernel
theorem dX8_read_75 : decode cX8_read 75 = .ok (.getfield 60, 3) := by decide +kernel
theorem dX8_read_78 : decode cX8_read 78 = .ok (.getfield 188, 3) := by decide +kernel
theorem dX8_read_81 : decode cX8_read 81 = .ok (.invokevirtual 191, 3) := by decide +kernel
theorem dX8_read_84 : decode cX8_read 84 = .ok (.invokevirtual 85, 3) := by decide +kernel
theorem dX8_read_87 : decode cX8_read 87 = .ok (.ifCond .ne 6, 3) := by decide +kernel
theorem dX8_read_90 : decode cX8_read 90 = .ok (.goto 23, 3) := by decide +kernel
theorem dX8_read_93 : decode cX8_read 93 = .ok (.aload_n 0, 1) := by decide +kernel
theorem dX8_read_94 : decode cX8_read 94 = .ok (.getfield 60, 3) := by decide +kernel
theorem dX8_read_97 : decode cX8_read 97 = .ok (.getfield 194, 3) := by decide +kernel
theorem dX8_read_100 : decode cX8_read 100 = .ok (.iconst 1, 1) := by decide +kernel
theorem dX8_read_101 : decode cX8_read 101 = .ok (.iadd, 1) := by decide +kernel
theorem dX8_read_102 : decode cX8_read 102 = .ok (.iload_n 1, 1) := by decide +kernel
theorem dX8_read_103 : decode cX8_read 103 = .ok (.invokestatic 197, 3) := by decide +kernel
theorem dX8_read_106 : decode cX8_read 106 = .ok (.istore_n 3, 1) := by decide +kernel
theorem dX8_read_107 : decode cX8_read 107 = .ok (.iinc 4 1, 3) := by decide +kernel
theorem dX8_read_110 : decode cX8_read 110 = .ok (.goto (-80), 3) := by decide +kernel
theorem dX8_read_113 : decode cX8_read 113 = .ok (.aload_n 0, 1) := by decide +kernel
theorem dX8_read_114 : decode cX8_read 114 = .ok (.getfield 60, 3) := by decide +kernel
theorem dX8_read_117 : decode cX8_read 117 = .ok (.iload_n 3, 1) := by decide +kernel
theorem dX8_read_118 : decode cX8_read 118 = .ok (.invokevirtual 202, 3) := by decide +kernel
theorem dX8_read_121 : decode cX8_read 121 = .ok (.aload_n 0, 1) := by decide +kernel
theorem dX8_read_122 : decode cX8_read 122 = .ok (.getfield 21, 3) := by decide +kernel
theorem dX8_read_125 : decode cX8_read 125 = .ok (.getfield 89, 3) := by decide +kernel
theorem dX8_read_128 : decode cX8_read 128 = .ok (.iload_n 2, 1) := by decide +kernel
theorem dX8_read_129 : decode cX8_read 129 = .ok (.isub, 1) := by decide +kernel
theorem dX8_read_130 : decode cX8_read 130 = .ok (.ireturn, 1) := by decide +kernel
theorem dX8_look_0 : decode cX8_look 0 = .ok (.iload_n 1, 1) := by decide +kernel
theorem dX8_look_1 : decode cX8_look 1 = .ok (.bipush 60, 2) := by decide +kernel
theorem dX8_look_3 : decode cX8_look 3 = .ok (.if_icmp .lt 15, 3) := by decide +kernel
theorem dX8_look_6 : decode cX8_look 6 = .ok (.aload_n 0, 1) := by decide +kernel
theorem dX8_look_7 : decode cX8_look 7 = .ok (.getfield 37, 3) := by decide +kernel
theorem dX8_look_10 : decode cX8_look 10 = .ok (.iload_n 1, 1) := by decide +kernel
theorem dX8_look_11 : decode cX8_look 11 = .ok (.bipush 60, 2) := by decide +kernel
theorem dX8_look_13 : decode cX8_look 13 = .ok (.isub, 1) := by decide +kernel
theorem dX8_look_14 : decode cX8_look 14 = .ok (.invokevirtual 205, 3) := by decide +kernel
theorem dX8_look_17 : decode cX8_look 17 = .ok (.ireturn, 1) := by decide +kernel
theorem dX8_look_18 : decode cX8_look 18 = .ok (.iload_n 1, 1) := by decide +kernel
theorem dX8_look_19 : decode cX8_look 19 = .ok (.bipush 40, 2) := by decide +kernel
theorem dX8_look_21 : decode cX8_look 21 = .ok (.if_icmp .lt 12, 3) := by decide +kernel
theorem dX8_look_24 : decode cX8_look 24 = .ok (.aload_n 0, 1) := by decide +kernel
theorem dX8_look_25 : decode cX8_look 25 = .ok (.iload_n 1, 1) := by decide +kernel
theorem dX8_look_26 : decode cX8_look 26 = .ok (.bipush 40, 2) := by decide +kernel
theorem dX8_look_28 : decode cX8_look 28 = .ok (.isub, 1) := by decide +kernel
theorem dX8_look_29 : decode cX8_look 29 = .ok (.invokevirtual 208, 3) := by decide +kernel
theorem dX8_look_32 : decode cX8_look 32 = .ok (.ireturn, 1) := by decide +kernel
theorem dX8_look_33 : decode cX8_look 33 = .ok (.iload_n 1, 1) := by decide +kernel
theorem dX8_look_34 : decode cX8_look 34 = .ok (.bipush 20, 2) := by decide +kernel
theorem dX8_look_36 : decode cX8_look 36 = .ok (.if_icmp .lt 24, 3) := by decide +kernel
theorem dX8_look_39 : decode cX8_look 39 = .ok (.aload_n 0, 1) := by decide +kernel
theorem dX8_look_40 : decode cX8_look 40 = .ok (.getfield 10, 3) := by decide +kernel
theorem dX8_look_43 : decode cX8_look 43 = .ok (.aload_n 0, 1) := by decide +kernel
theorem dX8_look_44 : decode cX8_look 44 = .ok (.getfield 21, 3) := by decide +kernel
theorem dX8_look_47 : decode cX8_look 47 = .ok (.iload_n 1, 1) := by decide +kernel
theorem dX8_look_48 : decode cX8_look 48 = .ok (.bipush 20, 2) := by decide +kernel
theorem dX8_look_50 : decode cX8_look 50 = .ok (.isub, 1) := by decide +kernel
theorem dX8_look_51 : decode cX8_look 51 = .ok (.iconst 1, 1) := by decide +kernel
theorem dX8_look_52 : decode cX8_look 52 = .ok (.iadd, 1) := by decide +kernel
theorem dX8_look_53 : decode cX8_look 53 = .ok (.invokevirtual 211, 3) := by decide +kernel
theorem dX8_look_56 : decode cX8_look 56 = .ok (.invokevirtual 124, 3) := by decide +kernel
theorem dX8_look_59 : decode cX8_look 59 = .ok (.ireturn, 1) := by decide +kernel
theorem dX8_look_60 : decode cX8_look 60 = .ok (.aload_n 0, 1) := by decide +kernel
theorem dX8_look_61 : decode cX8_look 61 = .ok (.iload_n 1, 1) := by decide +kernel
theorem dX8_look_62 : decode cX8_look 62 = .ok (.invokevirtual 214, 3) := by decide +kernel
theorem dX8_look_65 : decode cX8_look 65 = .ok (.ireturn, 1) := by decide +kernel
theorem dX8_lookAtState_0 : decode cX8_lookAtState 0 = .ok (.iload_n 1, 1) := by decide +kernel
theorem dX8_lookAtState_1 : decode cX8_lookAtState 1 = .ok (.tableswitch 186 0 10 #[59, 67, 75, 83, 99, 115, 123, 131, 162, 170, 178], 59) := by decide +kernel
theorem dX8_lookAtState_60 : decode cX8_lookAtState 60 = .ok (.aload_n 0, 1) := by decide +kernel
theorem dX8_lookAtState_61 : decode cX8_lookAtState 61 = .ok (.getfield 10, 3) := by decide +kernel
theorem dX8_lookAtState_64 : decode cX8_lookAtState 64 = .ok (.getfield 217, 3) := by decide +kernel
theorem dX8_lookAtState_67 : decode cX8_lookAtState 67 = .ok (.ireturn, 1) := by decide +kernel
theorem dX8_lookAtState_68 : decode cX8_lookAtState 68 = .ok (.aload_n 0, 1) := by decide +kernel
theorem dX8_lookAtState_69 : decode cX8_lookAtState 69 = .ok (.getfield 10, 3) := by decide +kernel
theorem dX8_lookAtState_72 : decode cX8_lookAtState 72 = .ok (.getfield 220, 3) := by decide +kernel
theorem dX8_lookAtState_75 : decode cX8_lookAtState 75 = .ok (.ireturn, 1) := by decide +kernel
theorem dX8_lookAtState_76 : decode cX8_lookAtState 76 = .ok (.aload_n 0, 1) := by decide +kernel
theorem dX8_lookAtState_77 : decode cX8_lookAtState 77 = .ok (.getfield 10, 3) := by decide +kernel
theorem dX8_lookAtState_80 : decode cX8_lookAtState 80 = .ok (.getfield 223, 3) := by decide +kernel
theorem dX8_lookAtState_83 : decode cX8_lookAtState 83 = .ok (.ireturn, 1) := by decide +kernel
theorem dX8_lookAtState_84 : decode cX8_lookAtState 84 = .ok (.aload_n 0, 1) := by decide +kernel
theorem dX8_lookAtState_85 : decode cX8_lookAtState 85 = .ok (.getfield 10, 3) := by decide +kernel
theorem dX8_lookAtState_88 : decode cX8_lookAtState 88 = .ok (.getfield 226, 3) := by decide +kernel
theorem dX8_lookAtState_91 : decode cX8_lookAtState 91 = .ok (.ifCond .eq 7, 3) := by decide +kernel
theorem dX8_lookAtState_94 : decode cX8_lookAtState 94 = .ok (.iconst 1, 1) := by decide +kernel
theorem dX8_lookAtState_95 : decode cX8_lookAtState 95 = .ok (.goto 4, 3) := by decide +kernel
theorem dX8_lookAtState_98 : decode cX8_lookAtState 98 = .ok (.iconst 0, 1) := by decide +kernel
theorem dX8_lookAtState_99 : decode cX8_lookAtState 99 = .ok (.ireturn, 1) := by decide +kernel
theorem dX8_lookAtState_100 : decode cX8_lookAtState 100 = .ok (.aload_n 0, 1) := by decide +kernel
theorem dX8_lookAtState_101 : decode cX8_lookAtState 101 = .ok (.getfield 10, 3) := by decide +kernel
theorem dX8_lookAtState_104 : decode cX8_lookAtState 104 = .ok (.getfield 230, 3) := by decide +kernel
theorem dX8_lookAtState_107 : decode cX8_lookAtState 107 = .ok (.ifCond .eq 7, 3) := by decide +kernel
theorem dX8_lookAtState_110 : decode cX8_lookAtState 110 = .ok (.iconst 1, 1) := by decide +kernel
theorem dX8_lookAtState_111 : decode cX8_lookAtState 111 = .ok (.goto 4, 3) := by decide +kernel
theorem dX8_lookAtState_114 : decode cX8_lookAtState 114 = .ok (.iconst 0, 1) := by decide +kernel
theorem dX8_lookAtState_115 : decode cX8_lookAtState 115 = .ok (.ireturn, 1) := by decide +kernel
theorem dX8_lookAtState_116 : decode cX8_lookAtState 116 = .ok (.aload_n 0, 1) := by decide +kernel
theorem dX8_lookAtState_117 : decode cX8_lookAtState 117 = .ok (.getfield 21, 3) := by decide +kernel
theorem dX8_lookAtState_120 : decode cX8_lookAtState 120 = .ok (.getfield 89, 3) := by decide +kernel
theorem dX8_lookAtState_123 : decode cX8_lookAtState 123 = .ok (.ireturn, 1) := by decide +kernel
theorem dX8_lookAtState_124 : decode cX8_lookAtState 124 = .ok (.aload_n 0, 1) := by decide +kernel
theorem dX8_lookAtState_125 : decode cX8_lookAtState 125 = .ok (.getfield 21, 3) := by decide +kernel
theorem dX8_lookAtState_128 : decode cX8_lookAtState 128 = .ok (.getfield 233, 3) := by decide +kernel
theorem dX8_lookAtState_131 : decode cX8_lookAtState 131 = .ok (.ireturn, 1) := by decide +kernel
theorem dX8_lookAtState_132 : decode cX8_lookAtState 132 = .ok (.aload_n 0, 1) := by decide +kernel
theorem dX8_lookAtState_133 : decode cX8_lookAtState 133 = .ok (.getfield 21, 3) := by decide +kernel
theorem dX8_lookAtState_136 : decode cX8_lookAtState 136 = .ok (.aload_n 0, 1) := by decide +kernel
theorem dX8_lookAtState_137 : decode cX8_lookAtState 137 = .ok (.getfield 21, 3) := by decide +kernel
theorem dX8_lookAtState_140 : decode cX8_lookAtState 140 = .ok (.getfield 89, 3) := by decide +kernel
theorem dX8_lookAtState_143 : decode cX8_lookAtState 143 = .ok (.invokevirtual 111, 3) := by decide +kernel
theorem dX8_lookAtState_146 : decode cX8_lookAtState 146 = .ok (.ifCond .eq 7, 3) := by decide +kernel
theorem dX8_lookAtState_149 : decode cX8_lookAtState 149 = .ok (.iconst (-1), 1) := by decide +kernel
theorem dX8_lookAtState_150 : decode cX8_lookAtState 150 = .ok (.goto 12, 3) := by decide +kernel
theorem dX8_lookAtState_153 : decode cX8_lookAtState 153 = .ok (.aload_n 0, 1) := by decide +kernel
theorem dX8_lookAtState_154 : decode cX8_lookAtState 154 = .ok (.getfield 21, 3) := by decide +kernel
theorem dX8_lookAtState_157 : decode cX8_lookAtState 157 = .ok (.getfield 89, 3) := by decide +kernel
theorem dX8_lookAtState_160 : decode cX8_lookAtState 160 = .ok (.iconst 1, 1) := by decide +kernel
theorem dX8_lookAtState_161 : decode cX8_lookAtState 161 = .ok (.iand, 1) := by decide +kernel
theorem dX8_lookAtState_162 : decode cX8_lookAtState 162 = .ok (.ireturn, 1) := by decide +kernel
theorem dX8_lookAtState_163 : decode cX8_lookAtState 163 = .ok (.aload_n 0, 1) := by decide +kernel
theorem dX8_lookAtState_164 : decode cX8_lookAtState 164 = .ok (.getfield 37, 3) := by decide +kernel
theorem dX8_lookAtState_167 : decode cX8_lookAtState 167 = .ok (.getfield 236, 3) := by decide +kernel
theorem dX8_lookAtState_170 : decode cX8_lookAtState 170 = .ok (.ireturn, 1) := by decide +kernel
theorem dX8_lookAtState_171 : decode cX8_lookAtState 171 = .ok (.aload_n 0, 1) := by decide +kernel
theorem dX8_lookAtState_172 : decode cX8_lookAtState 172 = .ok (.getfield 60, 3) := by decide +kernel
theorem dX8_lookAtState_175 : decode cX8_lookAtState 175 = .ok (.getfield 180, 3) := by decide +kernel
theorem dX8_lookAtState_178 : decode cX8_lookAtState 178 = .ok (.ireturn, 1) := by decide +kernel
theorem dX8_lookAtState_179 : decode cX8_lookAtState 179 = .ok (.aload_n 0, 1) := by decide +kernel
theorem dX8_lookAtState_180 : decode cX8_lookAtState 180 = .ok (.getfield 60, 3) := by decide +kernel
theorem dX8_lookAtState_183 : decode cX8_lookAtState 183 = .ok (.getfield 239, 3) := by decide +kernel
theorem dX8_lookAtState_186 : decode cX8_lookAtState 186 = .ok (.ireturn, 1) := by decide +kernel
theorem dX8_lookAtState_187 : decode cX8_lookAtState 187 = .ok (.iconst (-1), 1) := by decide +kernel
theorem dX8_lookAtState_188 : decode cX8_lookAtState 188 = .ok (.ireturn, 1) := by decide +kernel
theorem dX8_ownerOf_0 : decode cX8_ownerOf 0 = .ok (.aload_n 0, 1) := by decide +kernel
theorem dX8_ownerOf_1 : decode cX8_ownerOf 1 = .ok (.getfield 10, 3) := by decide +kernel
theorem dX8_ownerOf_4 : decode cX8_ownerOf 4 = .ok (.iload_n 1, 1) := by decide +kernel
theorem dX8_ownerOf_5 : decode cX8_ownerOf 5 = .ok (.invokevirtual 81, 3) := by decide +kernel
theorem dX8_ownerOf_8 : decode cX8_ownerOf 8 = .ok (.istore_n 2, 1) := by decide +kernel
theorem dX8_ownerOf_9 : decode cX8_ownerOf 9 = .ok (.iload_n 2, 1) := by decide +kernel
theorem dX8_ownerOf_10 : decode cX8_ownerOf 10 = .ok (.ifCond .ne 5, 3) := by decide +kernel
theorem dX8_ownerOf_13 : decode cX8_ownerOf 13 = .ok (.iconst (-1), 1) := by decide +kernel
theorem dX8_ownerOf_14 : decode cX8_ownerOf 14 = .ok (.ireturn, 1) := by decide +kernel
theorem dX8_ownerOf_15 : decode cX8_ownerOf 15 = .ok (.aload_n 0, 1) := by decide +kernel
theorem dX8_ownerOf_16 : decode cX8_ownerOf 16 = .ok (.getfield 21, 3) := by decide +kernel
theorem dX8_ownerOf_19 : decode cX8_ownerOf 19 = .ok (.iconst 0, 1) := by decide +kernel
theorem dX8_ownerOf_20 : decode cX8_ownerOf 20 = .ok (.aload_n 0, 1) := by decide +kernel
theorem dX8_ownerOf_21 : decode cX8_ownerOf 21 = .ok (.getfield 21, 3) := by decide +kernel
theorem dX8_ownerOf_24 : decode cX8_ownerOf 24 = .ok (.getfield 89, 3) := by decide +kernel
theorem dX8_ownerOf_27 : decode cX8_ownerOf 27 = .ok (.invokevirtual 114, 3) := by decide +kernel
theorem dX8_ownerOf_30 : decode cX8_ownerOf 30 = .ok (.iload_n 2, 1) := by decide +kernel
theorem dX8_ownerOf_31 : decode cX8_ownerOf 31 = .ok (.iand, 1) := by decide +kernel
theorem dX8_ownerOf_32 : decode cX8_ownerOf 32 = .ok (.ifCond .eq 5, 3) := by decide +kernel
theorem dX8_ownerOf_35 : decode cX8_ownerOf 35 = .ok (.iconst 0, 1) := by decide +kernel
theorem dX8_ownerOf_36 : decode cX8_ownerOf 36 = .ok (.ireturn, 1) := by decide +kernel
theorem dX8_ownerOf_37 : decode cX8_ownerOf 37 = .ok (.aload_n 0, 1) := by decide +kernel
theorem dX8_ownerOf_38 : decode cX8_ownerOf 38 = .ok (.getfield 21, 3) := by decide +kernel
theorem dX8_ownerOf_41 : decode cX8_ownerOf 41 = .ok (.iconst 1, 1) := by decide +kernel
theorem dX8_ownerOf_42 : decode cX8_ownerOf 42 = .ok (.aload_n 0, 1) := by decide +kernel
theorem dX8_ownerOf_43 : decode cX8_ownerOf 43 = .ok (.getfield 21, 3) := by decide +kernel
theorem dX8_ownerOf_46 : decode cX8_ownerOf 46 = .ok (.getfield 89, 3) := by decide +kernel
theorem dX8_ownerOf_49 : decode cX8_ownerOf 49 = .ok (.invokevirtual 114, 3) := by decide +kernel
theorem dX8_ownerOf_52 : decode cX8_ownerOf 52 = .ok (.iload_n 2, 1) := by decide +kernel
theorem dX8_ownerOf_53 : decode cX8_ownerOf 53 = .ok (.iand, 1) := by decide +kernel
theorem dX8_ownerOf_54 : decode cX8_ownerOf 54 = .ok (.ifCond .eq 7, 3) := by decide +kernel
theorem dX8_ownerOf_57 : decode cX8_ownerOf 57 = .ok (.iconst 1, 1) := by decide +kernel
theorem dX8_ownerOf_58 : decode cX8_ownerOf 58 = .ok (.goto 4, 3) := by decide +kernel
theorem dX8_ownerOf_61 : decode cX8_ownerOf 61 = .ok (.iconst 2, 1) := by decide +kernel
theorem dX8_ownerOf_62 : decode cX8_ownerOf 62 = .ok (.ireturn, 1) := by decide +kernel
theorem dX8_setStone_0 : decode cX8_setStone 0 = .ok (.aload_n 0, 1) := by decide +kernel
theorem dX8_setStone_1 : decode cX8_setStone 1 = .ok (.getfield 21, 3) := by decide +kernel
theorem dX8_setStone_4 : decode cX8_setStone 4 = .ok (.iload_n 1, 1) := by decide +kernel
theorem dX8_setStone_5 : decode cX8_setStone 5 = .ok (.invokevirtual 242, 3) := by decide +kernel
theorem dX8_setStone_8 : decode cX8_setStone 8 = .ok (.ifCond .ne 5, 3) := by decide +kernel
theorem dX8_setStone_11 : decode cX8_setStone 11 = .ok (.iconst 0, 1) := by decide +kernel
theorem dX8_setStone_12 : decode cX8_setStone 12 = .ok (.ireturn, 1) := by decide +kernel
theorem dX8_setStone_13 : decode cX8_setStone 13 = .ok (.aload_n 0, 1) := by decide +kernel
theorem dX8_setStone_14 : decode cX8_setStone 14 = .ok (.getfield 37, 3) := by decide +kernel
theorem dX8_setStone_17 : decode cX8_setStone 17 = .ok (.aload_n 0, 1) := by decide +kernel
theorem dX8_setStone_18 : decode cX8_setStone 18 = .ok (.getfield 21, 3) := by decide +kernel
theorem dX8_setStone_21 : decode cX8_setStone 21 = .ok (.getfield 89, 3) := by decide +kernel
theorem dX8_setStone_24 : decode cX8_setStone 24 = .ok (.invokevirtual 245, 3) := by decide +kernel
theorem dX8_setStone_27 : decode cX8_setStone 27 = .ok (.iconst 1, 1) := by decide +kernel
theorem dX8_setStone_28 : decode cX8_setStone 28 = .ok (.ireturn, 1) := by decide +kernel
theorem dX8_isMove_0 : decode cX8_isMove 0 = .ok (.iload_n 1, 1) := by decide +kernel
theorem dX8_isMove_1 : decode cX8_isMove 1 = .ok (.iconst 1, 1) := by decide +kernel
theorem dX8_isMove_2 : decode cX8_isMove 2 = .ok (.if_icmp .lt 18, 3) := by decide +kernel
theorem dX8_isMove_5 : decode cX8_isMove 5 = .ok (.iload_n 1, 1) := by decide +kernel
theorem dX8_isMove_6 : decode cX8_isMove 6 = .ok (.aload_n 0, 1) := by decide +kernel
theorem dX8_isMove_7 : decode cX8_isMove 7 = .ok (.getfield 21, 3) := by decide +kernel
theorem dX8_isMove_10 : decode cX8_isMove 10 = .ok (.getfield 89, 3) := by decide +kernel
theorem dX8_isMove_13 : decode cX8_isMove 13 = .ok (.if_icmp .gt 7, 3) := by decide +kernel
theorem dX8_isMove_16 : decode cX8_isMove 16 = .ok (.iconst 1, 1) := by decide +kernel
theorem dX8_isMove_17 : decode cX8_isMove 17 = .ok (.goto 4, 3) := by decide +kernel
theorem dX8_isMove_20 : decode cX8_isMove 20 = .ok (.iconst 0, 1) := by decide +kernel
theorem dX8_isMove_21 : decode cX8_isMove 21 = .ok (.ireturn, 1) := by decide +kernel
theorem dX8_isPosition_0 : decode cX8_isPosition 0 = .ok (.iload_n 1, 1) := by decide +kernel
theorem dX8_isPosition_1 : decode cX8_isPosition 1 = .ok (.ifCond .lt 18, 3) := by decide +kernel
theorem dX8_isPosition_4 : decode cX8_isPosition 4 = .ok (.iload_n 1, 1) := by decide +kernel
theorem dX8_isPosition_5 : decode cX8_isPosition 5 = .ok (.aload_n 0, 1) := by decide +kernel
theorem dX8_isPosition_6 : decode cX8_isPosition 6 = .ok (.getfield 21, 3) := by decide +kernel
theorem dX8_isPosition_9 : decode cX8_isPosition 9 = .ok (.getfield 89, 3) := by decide +kernel
theorem dX8_isPosition_12 : decode cX8_isPosition 12 = .ok (.if_icmp .gt 7, 3) := by decide +kernel
theorem dX8_isPosition_15 : decode cX8_isPosition 15 = .ok (.iconst 1, 1) := by decide +kernel
theorem dX8_isPosition_16 : decode cX8_isPosition 16 = .ok (.goto 4, 3) := by decide +kernel
theorem dX8_isPosition_19 : decode cX8_isPosition 19 = .ok (.iconst 0, 1) := by decide +kernel
theorem dX8_isPosition_20 : decode cX8_isPosition 20 = .ok (.ireturn, 1) := by decide +kernel
theorem dX9_init_0 : decode cX9_init 0 = .ok (.aload_n 0, 1) := by decide +kernel
theorem dX9_init_1 : decode cX9_init 1 = .ok (.invokespecial 1, 3) := by decide +kernel
theorem dX9_init_4 : decode cX9_init 4 = .ok (.aload_n 0, 1) := by decide +kernel
theorem dX9_init_5 : decode cX9_init 5 = .ok (.iconst 3, 1) := by decide +kernel
theorem dX9_init_6 : decode cX9_init 6 = .ok (.putfield 7, 3) := by decide +kernel
theorem dX9_init_9 : decode cX9_init 9 = .ok (.aload_n 0, 1) := by decide +kernel
theorem dX9_init_10 : decode cX9_init 10 = .ok (.iconst 3, 1) := by decide +kernel
theorem dX9_init_11 : decode cX9_init 11 = .ok (.putfield 13, 3) := by decide +kernel
theorem dX9_init_14 : decode cX9_init 14 = .ok (.aload_n 0, 1) := by decide +kernel
theorem dX9_init_15 : decode cX9_init 15 = .ok (.iconst 3, 1) := by decide +kernel
theorem dX9_init_16 : decode cX9_init 16 = .ok (.putfield 16, 3) := by decide +kernel
theorem dX9_init_19 : decode cX9_init 19 = .ok (.aload_n 0, 1) := by decide +kernel
theorem dX9_init_20 : decode cX9_init 20 = .ok (.iconst 3, 1) := by decide +kernel
theorem dX9_init_21 : decode cX9_init 21 = .ok (.putfield 19, 3) := by decide +kernel
theorem dX9_init_24 : decode cX9_init 24 = .ok (.aload_n 0, 1) := by decide +kernel
theorem dX9_init_25 : decode cX9_init 25 = .ok (.bipush 16, 2) := by decide +kernel
theorem dX9_init_27 : decode cX9_init 27 = .ok (.newarray .int, 2) := by decide +kernel
theorem dX9_init_29 : decode cX9_init 29 = .ok (.putfield 22, 3) := by decide +kernel
theorem dX9_init_32 : decode cX9_init 32 = .ok (.aload_n 0, 1) := by decide +kernel
theorem dX9_init_33 : decode cX9_init 33 = .ok (.bipush 6, 2) := by decide +kernel
theorem dX9_init_35 : decode cX9_init 35 = .ok (.newarray .int, 2) := by decide +kernel
theorem dX9_init_37 : decode cX9_init 37 = .ok (.putfield 26, 3) := by decide +kernel
theorem dX9_init_40 : decode cX9_init 40 = .ok (.aload_n 0, 1) := by decide +kernel
theorem dX9_init_41 : decode cX9_init 41 = .ok (.bipush 16, 2) := by decide +kernel
theorem dX9_init_43 : decode cX9_init 43 = .ok (.newarray .int, 2) := by decide +kernel
theorem dX9_init_45 : decode cX9_init 45 = .ok (.putfield 29, 3) := by decide +kernel
theorem dX9_init_48 : decode cX9_init 48 = .ok (.aload_n 0, 1) := by decide +kernel
theorem dX9_init_49 : decode cX9_init 49 = .ok (.bipush 6, 2) := by decide +kernel
theorem dX9_init_51 : decode cX9_init 51 = .ok (.newarray .int, 2) := by decide +kernel
theorem dX9_init_53 : decode cX9_init 53 = .ok (.putfield 32, 3) := by decide +kernel
theorem dX9_init_56 : decode cX9_init 56 = .ok (.aload_n 0, 1) := by decide +kernel
theorem dX9_init_57 : decode cX9_init 57 = .ok (.bipush 6, 2) := by decide +kernel
theorem dX9_init_59 : decode cX9_init 59 = .ok (.newarray .int, 2) := by decide +kernel
theorem dX9_init_61 : decode cX9_init 61 = .ok (.putfield 35, 3) := by decide +kernel
theorem dX9_init_64 : decode cX9_init 64 = .ok (.aload_n 0, 1) := by decide +kernel
theorem dX9_init_65 : decode cX9_init 65 = .ok (.bipush 6, 2) := by decide +kernel
theorem dX9_init_67 : decode cX9_init 67 = .ok (.newarray .int, 2) := by decide +kernel
theorem dX9_init_69 : decode cX9_init 69 = .ok (.putfield 38, 3) := by decide +kernel
theorem dX9_init_72 : decode cX9_init 72 = .ok (.aload_n 0, 1) := by decide +kernel
theorem dX9_init_73 : decode cX9_init 73 = .ok (.bipush 17, 2) := by decide +kernel
theorem dX9_init_75 : decode cX9_init 75 = .ok (.newarray .int, 2) := by decide +kernel
theorem dX9_init_77 : decode cX9_init 77 = .ok (.putfield 41, 3) := by decide +kernel
theorem dX9_init_80 : decode cX9_init 80 = .ok (.aload_n 0, 1) := by decide +kernel
theorem dX9_init_81 : decode cX9_init 81 = .ok (.bipush 17, 2) := by decide +kernel
theorem dX9_init_83 : decode cX9_init 83 = .ok (.newarray .boolean, 2) := by decide +kernel
theorem dX9_init_85 : decode cX9_init 85 = .ok (.putfield 44, 3) := by decide +kernel
theorem dX9_init_88 : decode cX9_init 88 = .ok (.aload_n 0, 1) := by decide +kernel
theorem dX9_init_89 : decode cX9_init 89 = .ok (.sipush 600, 3) := by decide +kernel
theorem dX9_init_92 : decode cX9_init 92 = .ok (.newarray .byte, 2) := by decide +kernel
theorem dX9_init_94 : decode cX9_init 94 = .ok (.putfield 48, 3) := by decide +kernel
theorem dX9_init_97 : decode cX9_init 97 = .ok (.aload_n 0, 1) := by decide +kernel
theorem dX9_init_98 : decode cX9_init 98 = .ok (.bipush 12, 2) := by decide +kernel
theorem dX9_init_100 : decode cX9_init 100 = .ok (.newarray .int, 2) := by decide +kernel
theorem dX9_init_102 : decode cX9_init 102 = .ok (.putfield 52, 3) := by decide +kernel
theorem dX9_init_105 : decode cX9_init 105 = .ok (.aload_n 0, 1) := by decide +kernel
theorem dX9_init_106 : decode cX9_init 106 = .ok (.bipush 12, 2) := by decide +kernel
