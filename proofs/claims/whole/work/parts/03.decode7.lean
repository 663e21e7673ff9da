theorem dX9_tale_40 : decode cX9_tale 40 = .ok (.invokevirtual 174, 3) := by decide +kernel
theorem dX9_tale_43 : decode cX9_tale 43 = .ok (.iinc 2 1, 3) := by decide +kernel
theorem dX9_tale_46 : decode cX9_tale 46 = .ok (.goto (-28), 3) := by decide +kernel
theorem dX9_tale_49 : decode cX9_tale 49 = .ok (.aload_n 0, 1) := by decide +kernel
theorem dX9_tale_50 : decode cX9_tale 50 = .ok (.getfield 156, 3) := by decide +kernel
theorem dX9_tale_53 : decode cX9_tale 53 = .ok (.ireturn, 1) := by decide +kernel
theorem dX9_octet_0 : decode cX9_octet 0 = .ok (.iload_n 1, 1) := by decide +kernel
theorem dX9_octet_1 : decode cX9_octet 1 = .ok (.iconst 0, 1) := by decide +kernel
theorem dX9_octet_2 : decode cX9_octet 2 = .ok (.aload_n 0, 1) := by decide +kernel
theorem dX9_octet_3 : decode cX9_octet 3 = .ok (.getfield 156, 3) := by decide +kernel
theorem dX9_octet_6 : decode cX9_octet 6 = .ok (.iconst 1, 1) := by decide +kernel
theorem dX9_octet_7 : decode cX9_octet 7 = .ok (.isub, 1) := by decide +kernel
theorem dX9_octet_8 : decode cX9_octet 8 = .ok (.invokestatic 67, 3) := by decide +kernel
theorem dX9_octet_11 : decode cX9_octet 11 = .ok (.ifCond .eq 12, 3) := by decide +kernel
theorem dX9_octet_14 : decode cX9_octet 14 = .ok (.aload_n 0, 1) := by decide +kernel
theorem dX9_octet_15 : decode cX9_octet 15 = .ok (.getfield 48, 3) := by decide +kernel
theorem dX9_octet_18 : decode cX9_octet 18 = .ok (.iload_n 1, 1) := by decide +kernel
theorem dX9_octet_19 : decode cX9_octet 19 = .ok (.baload, 1) := by decide +kernel
theorem dX9_octet_20 : decode cX9_octet 20 = .ok (.goto 4, 3) := by decide +kernel
theorem dX9_octet_23 : decode cX9_octet 23 = .ok (.iconst (-1), 1) := by decide +kernel
theorem dX9_octet_24 : decode cX9_octet 24 = .ok (.ireturn, 1) := by decide +kernel
theorem dX9_worth_0 : decode cX9_worth 0 = .ok (.iload_n 1, 1) := by decide +kernel
theorem dX9_worth_1 : decode cX9_worth 1 = .ok (.iconst 1, 1) := by decide +kernel
theorem dX9_worth_2 : decode cX9_worth 2 = .ok (.aload_n 0, 1) := by decide +kernel
theorem dX9_worth_3 : decode cX9_worth 3 = .ok (.getfield 78, 3) := by decide +kernel
theorem dX9_worth_6 : decode cX9_worth 6 = .ok (.invokestatic 67, 3) := by decide +kernel
theorem dX9_worth_9 : decode cX9_worth 9 = .ok (.ifCond .ne 5, 3) := by decide +kernel
theorem dX9_worth_12 : decode cX9_worth 12 = .ok (.iconst (-1), 1) := by decide +kernel
theorem dX9_worth_13 : decode cX9_worth 13 = .ok (.ireturn, 1) := by decide +kernel
theorem dX9_worth_14 : decode cX9_worth 14 = .ok (.iconst 0, 1) := by decide +kernel
theorem dX9_worth_15 : decode cX9_worth 15 = .ok (.istore_n 2, 1) := by decide +kernel
theorem dX9_worth_16 : decode cX9_worth 16 = .ok (.iconst 0, 1) := by decide +kernel
theorem dX9_worth_17 : decode cX9_worth 17 = .ok (.istore_n 3, 1) := by decide +kernel
theorem dX9_worth_18 : decode cX9_worth 18 = .ok (.iload_n 3, 1) := by decide +kernel
theorem dX9_worth_19 : decode cX9_worth 19 = .ok (.bipush 6, 2) := by decide +kernel
theorem dX9_worth_21 : decode cX9_worth 21 = .ok (.if_icmp .ge 25, 3) := by decide +kernel
theorem dX9_worth_24 : decode cX9_worth 24 = .ok (.iload_n 2, 1) := by decide +kernel
theorem dX9_worth_25 : decode cX9_worth 25 = .ok (.aload_n 0, 1) := by decide +kernel
theorem dX9_worth_26 : decode cX9_worth 26 = .ok (.getfield 26, 3) := by decide +kernel
theorem dX9_worth_29 : decode cX9_worth 29 = .ok (.iload_n 3, 1) := by decide +kernel
theorem dX9_worth_30 : decode cX9_worth 30 = .ok (.iaload, 1) := by decide +kernel
theorem dX9_worth_31 : decode cX9_worth 31 = .ok (.aload_n 0, 1) := by decide +kernel
theorem dX9_worth_32 : decode cX9_worth 32 = .ok (.iload_n 1, 1) := by decide +kernel
theorem dX9_worth_33 : decode cX9_worth 33 = .ok (.iload_n 3, 1) := by decide +kernel
theorem dX9_worth_34 : decode cX9_worth 34 = .ok (.invokevirtual 168, 3) := by decide +kernel
theorem dX9_worth_37 : decode cX9_worth 37 = .ok (.imul, 1) := by decide +kernel
theorem dX9_worth_38 : decode cX9_worth 38 = .ok (.iadd, 1) := by decide +kernel
theorem dX9_worth_39 : decode cX9_worth 39 = .ok (.istore_n 2, 1) := by decide +kernel
theorem dX9_worth_40 : decode cX9_worth 40 = .ok (.iinc 3 1, 3) := by decide +kernel
theorem dX9_worth_43 : decode cX9_worth 43 = .ok (.goto (-25), 3) := by decide +kernel
theorem dX9_worth_46 : decode cX9_worth 46 = .ok (.iload_n 2, 1) := by decide +kernel
theorem dX9_worth_47 : decode cX9_worth 47 = .ok (.ireturn, 1) := by decide +kernel
theorem dX9_weighs_0 : decode cX9_weighs 0 = .ok (.aload_n 0, 1) := by decide +kernel
theorem dX9_weighs_1 : decode cX9_weighs 1 = .ok (.iconst 0, 1) := by decide +kernel
theorem dX9_weighs_2 : decode cX9_weighs 2 = .ok (.putfield 178, 3) := by decide +kernel
theorem dX9_weighs_5 : decode cX9_weighs 5 = .ok (.iconst 1, 1) := by decide +kernel
theorem dX9_weighs_6 : decode cX9_weighs 6 = .ok (.istore_n 1, 1) := by decide +kernel
theorem dX9_weighs_7 : decode cX9_weighs 7 = .ok (.iload_n 1, 1) := by decide +kernel
theorem dX9_weighs_8 : decode cX9_weighs 8 = .ok (.aload_n 0, 1) := by decide +kernel
theorem dX9_weighs_9 : decode cX9_weighs 9 = .ok (.getfield 78, 3) := by decide +kernel
theorem dX9_weighs_12 : decode cX9_weighs 12 = .ok (.if_icmp .gt 75, 3) := by decide +kernel
theorem dX9_weighs_15 : decode cX9_weighs 15 = .ok (.aload_n 0, 1) := by decide +kernel
theorem dX9_weighs_16 : decode cX9_weighs 16 = .ok (.getfield 178, 3) := by decide +kernel
theorem dX9_weighs_19 : decode cX9_weighs 19 = .ok (.bipush 12, 2) := by decide +kernel
theorem dX9_weighs_21 : decode cX9_weighs 21 = .ok (.if_icmp .ge 66, 3) := by decide +kernel
theorem dX9_weighs_24 : decode cX9_weighs 24 = .ok (.aload_n 0, 1) := by decide +kernel
theorem dX9_weighs_25 : decode cX9_weighs 25 = .ok (.iload_n 1, 1) := by decide +kernel
theorem dX9_weighs_26 : decode cX9_weighs 26 = .ok (.invokevirtual 181, 3) := by decide +kernel
theorem dX9_weighs_29 : decode cX9_weighs 29 = .ok (.istore_n 2, 1) := by decide +kernel
theorem dX9_weighs_30 : decode cX9_weighs 30 = .ok (.iload_n 2, 1) := by decide +kernel
theorem dX9_weighs_31 : decode cX9_weighs 31 = .ok (.ifCond .ne 6, 3) := by decide +kernel
theorem dX9_weighs_34 : decode cX9_weighs 34 = .ok (.goto 47, 3) := by decide +kernel
theorem dX9_weighs_37 : decode cX9_weighs 37 = .ok (.aload_n 0, 1) := by decide +kernel
theorem dX9_weighs_38 : decode cX9_weighs 38 = .ok (.getfield 52, 3) := by decide +kernel
theorem dX9_weighs_41 : decode cX9_weighs 41 = .ok (.aload_n 0, 1) := by decide +kernel
theorem dX9_weighs_42 : decode cX9_weighs 42 = .ok (.getfield 178, 3) := by decide +kernel
theorem dX9_weighs_45 : decode cX9_weighs 45 = .ok (.iload_n 1, 1) := by decide +kernel
theorem dX9_weighs_46 : decode cX9_weighs 46 = .ok (.iastore, 1) := by decide +kernel
theorem dX9_weighs_47 : decode cX9_weighs 47 = .ok (.aload_n 0, 1) := by decide +kernel
theorem dX9_weighs_48 : decode cX9_weighs 48 = .ok (.getfield 55, 3) := by decide +kernel
theorem dX9_weighs_51 : decode cX9_weighs 51 = .ok (.aload_n 0, 1) := by decide +kernel
theorem dX9_weighs_52 : decode cX9_weighs 52 = .ok (.getfield 178, 3) := by decide +kernel
theorem dX9_weighs_55 : decode cX9_weighs 55 = .ok (.iload_n 2, 1) := by decide +kernel
theorem dX9_weighs_56 : decode cX9_weighs 56 = .ok (.iastore, 1) := by decide +kernel
theorem dX9_weighs_57 : decode cX9_weighs 57 = .ok (.aload_n 0, 1) := by decide +kernel
theorem dX9_weighs_58 : decode cX9_weighs 58 = .ok (.getfield 58, 3) := by decide +kernel
theorem dX9_weighs_61 : decode cX9_weighs 61 = .ok (.aload_n 0, 1) := by decide +kernel
theorem dX9_weighs_62 : decode cX9_weighs 62 = .ok (.getfield 178, 3) := by decide +kernel
theorem dX9_weighs_65 : decode cX9_weighs 65 = .ok (.aload_n 0, 1) := by decide +kernel
theorem dX9_weighs_66 : decode cX9_weighs 66 = .ok (.iload_n 1, 1) := by decide +kernel
theorem dX9_weighs_67 : decode cX9_weighs 67 = .ok (.invokevirtual 184, 3) := by decide +kernel
theorem dX9_weighs_70 : decode cX9_weighs 70 = .ok (.iastore, 1) := by decide +kernel
theorem dX9_weighs_71 : decode cX9_weighs 71 = .ok (.aload_n 0, 1) := by decide +kernel
theorem dX9_weighs_72 : decode cX9_weighs 72 = .ok (.aload_n 0, 1) := by decide +kernel
theorem dX9_weighs_73 : decode cX9_weighs 73 = .ok (.getfield 178, 3) := by decide +kernel
theorem dX9_weighs_76 : decode cX9_weighs 76 = .ok (.iconst 1, 1) := by decide +kernel
theorem dX9_weighs_77 : decode cX9_weighs 77 = .ok (.iadd, 1) := by decide +kernel
theorem dX9_weighs_78 : decode cX9_weighs 78 = .ok (.putfield 178, 3) := by decide +kernel
theorem dX9_weighs_81 : decode cX9_weighs 81 = .ok (.iinc 1 1, 3) := by decide +kernel
theorem dX9_weighs_84 : decode cX9_weighs 84 = .ok (.goto (-77), 3) := by decide +kernel
theorem dX9_weighs_87 : decode cX9_weighs 87 = .ok (.return_, 1) := by decide +kernel
theorem dX9_bytesOf_0 : decode cX9_bytesOf 0 = .ok (.aload_n 0, 1) := by decide +kernel
theorem dX9_bytesOf_1 : decode cX9_bytesOf 1 = .ok (.iload_n 1, 1) := by decide +kernel
theorem dX9_bytesOf_2 : decode cX9_bytesOf 2 = .ok (.iconst 1, 1) := by decide +kernel
theorem dX9_bytesOf_3 : decode cX9_bytesOf 3 = .ok (.invokevirtual 168, 3) := by decide +kernel
theorem dX9_bytesOf_6 : decode cX9_bytesOf 6 = .ok (.istore_n 2, 1) := by decide +kernel
theorem dX9_bytesOf_7 : decode cX9_bytesOf 7 = .ok (.iload_n 1, 1) := by decide +kernel
theorem dX9_bytesOf_8 : decode cX9_bytesOf 8 = .ok (.bipush 10, 2) := by decide +kernel
theorem dX9_bytesOf_10 : decode cX9_bytesOf 10 = .ok (.if_icmp .lt 7, 3) := by decide +kernel
theorem dX9_bytesOf_13 : decode cX9_bytesOf 13 = .ok (.iconst 2, 1) := by decide +kernel
theorem dX9_bytesOf_14 : decode cX9_bytesOf 14 = .ok (.goto 4, 3) := by decide +kernel
theorem dX9_bytesOf_17 : decode cX9_bytesOf 17 = .ok (.iconst 1, 1) := by decide +kernel
theorem dX9_bytesOf_18 : decode cX9_bytesOf 18 = .ok (.iconst 3, 1) := by decide +kernel
theorem dX9_bytesOf_19 : decode cX9_bytesOf 19 = .ok (.iadd, 1) := by decide +kernel
theorem dX9_bytesOf_20 : decode cX9_bytesOf 20 = .ok (.aload_n 0, 1) := by decide +kernel
theorem dX9_bytesOf_21 : decode cX9_bytesOf 21 = .ok (.iload_n 1, 1) := by decide +kernel
theorem dX9_bytesOf_22 : decode cX9_bytesOf 22 = .ok (.iconst 0, 1) := by decide +kernel
theorem dX9_bytesOf_23 : decode cX9_bytesOf 23 = .ok (.invokevirtual 168, 3) := by decide +kernel
theorem dX9_bytesOf_26 : decode cX9_bytesOf 26 = .ok (.iadd, 1) := by decide +kernel
theorem dX9_bytesOf_27 : decode cX9_bytesOf 27 = .ok (.aload_n 0, 1) := by decide +kernel
theorem dX9_bytesOf_28 : decode cX9_bytesOf 28 = .ok (.iload_n 1, 1) := by decide +kernel
theorem dX9_bytesOf_29 : decode cX9_bytesOf 29 = .ok (.iconst 2, 1) := by decide +kernel
theorem dX9_bytesOf_30 : decode cX9_bytesOf 30 = .ok (.invokevirtual 168, 3) := by decide +kernel
theorem dX9_bytesOf_33 : decode cX9_bytesOf 33 = .ok (.iadd, 1) := by decide +kernel
theorem dX9_bytesOf_34 : decode cX9_bytesOf 34 = .ok (.aload_n 0, 1) := by decide +kernel
theorem dX9_bytesOf_35 : decode cX9_bytesOf 35 = .ok (.iload_n 1, 1) := by decide +kernel
theorem dX9_bytesOf_36 : decode cX9_bytesOf 36 = .ok (.iconst 3, 1) := by decide +kernel
theorem dX9_bytesOf_37 : decode cX9_bytesOf 37 = .ok (.invokevirtual 168, 3) := by decide +kernel
theorem dX9_bytesOf_40 : decode cX9_bytesOf 40 = .ok (.iadd, 1) := by decide +kernel
theorem dX9_bytesOf_41 : decode cX9_bytesOf 41 = .ok (.aload_n 0, 1) := by decide +kernel
theorem dX9_bytesOf_42 : decode cX9_bytesOf 42 = .ok (.iload_n 1, 1) := by decide +kernel
theorem dX9_bytesOf_43 : decode cX9_bytesOf 43 = .ok (.iconst 5, 1) := by decide +kernel
theorem dX9_bytesOf_44 : decode cX9_bytesOf 44 = .ok (.invokevirtual 168, 3) := by decide +kernel
theorem dX9_bytesOf_47 : decode cX9_bytesOf 47 = .ok (.iadd, 1) := by decide +kernel
theorem dX9_bytesOf_48 : decode cX9_bytesOf 48 = .ok (.istore_n 3, 1) := by decide +kernel
theorem dX9_bytesOf_49 : decode cX9_bytesOf 49 = .ok (.iload_n 3, 1) := by decide +kernel
theorem dX9_bytesOf_50 : decode cX9_bytesOf 50 = .ok (.iload_n 2, 1) := by decide +kernel
theorem dX9_bytesOf_51 : decode cX9_bytesOf 51 = .ok (.ifCond .ne 7, 3) := by decide +kernel
theorem dX9_bytesOf_54 : decode cX9_bytesOf 54 = .ok (.iconst 0, 1) := by decide +kernel
theorem dX9_bytesOf_55 : decode cX9_bytesOf 55 = .ok (.goto 14, 3) := by decide +kernel
theorem dX9_bytesOf_58 : decode cX9_bytesOf 58 = .ok (.iload_n 2, 1) := by decide +kernel
theorem dX9_bytesOf_59 : decode cX9_bytesOf 59 = .ok (.bipush 10, 2) := by decide +kernel
theorem dX9_bytesOf_61 : decode cX9_bytesOf 61 = .ok (.if_icmp .lt 7, 3) := by decide +kernel
theorem dX9_bytesOf_64 : decode cX9_bytesOf 64 = .ok (.iconst 3, 1) := by decide +kernel
theorem dX9_bytesOf_65 : decode cX9_bytesOf 65 = .ok (.goto 4, 3) := by decide +kernel
theorem dX9_bytesOf_68 : decode cX9_bytesOf 68 = .ok (.iconst 2, 1) := by decide +kernel
theorem dX9_bytesOf_69 : decode cX9_bytesOf 69 = .ok (.iadd, 1) := by decide +kernel
theorem dX9_bytesOf_70 : decode cX9_bytesOf 70 = .ok (.aload_n 0, 1) := by decide +kernel
theorem dX9_bytesOf_71 : decode cX9_bytesOf 71 = .ok (.iload_n 1, 1) := by decide +kernel
theorem dX9_bytesOf_72 : decode cX9_bytesOf 72 = .ok (.iconst 4, 1) := by decide +kernel
theorem dX9_bytesOf_73 : decode cX9_bytesOf 73 = .ok (.invokevirtual 168, 3) := by decide +kernel
theorem dX9_bytesOf_76 : decode cX9_bytesOf 76 = .ok (.ifCond .le 7, 3) := by decide +kernel
theorem dX9_bytesOf_79 : decode cX9_bytesOf 79 = .ok (.iconst 3, 1) := by decide +kernel
theorem dX9_bytesOf_80 : decode cX9_bytesOf 80 = .ok (.goto 4, 3) := by decide +kernel
theorem dX9_bytesOf_83 : decode cX9_bytesOf 83 = .ok (.iconst 0, 1) := by decide +kernel
theorem dX9_bytesOf_84 : decode cX9_bytesOf 84 = .ok (.iadd, 1) := by decide +kernel
theorem dX9_bytesOf_85 : decode cX9_bytesOf 85 = .ok (.ireturn, 1) := by decide +kernel
theorem dX9_chosen_0 : decode cX9_chosen 0 = .ok (.iload_n 1, 1) := by decide +kernel
theorem dX9_chosen_1 : decode cX9_chosen 1 = .ok (.iconst 0, 1) := by decide +kernel
theorem dX9_chosen_2 : decode cX9_chosen 2 = .ok (.sipush 200, 3) := by decide +kernel
theorem dX9_chosen_5 : decode cX9_chosen 5 = .ok (.invokestatic 67, 3) := by decide +kernel
theorem dX9_chosen_8 : decode cX9_chosen 8 = .ok (.ifCond .ne 5, 3) := by decide +kernel
theorem dX9_chosen_11 : decode cX9_chosen 11 = .ok (.iconst (-1), 1) := by decide +kernel
theorem dX9_chosen_12 : decode cX9_chosen 12 = .ok (.ireturn, 1) := by decide +kernel
theorem dX9_chosen_13 : decode cX9_chosen 13 = .ok (.aload_n 0, 1) := by decide +kernel
theorem dX9_chosen_14 : decode cX9_chosen 14 = .ok (.invokevirtual 187, 3) := by decide +kernel
theorem dX9_chosen_17 : decode cX9_chosen 17 = .ok (.iconst 0, 1) := by decide +kernel
theorem dX9_chosen_18 : decode cX9_chosen 18 = .ok (.istore_n 2, 1) := by decide +kernel
theorem dX9_chosen_19 : decode cX9_chosen 19 = .ok (.iconst 0, 1) := by decide +kernel
theorem dX9_chosen_20 : decode cX9_chosen 20 = .ok (.istore_n 3, 1) := by decide +kernel
theorem dX9_chosen_21 : decode cX9_chosen 21 = .ok (.iconst 0, 1) := by decide +kernel
theorem dX9_chosen_22 : decode cX9_chosen 22 = .ok (.istore 4, 2) := by decide +kernel
theorem dX9_chosen_24 : decode cX9_chosen 24 = .ok (.iconst 1, 1) := by decide +kernel
theorem dX9_chosen_25 : decode cX9_chosen 25 = .ok (.istore 5, 2) := by decide +kernel
theorem dX9_chosen_27 : decode cX9_chosen 27 = .ok (.iload 5, 2) := by decide +kernel
theorem dX9_chosen_29 : decode cX9_chosen 29 = .ok (.iconst 1, 1) := by decide +kernel
theorem dX9_chosen_30 : decode cX9_chosen 30 = .ok (.aload_n 0, 1) := by decide +kernel
theorem dX9_chosen_31 : decode cX9_chosen 31 = .ok (.getfield 178, 3) := by decide +kernel
theorem dX9_chosen_34 : decode cX9_chosen 34 = .ok (.ishl, 1) := by decide +kernel
theorem dX9_chosen_35 : decode cX9_chosen 35 = .ok (.if_icmp .ge 138, 3) := by decide +kernel
theorem dX9_chosen_38 : decode cX9_chosen 38 = .ok (.iconst 0, 1) := by decide +kernel
theorem dX9_chosen_39 : decode cX9_chosen 39 = .ok (.istore 6, 2) := by decide +kernel
theorem dX9_chosen_41 : decode cX9_chosen 41 = .ok (.iconst (-1), 1) := by decide +kernel
theorem dX9_chosen_42 : decode cX9_chosen 42 = .ok (.istore 7, 2) := by decide +kernel
theorem dX9_chosen_44 : decode cX9_chosen 44 = .ok (.iconst 0, 1) := by decide +kernel
theorem dX9_chosen_45 : decode cX9_chosen 45 = .ok (.istore 8, 2) := by decide +kernel
theorem dX9_chosen_47 : decode cX9_chosen 47 = .ok (.iload 8, 2) := by decide +kernel
theorem dX9_chosen_49 : decode cX9_chosen 49 = .ok (.aload_n 0, 1) := by decide +kernel
theorem dX9_chosen_50 : decode cX9_chosen 50 = .ok (.getfield 178, 3) := by decide +kernel
theorem dX9_chosen_53 : decode cX9_chosen 53 = .ok (.if_icmp .ge 48, 3) := by decide +kernel
theorem dX9_chosen_56 : decode cX9_chosen 56 = .ok (.iload 5, 2) := by decide +kernel
theorem dX9_chosen_58 : decode cX9_chosen 58 = .ok (.iload 8, 2) := by decide +kernel
theorem dX9_chosen_60 : decode cX9_chosen 60 = .ok (.ishr, 1) := by decide +kernel
theorem dX9_chosen_61 : decode cX9_chosen 61 = .ok (.iconst 1, 1) := by decide +kernel
theorem dX9_chosen_62 : decode cX9_chosen 62 = .ok (.iand, 1) := by decide +kernel
theorem dX9_chosen_63 : decode cX9_chosen 63 = .ok (.ifCond .ne 6, 3) := by decide +kernel
theorem dX9_chosen_66 : decode cX9_chosen 66 = .ok (.goto 29, 3) := by decide +kernel
theorem dX9_chosen_69 : decode cX9_chosen 69 = .ok (.iload 6, 2) := by decide +kernel
theorem dX9_chosen_71 : decode cX9_chosen 71 = .ok (.aload_n 0, 1) := by decide +kernel
theorem dX9_chosen_72 : decode cX9_chosen 72 = .ok (.getfield 55, 3) := by decide +kernel
theorem dX9_chosen_75 : decode cX9_chosen 75 = .ok (.iload 8, 2) := by decide +kernel
theorem dX9_chosen_77 : decode cX9_chosen 77 = .ok (.iaload, 1) := by decide +kernel
theorem dX9_chosen_78 : decode cX9_chosen 78 = .ok (.iadd, 1) := by decide +kernel
theorem dX9_chosen_79 : decode cX9_chosen 79 = .ok (.istore 6, 2) := by decide +kernel
theorem dX9_chosen_81 : decode cX9_chosen 81 = .ok (.iload 7, 2) := by decide +kernel
theorem dX9_chosen_83 : decode cX9_chosen 83 = .ok (.aload_n 0, 1) := by decide +kernel
theorem dX9_chosen_84 : decode cX9_chosen 84 = .ok (.getfield 58, 3) := by decide +kernel
theorem dX9_chosen_87 : decode cX9_chosen 87 = .ok (.iload 8, 2) := by decide +kernel
theorem dX9_chosen_89 : decode cX9_chosen 89 = .ok (.iaload, 1) := by decide +kernel
theorem dX9_chosen_90 : decode cX9_chosen 90 = .ok (.iadd, 1) := by decide +kernel
theorem dX9_chosen_91 : decode cX9_chosen 91 = .ok (.iconst 1, 1) := by decide +kernel
theorem dX9_chosen_92 : decode cX9_chosen 92 = .ok (.iadd, 1) := by decide +kernel
theorem dX9_chosen_93 : decode cX9_chosen 93 = .ok (.istore 7, 2) := by decide +kernel
theorem dX9_chosen_95 : decode cX9_chosen 95 = .ok (.iinc 8 1, 3) := by decide +kernel
theorem dX9_chosen_98 : decode cX9_chosen 98 = .ok (.goto (-51), 3) := by decide +kernel
theorem dX9_chosen_101 : decode cX9_chosen 101 = .ok (.iload 6, 2) := by decide +kernel
theorem dX9_chosen_103 : decode cX9_chosen 103 = .ok (.iload_n 3, 1) := by decide +kernel
theorem dX9_chosen_104 : decode cX9_chosen 104 = .ok (.if_icmp .gt 32, 3) := by decide +kernel
theorem dX9_chosen_107 : decode cX9_chosen 107 = .ok (.iload 6, 2) := by decide +kernel
theorem dX9_chosen_109 : decode cX9_chosen 109 = .ok (.iload_n 3, 1) := by decide +kernel
theorem dX9_chosen_110 : decode cX9_chosen 110 = .ok (.if_icmp .ne 30, 3) := by decide +kernel
theorem dX9_chosen_113 : decode cX9_chosen 113 = .ok (.iload 7, 2) := by decide +kernel
theorem dX9_chosen_115 : decode cX9_chosen 115 = .ok (.iload 4, 2) := by decide +kernel
theorem dX9_chosen_117 : decode cX9_chosen 117 = .ok (.if_icmp .lt 19, 3) := by decide +kernel
theorem dX9_chosen_120 : decode cX9_chosen 120 = .ok (.iload 7, 2) := by decide +kernel
theorem dX9_chosen_122 : decode cX9_chosen 122 = .ok (.iload 4, 2) := by decide +kernel
theorem dX9_chosen_124 : decode cX9_chosen 124 = .ok (.if_icmp .ne 16, 3) := by decide +kernel
theorem dX9_chosen_127 : decode cX9_chosen 127 = .ok (.iload 5, 2) := by decide +kernel
theorem dX9_chosen_129 : decode cX9_chosen 129 = .ok (.iload_n 2, 1) := by decide +kernel
theorem dX9_chosen_130 : decode cX9_chosen 130 = .ok (.invokestatic 190, 3) := by decide +kernel
theorem dX9_chosen_133 : decode cX9_chosen 133 = .ok (.ifCond .eq 7, 3) := by decide +kernel
theorem dX9_chosen_136 : decode cX9_chosen 136 = .ok (.iconst 1, 1) := by decide +kernel
theorem dX9_chosen_137 : decode cX9_chosen 137 = .ok (.goto 4, 3) := by decide +kernel
theorem dX9_chosen_140 : decode cX9_chosen 140 = .ok (.iconst 0, 1) := by decide +kernel
theorem dX9_chosen_141 : decode cX9_chosen 141 = .ok (.istore 8, 2) := by decide +kernel
theorem dX9_chosen_143 : decode cX9_chosen 143 = .ok (.iload 7, 2) := by decide +kernel
theorem dX9_chosen_145 : decode cX9_chosen 145 = .ok (.iload_n 1, 1) := by decide +kernel
theorem dX9_chosen_146 : decode cX9_chosen 146 = .ok (.if_icmp .gt 21, 3) := by decide +kernel
theorem dX9_chosen_149 : decode cX9_chosen 149 = .ok (.iload 8, 2) := by decide +kernel
theorem dX9_chosen_151 : decode cX9_chosen 151 = .ok (.ifCond .ne 6, 3) := by decide +kernel
theorem dX9_chosen_154 : decode cX9_chosen 154 = .ok (.goto 13, 3) := by decide +kernel
theorem dX9_chosen_157 : decode cX9_chosen 157 = .ok (.iload 5, 2) := by decide +kernel
theorem dX9_chosen_159 : decode cX9_chosen 159 = .ok (.istore_n 2, 1) := by decide +kernel
theorem dX9_chosen_160 : decode cX9_chosen 160 = .ok (.iload 6, 2) := by decide +kernel
theorem dX9_chosen_162 : decode cX9_chosen 162 = .ok (.istore_n 3, 1) := by decide +kernel
theorem dX9_chosen_163 : decode cX9_chosen 163 = .ok (.iload 7, 2) := by decide +kernel
theorem dX9_chosen_165 : decode cX9_chosen 165 = .ok (.istore 4, 2) := by decide +kernel
theorem dX9_chosen_167 : decode cX9_chosen 167 = .ok (.iinc 5 1, 3) := by decide +kernel
theorem dX9_chosen_170 : decode cX9_chosen 170 = .ok (.goto (-143), 3) := by decide +kernel
theorem dX9_chosen_173 : decode cX9_chosen 173 = .ok (.iconst 0, 1) := by decide +kernel
theorem dX9_chosen_174 : decode cX9_chosen 174 = .ok (.istore 5, 2) := by decide +kernel
theorem dX9_chosen_176 : decode cX9_chosen 176 = .ok (.iconst 0, 1) := by decide +kernel
theorem dX9_chosen_177 : decode cX9_chosen 177 = .ok (.istore 6, 2) := by decide +kernel
theorem dX9_chosen_179 : decode cX9_chosen 179 = .ok (.iload 6, 2) := by decide +kernel
theorem dX9_chosen_181 : decode cX9_chosen 181 = .ok (.aload_n 0, 1) := by decide +kernel
theorem dX9_chosen_182 : decode cX9_chosen 182 = .ok (.getfield 178, 3) := by decide +kernel
theorem dX9_chosen_185 : decode cX9_chosen 185 = .ok (.if_icmp .ge 35, 3) := by decide +kernel
theorem dX9_chosen_188 : decode cX9_chosen 188 = .ok (.iload_n 2, 1) := by decide +kernel
theorem dX9_chosen_189 : decode cX9_chosen 189 = .ok (.iload 6, 2) := by decide +kernel
theorem dX9_chosen_191 : decode cX9_chosen 191 = .ok (.ishr, 1) := by decide +kernel
theorem dX9_chosen_192 : decode cX9_chosen 192 = .ok (.iconst 1, 1) := by decide +kernel
theorem dX9_chosen_193 : decode cX9_chosen 193 = .ok (.iand, 1) := by decide +kernel
theorem dX9_chosen_194 : decode cX9_chosen 194 = .ok (.iconst 1, 1) := by decide +kernel
theorem dX9_chosen_195 : decode cX9_chosen 195 = .ok (.if_icmp .ne 19, 3) := by decide +kernel
theorem dX9_chosen_198 : decode cX9_chosen 198 = .ok (.iload 5, 2) := by decide +kernel
theorem dX9_chosen_200 : decode cX9_chosen 200 = .ok (.iconst 1, 1) := by decide +kernel
theorem dX9_chosen_201 : decode cX9_chosen 201 = .ok (.aload_n 0, 1) := by decide +kernel
theorem dX9_chosen_202 : decode cX9_chosen 202 = .ok (.getfield 52, 3) := by decide +kernel
theorem dX9_chosen_205 : decode cX9_chosen 205 = .ok (.iload 6, 2) := by decide +kernel
theorem dX9_chosen_207 : decode cX9_chosen 207 = .ok (.iaload, 1) := by decide +kernel
theorem dX9_chosen_208 : decode cX9_chosen 208 = .ok (.iconst 1, 1) := by decide +kernel
theorem dX9_chosen_209 : decode cX9_chosen 209 = .ok (.isub, 1) := by decide +kernel
theorem dX9_chosen_210 : decode cX9_chosen 210 = .ok (.ishl, 1) := by decide +kernel
theorem dX9_chosen_211 : decode cX9_chosen 211 = .ok (.ior, 1) := by decide +kernel
theorem dX9_chosen_212 : decode cX9_chosen 212 = .ok (.istore 5, 2) := by decide +kernel
theorem dX9_chosen_214 : decode cX9_chosen 214 = .ok (.iinc 6 1, 3) := by decide +kernel
theorem dX9_chosen_217 : decode cX9_chosen 217 = .ok (.goto (-38), 3) := by decide +kernel
theorem dX9_chosen_220 : decode cX9_chosen 220 = .ok (.iload 5, 2) := by decide +kernel
theorem dX9_chosen_222 : decode cX9_chosen 222 = .ok (.ireturn, 1) := by decide +kernel
theorem dX9_isEarlier_0 : decode cX9_isEarlier 0 = .ok (.iconst 0, 1) := by decide +kernel
theorem dX9_isEarlier_1 : decode cX9_isEarlier 1 = .ok (.istore_n 2, 1) := by decide +kernel
theorem dX9_isEarlier_2 : decode cX9_isEarlier 2 = .ok (.iload_n 2, 1) := by decide +kernel
theorem dX9_isEarlier_3 : decode cX9_isEarlier 3 = .ok (.bipush 12, 2) := by decide +kernel
theorem dX9_isEarlier_5 : decode cX9_isEarlier 5 = .ok (.if_icmp .ge 23, 3) := by decide +kernel
theorem dX9_isEarlier_8 : decode cX9_isEarlier 8 = .ok (.iload_n 0, 1) := by decide +kernel
theorem dX9_isEarlier_9 : decode cX9_isEarlier 9 = .ok (.iload_n 2, 1) := by decide +kernel
theorem dX9_isEarlier_10 : decode cX9_isEarlier 10 = .ok (.ishr, 1) := by decide +kernel
theorem dX9_isEarlier_11 : decode cX9_isEarlier 11 = .ok (.iconst 1, 1) := by decide +kernel
theorem dX9_isEarlier_12 : decode cX9_isEarlier 12 = .ok (.iand, 1) := by decide +kernel
theorem dX9_isEarlier_13 : decode cX9_isEarlier 13 = .ok (.iload_n 1, 1) := by decide +kernel
theorem dX9_isEarlier_14 : decode cX9_isEarlier 14 = .ok (.iload_n 2, 1) := by decide +kernel
theorem dX9_isEarlier_15 : decode cX9_isEarlier 15 = .ok (.ishr, 1) := by decide +kernel
theorem dX9_isEarlier_16 : decode cX9_isEarlier 16 = .ok (.iconst 1, 1) := by decide +kernel
theorem dX9_isEarlier_17 : decode cX9_isEarlier 17 = .ok (.iand, 1) := by decide +kernel
theorem dX9_isEarlier_18 : decode cX9_isEarlier 18 = .ok (.if_icmp .ne 10, 3) := by decide +kernel
theorem dX9_isEarlier_21 : decode cX9_isEarlier 21 = .ok (.iload_n 2, 1) := by decide +kernel
theorem dX9_isEarlier_22 : decode cX9_isEarlier 22 = .ok (.iconst 1, 1) := by decide +kernel
theorem dX9_isEarlier_23 : decode cX9_isEarlier 23 = .ok (.iadd, 1) := by decide +kernel
theorem dX9_isEarlier_24 : decode cX9_isEarlier 24 = .ok (.istore_n 2, 1) := by decide +kernel
theorem dX9_isEarlier_25 : decode cX9_isEarlier 25 = .ok (.goto (-23), 3) := by decide +kernel
theorem dX9_isEarlier_28 : decode cX9_isEarlier 28 = .ok (.iload_n 2, 1) := by decide +kernel
theorem dX9_isEarlier_29 : decode cX9_isEarlier 29 = .ok (.bipush 12, 2) := by decide +kernel
theorem dX9_isEarlier_31 : decode cX9_isEarlier 31 = .ok (.if_icmp .ge 16, 3) := by decide +kernel
theorem dX9_isEarlier_34 : decode cX9_isEarlier 34 = .ok (.iload_n 0, 1) := by decide +kernel
theorem dX9_isEarlier_35 : decode cX9_isEarlier 35 = .ok (.iload_n 2, 1) := by decide +kernel
theorem dX9_isEarlier_36 : decode cX9_isEarlier 36 = .ok (.ishr, 1) := by decide +kernel
theorem dX9_isEarlier_37 : decode cX9_isEarlier 37 = .ok (.iconst 1, 1) := by decide +kernel
theorem dX9_isEarlier_38 : decode cX9_isEarlier 38 = .ok (.iand, 1) := by decide +kernel
theorem dX9_isEarlier_39 : decode cX9_isEarlier 39 = .ok (.iconst 1, 1) := by decide +kernel
theorem dX9_isEarlier_40 : decode cX9_isEarlier 40 = .ok (.if_icmp .ne 7, 3) := by decide +kernel
theorem dX9_isEarlier_43 : decode cX9_isEarlier 43 = .ok (.iconst 1, 1) := by decide +kernel
theorem dX9_isEarlier_44 : decode cX9_isEarlier 44 = .ok (.goto 4, 3) := by decide +kernel
theorem dX9_isEarlier_47 : decode cX9_isEarlier 47 = .ok (.iconst 0, 1) := by decide +kernel
theorem dX9_isEarlier_48 : decode cX9_isEarlier 48 = .ok (.ireturn, 1) := by decide +kernel
theorem dX9_types_0 : decode cX9_types 0 = .ok (.iconst 3, 1) := by decide +kernel
theorem dX9_types_1 : decode cX9_types 1 = .ok (.istore_n 2, 1) := by decide +kernel
theorem dX9_types_2 : decode cX9_types 2 = .ok (.iload_n 2, 1) := by decide +kernel
theorem dX9_types_3 : decode cX9_types 3 = .ok (.ifCond .lt 35, 3) := by decide +kernel
theorem dX9_types_6 : decode cX9_types 6 = .ok (.aload_n 0, 1) := by decide +kernel
theorem dX9_types_7 : decode cX9_types 7 = .ok (.getfield 61, 3) := by decide +kernel
theorem dX9_types_10 : decode cX9_types 10 = .ok (.aload_n 0, 1) := by decide +kernel
theorem dX9_types_11 : decode cX9_types 11 = .ok (.getfield 193, 3) := by decide +kernel
theorem dX9_types_14 : decode cX9_types 14 = .ok (.iload_n 1, 1) := by decide +kernel
theorem dX9_types_15 : decode cX9_types 15 = .ok (.bipush 8, 2) := by decide +kernel
theorem dX9_types_17 : decode cX9_types 17 = .ok (.iload_n 2, 1) := by decide +kernel
theorem dX9_types_18 : decode cX9_types 18 = .ok (.imul, 1) := by decide +kernel
theorem dX9_types_19 : decode cX9_types 19 = .ok (.ishr, 1) := by decide +kernel
theorem dX9_types_20 : decode cX9_types 20 = .ok (.i2b, 1) := by decide +kernel
theorem dX9_types_21 : decode cX9_types 21 = .ok (.bastore, 1) := by decide +kernel
theorem dX9_types_22 : decode cX9_types 22 = .ok (.aload_n 0, 1) := by decide +kernel
theorem dX9_types_23 : decode cX9_types 23 = .ok (.aload_n 0, 1) := by decide +kernel
theorem dX9_types_24 : decode cX9_types 24 = .ok (.getfield 193, 3) := by decide +kernel
theorem dX9_types_27 : decode cX9_types 27 = .ok (.iconst 1, 1) := by decide +kernel
theorem dX9_types_28 : decode cX9_types 28 = .ok (.iadd, 1) := by decide +kernel
theorem dX9_types_29 : decode cX9_types 29 = .ok (.putfield 193, 3) := by decide +kernel
theorem dX9_types_32 : decode cX9_types 32 = .ok (.iinc 2 (-1), 3) := by decide +kernel
theorem dX9_types_35 : decode cX9_types 35 = .ok (.goto (-33), 3) := by decide +kernel
theorem dX9_types_38 : decode cX9_types 38 = .ok (.return_, 1) := by decide +kernel
theorem dX9_feed_0 : decode cX9_feed 0 = .ok (.aload_n 0, 1) := by decide +kernel
theorem dX9_feed_1 : decode cX9_feed 1 = .ok (.getfield 193, 3) := by decide +kernel
theorem dX9_feed_4 : decode cX9_feed 4 = .ok (.bipush 20, 2) := by decide +kernel
theorem dX9_feed_6 : decode cX9_feed 6 = .ok (.iadd, 1) := by decide +kernel
theorem dX9_feed_7 : decode cX9_feed 7 = .ok (.bipush 120, 2) := by decide +kernel
theorem dX9_feed_9 : decode cX9_feed 9 = .ok (.if_icmp .le 5, 3) := by decide +kernel
theorem dX9_feed_12 : decode cX9_feed 12 = .ok (.iconst (-1), 1) := by decide +kernel
theorem dX9_feed_13 : decode cX9_feed 13 = .ok (.ireturn, 1) := by decide +kernel
theorem dX9_feed_14 : decode cX9_feed 14 = .ok (.aload_n 0, 1) := by decide +kernel
theorem dX9_feed_15 : decode cX9_feed 15 = .ok (.iload_n 1, 1) := by decide +kernel
theorem dX9_feed_16 : decode cX9_feed 16 = .ok (.invokevirtual 196, 3) := by decide +kernel
theorem dX9_feed_19 : decode cX9_feed 19 = .ok (.aload_n 0, 1) := by decide +kernel
theorem dX9_feed_20 : decode cX9_feed 20 = .ok (.iload_n 2, 1) := by decide +kernel
theorem dX9_feed_21 : decode cX9_feed 21 = .ok (.invokevirtual 196, 3) := by decide +kernel
theorem dX9_feed_24 : decode cX9_feed 24 = .ok (.aload_n 0, 1) := by decide +kernel
theorem dX9_feed_25 : decode cX9_feed 25 = .ok (.iload_n 3, 1) := by decide +kernel
theorem dX9_feed_26 : decode cX9_feed 26 = .ok (.invokevirtual 196, 3) := by decide +kernel
theorem dX9_feed_29 : decode cX9_feed 29 = .ok (.aload_n 0, 1) := by decide +kernel
theorem dX9_feed_30 : decode cX9_feed 30 = .ok (.iload 4, 2) := by decide +kernel
theorem dX9_feed_32 : decode cX9_feed 32 = .ok (.invokevirtual 196, 3) := by decide +kernel
theorem dX9_feed_35 : decode cX9_feed 35 = .ok (.aload_n 0, 1) := by decide +kernel
theorem dX9_feed_36 : decode cX9_feed 36 = .ok (.iload 5, 2) := by decide +kernel
theorem dX9_feed_38 : decode cX9_feed 38 = .ok (.invokevirtual 196, 3) := by decide +kernel
theorem dX9_feed_41 : decode cX9_feed 41 = .ok (.aload_n 0, 1) := by decide +kernel
theorem dX9_feed_42 : decode cX9_feed 42 = .ok (.getfield 193, 3) := by decide +kernel
theorem dX9_feed_45 : decode cX9_feed 45 = .ok (.ireturn, 1) := by decide +kernel
theorem dX9_sign_0 : decode cX9_sign 0 = .ok (.iload_n 1, 1) := by decide +kernel
theorem dX9_sign_1 : decode cX9_sign 1 = .ok (.aload_n 0, 1) := by decide +kernel
theorem dX9_sign_2 : decode cX9_sign 2 = .ok (.getfield 199, 3) := by decide +kernel
theorem dX9_sign_5 : decode cX9_sign 5 = .ok (.if_icmp .ge 16, 3) := by decide +kernel
theorem dX9_sign_8 : decode cX9_sign 8 = .ok (.aload_n 0, 1) := by decide +kernel
theorem dX9_sign_9 : decode cX9_sign 9 = .ok (.getfield 61, 3) := by decide +kernel
theorem dX9_sign_12 : decode cX9_sign 12 = .ok (.iload_n 1, 1) := by decide +kernel
theorem dX9_sign_13 : decode cX9_sign 13 = .ok (.baload, 1) := by decide +kernel
theorem dX9_sign_14 : decode cX9_sign 14 = .ok (.sipush 255, 3) := by decide +kernel
theorem dX9_sign_17 : decode cX9_sign 17 = .ok (.iand, 1) := by decide +kernel
theorem dX9_sign_18 : decode cX9_sign 18 = .ok (.goto 4, 3) := by decide +kernel
theorem dX9_sign_21 : decode cX9_sign 21 = .ok (.iconst 0, 1) := by decide +kernel
theorem dX9_sign_22 : decode cX9_sign 22 = .ok (.ireturn, 1) := by decide +kernel
theorem dX9_isDigit_0 : decode cX9_isDigit 0 = .ok (.iload_n 0, 1) := by decide +kernel
theorem dX9_isDigit_1 : decode cX9_isDigit 1 = .ok (.bipush 48, 2) := by decide +kernel
theorem dX9_isDigit_3 : decode cX9_isDigit 3 = .ok (.if_icmp .lt 13, 3) := by decide +kernel
theorem dX9_isDigit_6 : decode cX9_isDigit 6 = .ok (.iload_n 0, 1) := by decide +kernel
theorem dX9_isDigit_7 : decode cX9_isDigit 7 = .ok (.bipush 57, 2) := by decide +kernel
theorem dX9_isDigit_9 : decode cX9_isDigit 9 = .ok (.if_icmp .gt 7, 3) := by decide +kernel
theorem dX9_isDigit_12 : decode cX9_isDigit 12 = .ok (.iconst 1, 1) := by decide +kernel
theorem dX9_isDigit_13 : decode cX9_isDigit 13 = .ok (.goto 4, 3) := by decide +kernel
theorem dX9_isDigit_16 : decode cX9_isDigit 16 = .ok (.iconst 0, 1) := by decide +kernel
theorem dX9_isDigit_17 : decode cX9_isDigit 17 = .ok (.ireturn, 1) := by decide +kernel
theorem dX9_isCellAt_0 : decode cX9_isCellAt 0 = .ok (.aload_n 0, 1) := by decide +kernel
theorem dX9_isCellAt_1 : decode cX9_isCellAt 1 = .ok (.iload_n 1, 1) := by decide +kernel
theorem dX9_isCellAt_2 : decode cX9_isCellAt 2 = .ok (.invokevirtual 202, 3) := by decide +kernel
theorem dX9_isCellAt_5 : decode cX9_isCellAt 5 = .ok (.bipush 97, 2) := by decide +kernel
theorem dX9_isCellAt_7 : decode cX9_isCellAt 7 = .ok (.if_icmp .lt 41, 3) := by decide +kernel
theorem dX9_isCellAt_10 : decode cX9_isCellAt 10 = .ok (.aload_n 0, 1) := by decide +kernel
theorem dX9_isCellAt_11 : decode cX9_isCellAt 11 = .ok (.iload_n 1, 1) := by decide +kernel
theorem dX9_isCellAt_12 : decode cX9_isCellAt 12 = .ok (.invokevirtual 202, 3) := by decide +kernel
theorem dX9_isCellAt_15 : decode cX9_isCellAt 15 = .ok (.bipush 100, 2) := by decide +kernel
theorem dX9_isCellAt_17 : decode cX9_isCellAt 17 = .ok (.if_icmp .gt 31, 3) := by decide +kernel
theorem dX9_isCellAt_20 : decode cX9_isCellAt 20 = .ok (.aload_n 0, 1) := by decide +kernel
theorem dX9_isCellAt_21 : decode cX9_isCellAt 21 = .ok (.iload_n 1, 1) := by decide +kernel
theorem dX9_isCellAt_22 : decode cX9_isCellAt 22 = .ok (.iconst 1, 1) := by decide +kernel
theorem dX9_isCellAt_23 : decode cX9_isCellAt 23 = .ok (.iadd, 1) := by decide +kernel
theorem dX9_isCellAt_24 : decode cX9_isCellAt 24 = .ok (.invokevirtual 202, 3) := by decide +kernel
theorem dX9_isCellAt_27 : decode cX9_isCellAt 27 = .ok (.bipush 49, 2) := by decide +kernel
theorem dX9_isCellAt_29 : decode cX9_isCellAt 29 = .ok (.if_icmp .lt 19, 3) := by decide +kernel
theorem dX9_isCellAt_32 : decode cX9_isCellAt 32 = .ok (.aload_n 0, 1) := by decide +kernel
theorem dX9_isCellAt_33 : decode cX9_isCellAt 33 = .ok (.iload_n 1, 1) := by decide +kernel
theorem dX9_isCellAt_34 : decode cX9_isCellAt 34 = .ok (.iconst 1, 1) := by decide +kernel
theorem dX9_isCellAt_35 : decode cX9_isCellAt 35 = .ok (.iadd, 1) := by decide +kernel
theorem dX9_isCellAt_36 : decode cX9_isCellAt 36 = .ok (.invokevirtual 202, 3) := by decide +kernel
theorem dX9_isCellAt_39 : decode cX9_isCellAt 39 = .ok (.bipush 52, 2) := by decide +kernel
theorem dX9_isCellAt_41 : decode cX9_isCellAt 41 = .ok (.if_icmp .gt 7, 3) := by decide +kernel
theorem dX9_isCellAt_44 : decode cX9_isCellAt 44 = .ok (.iconst 1, 1) := by decide +kernel
theorem dX9_isCellAt_45 : decode cX9_isCellAt 45 = .ok (.goto 4, 3) := by decide +kernel
theorem dX9_isCellAt_48 : decode cX9_isCellAt 48 = .ok (.iconst 0, 1) := by decide +kernel
theorem dX9_isCellAt_49 : decode cX9_isCellAt 49 = .ok (.ireturn, 1) := by decide +kernel
theorem dX9_readsNumber_0 : decode cX9_readsNumber 0 = .ok (.aload_n 0, 1) := by decide +kernel
theorem dX9_readsNumber_1 : decode cX9_readsNumber 1 = .ok (.aload_n 0, 1) := by decide +kernel
theorem dX9_readsNumber_2 : decode cX9_readsNumber 2 = .ok (.getfield 205, 3) := by decide +kernel
theorem dX9_readsNumber_5 : decode cX9_readsNumber 5 = .ok (.invokevirtual 202, 3) := by decide +kernel
theorem dX9_readsNumber_8 : decode cX9_readsNumber 8 = .ok (.invokestatic 208, 3) := by decide +kernel
theorem dX9_readsNumber_11 : decode cX9_readsNumber 11 = .ok (.ifCond .ne 5, 3) := by decide +kernel
theorem dX9_readsNumber_14 : decode cX9_readsNumber 14 = .ok (.iconst 1, 1) := by decide +kernel
theorem dX9_readsNumber_15 : decode cX9_readsNumber 15 = .ok (.ireturn, 1) := by decide +kernel
theorem dX9_readsNumber_16 : decode cX9_readsNumber 16 = .ok (.aload_n 0, 1) := by decide +kernel
theorem dX9_readsNumber_17 : decode cX9_readsNumber 17 = .ok (.getfield 78, 3) := by decide +kernel
theorem dX9_readsNumber_20 : decode cX9_readsNumber 20 = .ok (.iconst 1, 1) := by decide +kernel
theorem dX9_readsNumber_21 : decode cX9_readsNumber 21 = .ok (.iadd, 1) := by decide +kernel
theorem dX9_readsNumber_22 : decode cX9_readsNumber 22 = .ok (.istore_n 1, 1) := by decide +kernel
theorem dX9_readsNumber_23 : decode cX9_readsNumber 23 = .ok (.iload_n 1, 1) := by decide +kernel
theorem dX9_readsNumber_24 : decode cX9_readsNumber 24 = .ok (.bipush 10, 2) := by decide +kernel
theorem dX9_readsNumber_26 : decode cX9_readsNumber 26 = .ok (.if_icmp .lt 33, 3) := by decide +kernel
theorem dX9_readsNumber_29 : decode cX9_readsNumber 29 = .ok (.aload_n 0, 1) := by decide +kernel
theorem dX9_readsNumber_30 : decode cX9_readsNumber 30 = .ok (.aload_n 0, 1) := by decide +kernel
theorem dX9_readsNumber_31 : decode cX9_readsNumber 31 = .ok (.getfield 205, 3) := by decide +kernel
theorem dX9_readsNumber_34 : decode cX9_readsNumber 34 = .ok (.invokevirtual 202, 3) := by decide +kernel
theorem dX9_readsNumber_37 : decode cX9_readsNumber 37 = .ok (.bipush 48, 2) := by decide +kernel
theorem dX9_readsNumber_39 : decode cX9_readsNumber 39 = .ok (.iload_n 1, 1) := by decide +kernel
theorem dX9_readsNumber_40 : decode cX9_readsNumber 40 = .ok (.bipush 10, 2) := by decide +kernel
theorem dX9_readsNumber_42 : decode cX9_readsNumber 42 = .ok (.idiv, 1) := by decide +kernel
theorem dX9_readsNumber_43 : decode cX9_readsNumber 43 = .ok (.iadd, 1) := by decide +kernel
theorem dX9_readsNumber_44 : decode cX9_readsNumber 44 = .ok (.if_icmp .eq 5, 3) := by decide +kernel
theorem dX9_readsNumber_47 : decode cX9_readsNumber 47 = .ok (.iconst 0, 1) := by decide +kernel
theorem dX9_readsNumber_48 : decode cX9_readsNumber 48 = .ok (.ireturn, 1) := by decide +kernel
theorem dX9_readsNumber_49 : decode cX9_readsNumber 49 = .ok (.aload_n 0, 1) := by decide +kernel
theorem dX9_readsNumber_50 : decode cX9_readsNumber 50 = .ok (.aload_n 0, 1) := by decide +kernel
theorem dX9_readsNumber_51 : decode cX9_readsNumber 51 = .ok (.getfield 205, 3) := by decide +kernel
theorem dX9_readsNumber_54 : decode cX9_readsNumber 54 = .ok (.iconst 1, 1) := by decide +kernel
theorem dX9_readsNumber_55 : decode cX9_readsNumber 55 = .ok (.iadd, 1) := by decide +kernel
theorem dX9_readsNumber_56 : decode cX9_readsNumber 56 = .ok (.putfield 205, 3) := by decide +kernel
theorem dX9_readsNumber_59 : decode cX9_readsNumber 59 = .ok (.aload_n 0, 1) := by decide +kernel
theorem dX9_readsNumber_60 : decode cX9_readsNumber 60 = .ok (.aload_n 0, 1) := by decide +kernel
theorem dX9_readsNumber_61 : decode cX9_readsNumber 61 = .ok (.getfield 205, 3) := by decide +kernel
theorem dX9_readsNumber_64 : decode cX9_readsNumber 64 = .ok (.invokevirtual 202, 3) := by decide +kernel
theorem dX9_readsNumber_67 : decode cX9_readsNumber 67 = .ok (.bipush 48, 2) := by decide +kernel
theorem dX9_readsNumber_69 : decode cX9_readsNumber 69 = .ok (.iload_n 1, 1) := by decide +kernel
theorem dX9_readsNumber_70 : decode cX9_readsNumber 70 = .ok (.bipush 10, 2) := by decide +kernel
theorem dX9_readsNumber_72 : decode cX9_readsNumber 72 = .ok (.irem, 1) := by decide +kernel
theorem dX9_readsNumber_73 : decode cX9_readsNumber 73 = .ok (.iadd, 1) := by decide +kernel
theorem dX9_readsNumber_74 : decode cX9_readsNumber 74 = .ok (.if_icmp .ne 18, 3) := by decide +kernel
theorem dX9_readsNumber_77 : decode cX9_readsNumber 77 = .ok (.aload_n 0, 1) := by decide +kernel
theorem dX9_readsNumber_78 : decode cX9_readsNumber 78 = .ok (.aload_n 0, 1) := by decide +kernel
theorem dX9_readsNumber_79 : decode cX9_readsNumber 79 = .ok (.getfield 205, 3) := by decide +kernel
theorem dX9_readsNumber_82 : decode cX9_readsNumber 82 = .ok (.iconst 1, 1) := by decide +kernel
theorem dX9_readsNumber_83 : decode cX9_readsNumber 83 = .ok (.iadd, 1) := by decide +kernel
theorem dX9_readsNumber_84 : decode cX9_readsNumber 84 = .ok (.invokevirtual 202, 3) := by decide +kernel
theorem dX9_readsNumber_87 : decode cX9_readsNumber 87 = .ok (.bipush 46, 2) := by decide +kernel
theorem dX9_readsNumber_89 : decode cX9_readsNumber 89 = .ok (.if_icmp .eq 5, 3) := by decide +kernel
theorem dX9_readsNumber_92 : decode cX9_readsNumber 92 = .ok (.iconst 0, 1) := by decide +kernel
theorem dX9_readsNumber_93 : decode cX9_readsNumber 93 = .ok (.ireturn, 1) := by decide +kernel
theorem dX9_readsNumber_94 : decode cX9_readsNumber 94 = .ok (.aload_n 0, 1) := by decide +kernel
theorem dX9_readsNumber_95 : decode cX9_readsNumber 95 = .ok (.aload_n 0, 1) := by decide +kernel
theorem dX9_readsNumber_96 : decode cX9_readsNumber 96 = .ok (.getfield 205, 3) := by decide +kernel
theorem dX9_readsNumber_99 : decode cX9_readsNumber 99 = .ok (.iconst 2, 1) := by decide +kernel
theorem dX9_readsNumber_100 : decode cX9_readsNumber 100 = .ok (.iadd, 1) := by decide +kernel
theorem dX9_readsNumber_101 : decode cX9_readsNumber 101 = .ok (.putfield 205, 3) := by decide +kernel
theorem dX9_readsNumber_104 : decode cX9_readsNumber 104 = .ok (.iconst 1, 1) := by decide +kernel
theorem dX9_readsNumber_105 : decode cX9_readsNumber 105 = .ok (.ireturn, 1) := by decide +kernel
theorem dX9_readsSigns_0 : decode cX9_readsSigns 0 = .ok (.iconst 1, 1) := by decide +kernel
theorem dX9_readsSigns_1 : decode cX9_readsSigns 1 = .ok (.istore_n 1, 1) := by decide +kernel
theorem dX9_readsSigns_2 : decode cX9_readsSigns 2 = .ok (.iload_n 1, 1) := by decide +kernel
theorem dX9_readsSigns_3 : decode cX9_readsSigns 3 = .ok (.ifCond .eq 158, 3) := by decide +kernel
theorem dX9_readsSigns_6 : decode cX9_readsSigns 6 = .ok (.aload_n 0, 1) := by decide +kernel
theorem dX9_readsSigns_7 : decode cX9_readsSigns 7 = .ok (.aload_n 0, 1) := by decide +kernel
theorem dX9_readsSigns_8 : decode cX9_readsSigns 8 = .ok (.getfield 205, 3) := by decide +kernel
theorem dX9_readsSigns_11 : decode cX9_readsSigns 11 = .ok (.invokevirtual 202, 3) := by decide +kernel
theorem dX9_readsSigns_14 : decode cX9_readsSigns 14 = .ok (.istore_n 2, 1) := by decide +kernel
theorem dX9_readsSigns_15 : decode cX9_readsSigns 15 = .ok (.iload_n 2, 1) := by decide +kernel
theorem dX9_readsSigns_16 : decode cX9_readsSigns 16 = .ok (.bipush 35, 2) := by decide +kernel
theorem dX9_readsSigns_18 : decode cX9_readsSigns 18 = .ok (.if_icmp .eq 33, 3) := by decide +kernel
theorem dX9_readsSigns_21 : decode cX9_readsSigns 21 = .ok (.iload_n 2, 1) := by decide +kernel
theorem dX9_readsSigns_22 : decode cX9_readsSigns 22 = .ok (.bipush 43, 2) := by decide +kernel
theorem dX9_readsSigns_24 : decode cX9_readsSigns 24 = .ok (.if_icmp .eq 27, 3) := by decide +kernel
theorem dX9_readsSigns_27 : decode cX9_readsSigns 27 = .ok (.iload_n 2, 1) := by decide +kernel
theorem dX9_readsSigns_28 : decode cX9_readsSigns 28 = .ok (.bipush 33, 2) := by decide +kernel
theorem dX9_readsSigns_30 : decode cX9_readsSigns 30 = .ok (.if_icmp .eq 21, 3) := by decide +kernel
theorem dX9_readsSigns_33 : decode cX9_readsSigns 33 = .ok (.iload_n 2, 1) := by decide +kernel
theorem dX9_readsSigns_34 : decode cX9_readsSigns 34 = .ok (.bipush 63, 2) := by decide +kernel
theorem dX9_readsSigns_36 : decode cX9_readsSigns 36 = .ok (.if_icmp .eq 15, 3) := by decide +kernel
theorem dX9_readsSigns_39 : decode cX9_readsSigns 39 = .ok (.iload_n 2, 1) := by decide +kernel
theorem dX9_readsSigns_40 : decode cX9_readsSigns 40 = .ok (.bipush 42, 2) := by decide +kernel
theorem dX9_readsSigns_42 : decode cX9_readsSigns 42 = .ok (.if_icmp .eq 9, 3) := by decide +kernel
theorem dX9_readsSigns_45 : decode cX9_readsSigns 45 = .ok (.iload_n 2, 1) := by decide +kernel
theorem dX9_readsSigns_46 : decode cX9_readsSigns 46 = .ok (.bipush 61, 2) := by decide +kernel
theorem dX9_readsSigns_48 : decode cX9_readsSigns 48 = .ok (.if_icmp .ne 7, 3) := by decide +kernel
theorem dX9_readsSigns_51 : decode cX9_readsSigns 51 = .ok (.iconst 1, 1) := by decide +kernel
theorem dX9_readsSigns_52 : decode cX9_readsSigns 52 = .ok (.goto 4, 3) := by decide +kernel
theorem dX9_readsSigns_55 : decode cX9_readsSigns 55 = .ok (.iconst 0, 1) := by decide +kernel
theorem dX9_readsSigns_56 : decode cX9_readsSigns 56 = .ok (.istore_n 1, 1) := by decide +kernel
theorem dX9_readsSigns_57 : decode cX9_readsSigns 57 = .ok (.iload_n 1, 1) := by decide +kernel
theorem dX9_readsSigns_58 : decode cX9_readsSigns 58 = .ok (.ifCond .ne 6, 3) := by decide +kernel
theorem dX9_readsSigns_61 : decode cX9_readsSigns 61 = .ok (.goto (-59), 3) := by decide +kernel
theorem dX9_readsSigns_64 : decode cX9_readsSigns 64 = .ok (.aload_n 0, 1) := by decide +kernel
theorem dX9_readsSigns_65 : decode cX9_readsSigns 65 = .ok (.aload_n 0, 1) := by decide +kernel
theorem dX9_readsSigns_66 : decode cX9_readsSigns 66 = .ok (.getfield 205, 3) := by decide +kernel
theorem dX9_readsSigns_69 : decode cX9_readsSigns 69 = .ok (.iconst 1, 1) := by decide +kernel
theorem dX9_readsSigns_70 : decode cX9_readsSigns 70 = .ok (.iadd, 1) := by decide +kernel
theorem dX9_readsSigns_71 : decode cX9_readsSigns 71 = .ok (.putfield 205, 3) := by decide +kernel
theorem dX9_readsSigns_74 : decode cX9_readsSigns 74 = .ok (.iload_n 2, 1) := by decide +kernel
theorem dX9_readsSigns_75 : decode cX9_readsSigns 75 = .ok (.bipush 43, 2) := by decide +kernel
theorem dX9_readsSigns_77 : decode cX9_readsSigns 77 = .ok (.if_icmp .ne 52, 3) := by decide +kernel
theorem dX9_readsSigns_80 : decode cX9_readsSigns 80 = .ok (.aload_n 0, 1) := by decide +kernel
theorem dX9_readsSigns_81 : decode cX9_readsSigns 81 = .ok (.aload_n 0, 1) := by decide +kernel
theorem dX9_readsSigns_82 : decode cX9_readsSigns 82 = .ok (.getfield 205, 3) := by decide +kernel
theorem dX9_readsSigns_85 : decode cX9_readsSigns 85 = .ok (.invokevirtual 202, 3) := by decide +kernel
theorem dX9_readsSigns_88 : decode cX9_readsSigns 88 = .ok (.invokestatic 208, 3) := by decide +kernel
theorem dX9_readsSigns_91 : decode cX9_readsSigns 91 = .ok (.ifCond .ne 5, 3) := by decide +kernel
theorem dX9_readsSigns_94 : decode cX9_readsSigns 94 = .ok (.iconst 0, 1) := by decide +kernel
theorem dX9_readsSigns_95 : decode cX9_readsSigns 95 = .ok (.ireturn, 1) := by decide +kernel
theorem dX9_readsSigns_96 : decode cX9_readsSigns 96 = .ok (.aload_n 0, 1) := by decide +kernel
theorem dX9_readsSigns_97 : decode cX9_readsSigns 97 = .ok (.aload_n 0, 1) := by decide +kernel
theorem dX9_readsSigns_98 : decode cX9_readsSigns 98 = .ok (.getfield 205, 3) := by decide +kernel
theorem dX9_readsSigns_101 : decode cX9_readsSigns 101 = .ok (.aload_n 0, 1) := by decide +kernel
theorem dX9_readsSigns_102 : decode cX9_readsSigns 102 = .ok (.aload_n 0, 1) := by decide +kernel
theorem dX9_readsSigns_103 : decode cX9_readsSigns 103 = .ok (.getfield 205, 3) := by decide +kernel
theorem dX9_readsSigns_106 : decode cX9_readsSigns 106 = .ok (.iconst 1, 1) := by decide +kernel
theorem dX9_readsSigns_107 : decode cX9_readsSigns 107 = .ok (.iadd, 1) := by decide +kernel
theorem dX9_readsSigns_108 : decode cX9_readsSigns 108 = .ok (.invokevirtual 202, 3) := by decide +kernel
theorem dX9_readsSigns_111 : decode cX9_readsSigns 111 = .ok (.invokestatic 208, 3) := by decide +kernel
theorem dX9_readsSigns_114 : decode cX9_readsSigns 114 = .ok (.ifCond .eq 7, 3) := by decide +kernel
theorem dX9_readsSigns_117 : decode cX9_readsSigns 117 = .ok (.iconst 2, 1) := by decide +kernel
theorem dX9_readsSigns_118 : decode cX9_readsSigns 118 = .ok (.goto 4, 3) := by decide +kernel
theorem dX9_readsSigns_121 : decode cX9_readsSigns 121 = .ok (.iconst 1, 1) := by decide +kernel
theorem dX9_readsSigns_122 : decode cX9_readsSigns 122 = .ok (.iadd, 1) := by decide +kernel
theorem dX9_readsSigns_123 : decode cX9_readsSigns 123 = .ok (.putfield 205, 3) := by decide +kernel
theorem dX9_readsSigns_126 : decode cX9_readsSigns 126 = .ok (.goto 32, 3) := by decide +kernel
theorem dX9_readsSigns_129 : decode cX9_readsSigns 129 = .ok (.iload_n 2, 1) := by decide +kernel
theorem dX9_readsSigns_130 : decode cX9_readsSigns 130 = .ok (.bipush 42, 2) := by decide +kernel
theorem dX9_readsSigns_132 : decode cX9_readsSigns 132 = .ok (.if_icmp .ne 26, 3) := by decide +kernel
theorem dX9_readsSigns_135 : decode cX9_readsSigns 135 = .ok (.aload_n 0, 1) := by decide +kernel
theorem dX9_readsSigns_136 : decode cX9_readsSigns 136 = .ok (.aload_n 0, 1) := by decide +kernel
theorem dX9_readsSigns_137 : decode cX9_readsSigns 137 = .ok (.getfield 205, 3) := by decide +kernel
theorem dX9_readsSigns_140 : decode cX9_readsSigns 140 = .ok (.invokevirtual 211, 3) := by decide +kernel
theorem dX9_readsSigns_143 : decode cX9_readsSigns 143 = .ok (.ifCond .ne 5, 3) := by decide +kernel
theorem dX9_readsSigns_146 : decode cX9_readsSigns 146 = .ok (.iconst 0, 1) := by decide +kernel
theorem dX9_readsSigns_147 : decode cX9_readsSigns 147 = .ok (.ireturn, 1) := by decide +kernel
theorem dX9_readsSigns_148 : decode cX9_readsSigns 148 = .ok (.aload_n 0, 1) := by decide +kernel
theorem dX9_readsSigns_149 : decode cX9_readsSigns 149 = .ok (.aload_n 0, 1) := by decide +kernel
theorem dX9_readsSigns_150 : decode cX9_readsSigns 150 = .ok (.getfield 205, 3) := by decide +kernel
theorem dX9_readsSigns_153 : decode cX9_readsSigns 153 = .ok (.iconst 2, 1) := by decide +kernel
theorem dX9_readsSigns_154 : decode cX9_readsSigns 154 = .ok (.iadd, 1) := by decide +kernel
theorem dX9_readsSigns_155 : decode cX9_readsSigns 155 = .ok (.putfield 205, 3) := by decide +kernel
theorem dX9_readsSigns_158 : decode cX9_readsSigns 158 = .ok (.goto (-156), 3) := by decide +kernel
theorem dX9_readsSigns_161 : decode cX9_readsSigns 161 = .ok (.iconst 1, 1) := by decide +kernel
theorem dX9_readsSigns_162 : decode cX9_readsSigns 162 = .ok (.ireturn, 1) := by decide +kernel
theorem dX9_readsMove_0 : decode cX9_readsMove 0 = .ok (.aload_n 0, 1) := by decide +kernel
theorem dX9_readsMove_1 : decode cX9_readsMove 1 = .ok (.invokevirtual 214, 3) := by decide +kernel
theorem dX9_readsMove_4 : decode cX9_readsMove 4 = .ok (.ifCond .eq 14, 3) := by decide +kernel
theorem dX9_readsMove_7 : decode cX9_readsMove 7 = .ok (.aload_n 0, 1) := by decide +kernel
theorem dX9_readsMove_8 : decode cX9_readsMove 8 = .ok (.aload_n 0, 1) := by decide +kernel
theorem dX9_readsMove_9 : decode cX9_readsMove 9 = .ok (.getfield 205, 3) := by decide +kernel
theorem dX9_readsMove_12 : decode cX9_readsMove 12 = .ok (.invokevirtual 211, 3) := by decide +kernel
theorem dX9_readsMove_15 : decode cX9_readsMove 15 = .ok (.ifCond .ne 5, 3) := by decide +kernel
theorem dX9_readsMove_18 : decode cX9_readsMove 18 = .ok (.iconst 0, 1) := by decide +kernel
theorem dX9_readsMove_19 : decode cX9_readsMove 19 = .ok (.ireturn, 1) := by decide +kernel
theorem dX9_readsMove_20 : decode cX9_readsMove 20 = .ok (.aload_n 0, 1) := by decide +kernel
theorem dX9_readsMove_21 : decode cX9_readsMove 21 = .ok (.aload_n 0, 1) := by decide +kernel
theorem dX9_readsMove_22 : decode cX9_readsMove 22 = .ok (.getfield 205, 3) := by decide +kernel
theorem dX9_readsMove_25 : decode cX9_readsMove 25 = .ok (.invokevirtual 202, 3) := by decide +kernel
theorem dX9_readsMove_28 : decode cX9_readsMove 28 = .ok (.bipush 97, 2) := by decide +kernel
theorem dX9_readsMove_30 : decode cX9_readsMove 30 = .ok (.isub, 1) := by decide +kernel
theorem dX9_readsMove_31 : decode cX9_readsMove 31 = .ok (.istore_n 1, 1) := by decide +kernel
theorem dX9_readsMove_32 : decode cX9_readsMove 32 = .ok (.aload_n 0, 1) := by decide +kernel
theorem dX9_readsMove_33 : decode cX9_readsMove 33 = .ok (.aload_n 0, 1) := by decide +kernel
theorem dX9_readsMove_34 : decode cX9_readsMove 34 = .ok (.getfield 205, 3) := by decide +kernel
theorem dX9_readsMove_37 : decode cX9_readsMove 37 = .ok (.iconst 1, 1) := by decide +kernel
theorem dX9_readsMove_38 : decode cX9_readsMove 38 = .ok (.iadd, 1) := by decide +kernel
theorem dX9_readsMove_39 : decode cX9_readsMove 39 = .ok (.invokevirtual 202, 3) := by decide +kernel
theorem dX9_readsMove_42 : decode cX9_readsMove 42 = .ok (.bipush 49, 2) := by decide +kernel
theorem dX9_readsMove_44 : decode cX9_readsMove 44 = .ok (.isub, 1) := by decide +kernel
theorem dX9_readsMove_45 : decode cX9_readsMove 45 = .ok (.istore_n 2, 1) := by decide +kernel
theorem dX9_readsMove_46 : decode cX9_readsMove 46 = .ok (.aload_n 0, 1) := by decide +kernel
theorem dX9_readsMove_47 : decode cX9_readsMove 47 = .ok (.aload_n 0, 1) := by decide +kernel
theorem dX9_readsMove_48 : decode cX9_readsMove 48 = .ok (.getfield 205, 3) := by decide +kernel
theorem dX9_readsMove_51 : decode cX9_readsMove 51 = .ok (.iconst 2, 1) := by decide +kernel
theorem dX9_readsMove_52 : decode cX9_readsMove 52 = .ok (.iadd, 1) := by decide +kernel
theorem dX9_readsMove_53 : decode cX9_readsMove 53 = .ok (.putfield 205, 3) := by decide +kernel
theorem dX9_readsMove_56 : decode cX9_readsMove 56 = .ok (.aload_n 0, 1) := by decide +kernel
theorem dX9_readsMove_57 : decode cX9_readsMove 57 = .ok (.invokevirtual 218, 3) := by decide +kernel
theorem dX9_readsMove_60 : decode cX9_readsMove 60 = .ok (.ifCond .eq 27, 3) := by decide +kernel
theorem dX9_readsMove_63 : decode cX9_readsMove 63 = .ok (.aload_n 0, 1) := by decide +kernel
theorem dX9_readsMove_64 : decode cX9_readsMove 64 = .ok (.getfield 205, 3) := by decide +kernel
theorem dX9_readsMove_67 : decode cX9_readsMove 67 = .ok (.aload_n 0, 1) := by decide +kernel
theorem dX9_readsMove_68 : decode cX9_readsMove 68 = .ok (.getfield 199, 3) := by decide +kernel
theorem dX9_readsMove_71 : decode cX9_readsMove 71 = .ok (.if_icmp .ge 18, 3) := by decide +kernel
theorem dX9_readsMove_74 : decode cX9_readsMove 74 = .ok (.aload_n 0, 1) := by decide +kernel
theorem dX9_readsMove_75 : decode cX9_readsMove 75 = .ok (.aload_n 0, 1) := by decide +kernel
theorem dX9_readsMove_76 : decode cX9_readsMove 76 = .ok (.getfield 205, 3) := by decide +kernel
theorem dX9_readsMove_79 : decode cX9_readsMove 79 = .ok (.invokevirtual 202, 3) := by decide +kernel
theorem dX9_readsMove_82 : decode cX9_readsMove 82 = .ok (.bipush 32, 2) := by decide +kernel
theorem dX9_readsMove_84 : decode cX9_readsMove 84 = .ok (.if_icmp .eq 5, 3) := by decide +kernel
theorem dX9_readsMove_87 : decode cX9_readsMove 87 = .ok (.iconst 0, 1) := by decide +kernel
theorem dX9_readsMove_88 : decode cX9_readsMove 88 = .ok (.ireturn, 1) := by decide +kernel
theorem dX9_readsMove_89 : decode cX9_readsMove 89 = .ok (.iload_n 1, 1) := by decide +kernel
theorem dX9_readsMove_90 : decode cX9_readsMove 90 = .ok (.aload_n 0, 1) := by decide +kernel
theorem dX9_readsMove_91 : decode cX9_readsMove 91 = .ok (.getfield 7, 3) := by decide +kernel
theorem dX9_readsMove_94 : decode cX9_readsMove 94 = .ok (.if_icmp .ge 11, 3) := by decide +kernel
theorem dX9_readsMove_97 : decode cX9_readsMove 97 = .ok (.iload_n 2, 1) := by decide +kernel
theorem dX9_readsMove_98 : decode cX9_readsMove 98 = .ok (.aload_n 0, 1) := by decide +kernel
theorem dX9_readsMove_99 : decode cX9_readsMove 99 = .ok (.getfield 13, 3) := by decide +kernel
theorem dX9_readsMove_102 : decode cX9_readsMove 102 = .ok (.if_icmp .lt 5, 3) := by decide +kernel
theorem dX9_readsMove_105 : decode cX9_readsMove 105 = .ok (.iconst 0, 1) := by decide +kernel
theorem dX9_readsMove_106 : decode cX9_readsMove 106 = .ok (.ireturn, 1) := by decide +kernel
theorem dX9_readsMove_107 : decode cX9_readsMove 107 = .ok (.aload_n 0, 1) := by decide +kernel
theorem dX9_readsMove_108 : decode cX9_readsMove 108 = .ok (.aload_n 0, 1) := by decide +kernel
theorem dX9_readsMove_109 : decode cX9_readsMove 109 = .ok (.getfield 7, 3) := by decide +kernel
theorem dX9_readsMove_112 : decode cX9_readsMove 112 = .ok (.iload_n 2, 1) := by decide +kernel
theorem dX9_readsMove_113 : decode cX9_readsMove 113 = .ok (.imul, 1) := by decide +kernel
theorem dX9_readsMove_114 : decode cX9_readsMove 114 = .ok (.iload_n 1, 1) := by decide +kernel
theorem dX9_readsMove_115 : decode cX9_readsMove 115 = .ok (.iadd, 1) := by decide +kernel
theorem dX9_readsMove_116 : decode cX9_readsMove 116 = .ok (.invokevirtual 221, 3) := by decide +kernel
theorem dX9_readsMove_119 : decode cX9_readsMove 119 = .ok (.iconst (-1), 1) := by decide +kernel
theorem dX9_readsMove_120 : decode cX9_readsMove 120 = .ok (.if_icmp .eq 7, 3) := by decide +kernel
theorem dX9_readsMove_123 : decode cX9_readsMove 123 = .ok (.iconst 1, 1) := by decide +kernel
theorem dX9_readsMove_124 : decode cX9_readsMove 124 = .ok (.goto 4, 3) := by decide +kernel
theorem dX9_readsMove_127 : decode cX9_readsMove 127 = .ok (.iconst 0, 1) := by decide +kernel
theorem dX9_readsMove_128 : decode cX9_readsMove 128 = .ok (.ireturn, 1) := by decide +kernel
theorem dX9_read_0 : decode cX9_read 0 = .ok (.iload_n 1, 1) := by decide +kernel
theorem dX9_read_1 : decode cX9_read 1 = .ok (.ifCond .lt 11, 3) := by decide +kernel
theorem dX9_read_4 : decode cX9_read 4 = .ok (.iload_n 1, 1) := by decide +kernel
theorem dX9_read_5 : decode cX9_read 5 = .ok (.aload_n 0, 1) := by decide +kernel
theorem dX9_read_6 : decode cX9_read 6 = .ok (.getfield 193, 3) := by decide +kernel
theorem dX9_read_9 : decode cX9_read 9 = .ok (.if_icmp .le 5, 3) := by decide +kernel
theorem dX9_read_12 : decode cX9_read 12 = .ok (.iconst (-1), 1) := by decide +kernel
theorem dX9_read_13 : decode cX9_read 13 = .ok (.ireturn, 1) := by decide +kernel
theorem dX9_read_14 : decode cX9_read 14 = .ok (.aload_n 0, 1) := by decide +kernel
theorem dX9_read_15 : decode cX9_read 15 = .ok (.iload_n 1, 1) := by decide +kernel
theorem dX9_read_16 : decode cX9_read 16 = .ok (.putfield 199, 3) := by decide +kernel
theorem dX9_read_19 : decode cX9_read 19 = .ok (.aload_n 0, 1) := by decide +kernel
theorem dX9_read_20 : decode cX9_read 20 = .ok (.iconst 0, 1) := by decide +kernel
theorem dX9_read_21 : decode cX9_read 21 = .ok (.putfield 205, 3) := by decide +kernel
theorem dX9_read_24 : decode cX9_read 24 = .ok (.aload_n 0, 1) := by decide +kernel
theorem dX9_read_25 : decode cX9_read 25 = .ok (.iconst 0, 1) := by decide +kernel
theorem dX9_read_26 : decode cX9_read 26 = .ok (.putfield 224, 3) := by decide +kernel
theorem dX9_read_29 : decode cX9_read 29 = .ok (.iconst 0, 1) := by decide +kernel
theorem dX9_read_30 : decode cX9_read 30 = .ok (.istore_n 2, 1) := by decide +kernel
theorem dX9_read_31 : decode cX9_read 31 = .ok (.iload_n 1, 1) := by decide +kernel
theorem dX9_read_32 : decode cX9_read 32 = .ok (.ifCond .le 7, 3) := by decide +kernel
theorem dX9_read_35 : decode cX9_read 35 = .ok (.iconst 1, 1) := by decide +kernel
theorem dX9_read_36 : decode cX9_read 36 = .ok (.goto 4, 3) := by decide +kernel
theorem dX9_read_39 : decode cX9_read 39 = .ok (.iconst 0, 1) := by decide +kernel
theorem dX9_read_40 : decode cX9_read 40 = .ok (.istore_n 3, 1) := by decide +kernel
theorem dX9_read_41 : decode cX9_read 41 = .ok (.iload_n 3, 1) := by decide +kernel
theorem dX9_read_42 : decode cX9_read 42 = .ok (.ifCond .eq 77, 3) := by decide +kernel
theorem dX9_read_45 : decode cX9_read 45 = .ok (.aload_n 0, 1) := by decide +kernel
theorem dX9_read_46 : decode cX9_read 46 = .ok (.invokevirtual 227, 3) := by decide +kernel
theorem dX9_read_49 : decode cX9_read 49 = .ok (.istore_n 3, 1) := by decide +kernel
theorem dX9_read_50 : decode cX9_read 50 = .ok (.iload_n 3, 1) := by decide +kernel
theorem dX9_read_51 : decode cX9_read 51 = .ok (.ifCond .ne 6, 3) := by decide +kernel
theorem dX9_read_54 : decode cX9_read 54 = .ok (.goto (-13), 3) := by decide +kernel
theorem dX9_read_57 : decode cX9_read 57 = .ok (.iload_n 2, 1) := by decide +kernel
theorem dX9_read_58 : decode cX9_read 58 = .ok (.iconst 1, 1) := by decide +kernel
theorem dX9_read_59 : decode cX9_read 59 = .ok (.iadd, 1) := by decide +kernel
theorem dX9_read_60 : decode cX9_read 60 = .ok (.istore_n 2, 1) := by decide +kernel
theorem dX9_read_61 : decode cX9_read 61 = .ok (.aload_n 0, 1) := by decide +kernel
theorem dX9_read_62 : decode cX9_read 62 = .ok (.aload_n 0, 1) := by decide +kernel
theorem dX9_read_63 : decode cX9_read 63 = .ok (.getfield 205, 3) := by decide +kernel
theorem dX9_read_66 : decode cX9_read 66 = .ok (.aload_n 0, 1) := by decide +kernel
theorem dX9_read_67 : decode cX9_read 67 = .ok (.getfield 199, 3) := by decide +kernel
theorem dX9_read_70 : decode cX9_read 70 = .ok (.if_icmp .ge 12, 3) := by decide +kernel
theorem dX9_read_73 : decode cX9_read 73 = .ok (.aload_n 0, 1) := by decide +kernel
theorem dX9_read_74 : decode cX9_read 74 = .ok (.getfield 205, 3) := by decide +kernel
theorem dX9_read_77 : decode cX9_read 77 = .ok (.iconst 1, 1) := by decide +kernel
theorem dX9_read_78 : decode cX9_read 78 = .ok (.iadd, 1) := by decide +kernel
theorem dX9_read_79 : decode cX9_read 79 = .ok (.goto 7, 3) := by decide +kernel
theorem dX9_read_82 : decode cX9_read 82 = .ok (.aload_n 0, 1) := by decide +kernel
theorem dX9_read_83 : decode cX9_read 83 = .ok (.getfield 199, 3) := by decide +kernel
theorem dX9_read_86 : decode cX9_read 86 = .ok (.putfield 224, 3) := by decide +kernel
theorem dX9_read_89 : decode cX9_read 89 = .ok (.aload_n 0, 1) := by decide +kernel
theorem dX9_read_90 : decode cX9_read 90 = .ok (.getfield 205, 3) := by decide +kernel
theorem dX9_read_93 : decode cX9_read 93 = .ok (.aload_n 0, 1) := by decide +kernel
