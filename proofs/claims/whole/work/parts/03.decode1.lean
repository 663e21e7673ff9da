theorem dX0_init_0 : decode cX0_init 0 = .ok (.aload_n 0, 1) := by decide +kernel
theorem dX0_init_1 : decode cX0_init 1 = .ok (.invokespecial 5, 3) := by decide +kernel
theorem dX0_init_4 : decode cX0_init 4 = .ok (.aload_n 0, 1) := by decide +kernel
theorem dX0_init_5 : decode cX0_init 5 = .ok (.iconst 3, 1) := by decide +kernel
theorem dX0_init_6 : decode cX0_init 6 = .ok (.iconst 3, 1) := by decide +kernel
theorem dX0_init_7 : decode cX0_init 7 = .ok (.iconst 3, 1) := by decide +kernel
theorem dX0_init_8 : decode cX0_init 8 = .ok (.iconst 0, 1) := by decide +kernel
theorem dX0_init_9 : decode cX0_init 9 = .ok (.iconst 0, 1) := by decide +kernel
theorem dX0_init_10 : decode cX0_init 10 = .ok (.invokevirtual 11, 3) := by decide +kernel
theorem dX0_init_13 : decode cX0_init 13 = .ok (.pop, 1) := by decide +kernel
theorem dX0_init_14 : decode cX0_init 14 = .ok (.return_, 1) := by decide +kernel
theorem dX0_lay_0 : decode cX0_lay 0 = .ok (.iload_n 1, 1) := by decide +kernel
theorem dX0_lay_1 : decode cX0_lay 1 = .ok (.invokestatic 15, 3) := by decide +kernel
theorem dX0_lay_4 : decode cX0_lay 4 = .ok (.ifCond .eq 26, 3) := by decide +kernel
theorem dX0_lay_7 : decode cX0_lay 7 = .ok (.iload_n 2, 1) := by decide +kernel
theorem dX0_lay_8 : decode cX0_lay 8 = .ok (.invokestatic 15, 3) := by decide +kernel
theorem dX0_lay_11 : decode cX0_lay 11 = .ok (.ifCond .eq 19, 3) := by decide +kernel
theorem dX0_lay_14 : decode cX0_lay 14 = .ok (.iload_n 3, 1) := by decide +kernel
theorem dX0_lay_15 : decode cX0_lay 15 = .ok (.invokestatic 15, 3) := by decide +kernel
theorem dX0_lay_18 : decode cX0_lay 18 = .ok (.ifCond .eq 12, 3) := by decide +kernel
theorem dX0_lay_21 : decode cX0_lay 21 = .ok (.iload_n 3, 1) := by decide +kernel
theorem dX0_lay_22 : decode cX0_lay 22 = .ok (.iload_n 1, 1) := by decide +kernel
theorem dX0_lay_23 : decode cX0_lay 23 = .ok (.iload_n 2, 1) := by decide +kernel
theorem dX0_lay_24 : decode cX0_lay 24 = .ok (.invokestatic 19, 3) := by decide +kernel
theorem dX0_lay_27 : decode cX0_lay 27 = .ok (.if_icmp .le 5, 3) := by decide +kernel
theorem dX0_lay_30 : decode cX0_lay 30 = .ok (.iconst 0, 1) := by decide +kernel
theorem dX0_lay_31 : decode cX0_lay 31 = .ok (.ireturn, 1) := by decide +kernel
theorem dX0_lay_32 : decode cX0_lay 32 = .ok (.aload_n 0, 1) := by decide +kernel
theorem dX0_lay_33 : decode cX0_lay 33 = .ok (.iload_n 1, 1) := by decide +kernel
theorem dX0_lay_34 : decode cX0_lay 34 = .ok (.putfield 25, 3) := by decide +kernel
theorem dX0_lay_37 : decode cX0_lay 37 = .ok (.aload_n 0, 1) := by decide +kernel
theorem dX0_lay_38 : decode cX0_lay 38 = .ok (.iload_n 2, 1) := by decide +kernel
theorem dX0_lay_39 : decode cX0_lay 39 = .ok (.putfield 29, 3) := by decide +kernel
theorem dX0_lay_42 : decode cX0_lay 42 = .ok (.aload_n 0, 1) := by decide +kernel
theorem dX0_lay_43 : decode cX0_lay 43 = .ok (.iload_n 3, 1) := by decide +kernel
theorem dX0_lay_44 : decode cX0_lay 44 = .ok (.putfield 32, 3) := by decide +kernel
theorem dX0_lay_47 : decode cX0_lay 47 = .ok (.aload_n 0, 1) := by decide +kernel
theorem dX0_lay_48 : decode cX0_lay 48 = .ok (.iload 4, 2) := by decide +kernel
theorem dX0_lay_50 : decode cX0_lay 50 = .ok (.putfield 35, 3) := by decide +kernel
theorem dX0_lay_53 : decode cX0_lay 53 = .ok (.aload_n 0, 1) := by decide +kernel
theorem dX0_lay_54 : decode cX0_lay 54 = .ok (.iload 5, 2) := by decide +kernel
theorem dX0_lay_56 : decode cX0_lay 56 = .ok (.putfield 39, 3) := by decide +kernel
theorem dX0_lay_59 : decode cX0_lay 59 = .ok (.aload_n 0, 1) := by decide +kernel
theorem dX0_lay_60 : decode cX0_lay 60 = .ok (.iconst 1, 1) := by decide +kernel
theorem dX0_lay_61 : decode cX0_lay 61 = .ok (.iload_n 1, 1) := by decide +kernel
theorem dX0_lay_62 : decode cX0_lay 62 = .ok (.ishl, 1) := by decide +kernel
theorem dX0_lay_63 : decode cX0_lay 63 = .ok (.iconst 1, 1) := by decide +kernel
theorem dX0_lay_64 : decode cX0_lay 64 = .ok (.isub, 1) := by decide +kernel
theorem dX0_lay_65 : decode cX0_lay 65 = .ok (.putfield 42, 3) := by decide +kernel
theorem dX0_lay_68 : decode cX0_lay 68 = .ok (.aload_n 0, 1) := by decide +kernel
theorem dX0_lay_69 : decode cX0_lay 69 = .ok (.iconst 0, 1) := by decide +kernel
theorem dX0_lay_70 : decode cX0_lay 70 = .ok (.putfield 45, 3) := by decide +kernel
theorem dX0_lay_73 : decode cX0_lay 73 = .ok (.iconst 0, 1) := by decide +kernel
theorem dX0_lay_74 : decode cX0_lay 74 = .ok (.istore 6, 2) := by decide +kernel
theorem dX0_lay_76 : decode cX0_lay 76 = .ok (.iload 6, 2) := by decide +kernel
theorem dX0_lay_78 : decode cX0_lay 78 = .ok (.iload_n 2, 1) := by decide +kernel
theorem dX0_lay_79 : decode cX0_lay 79 = .ok (.if_icmp .ge 27, 3) := by decide +kernel
theorem dX0_lay_82 : decode cX0_lay 82 = .ok (.aload_n 0, 1) := by decide +kernel
theorem dX0_lay_83 : decode cX0_lay 83 = .ok (.dup, 1) := by decide +kernel
theorem dX0_lay_84 : decode cX0_lay 84 = .ok (.getfield 45, 3) := by decide +kernel
theorem dX0_lay_87 : decode cX0_lay 87 = .ok (.aload_n 0, 1) := by decide +kernel
theorem dX0_lay_88 : decode cX0_lay 88 = .ok (.getfield 42, 3) := by decide +kernel
theorem dX0_lay_91 : decode cX0_lay 91 = .ok (.iload 6, 2) := by decide +kernel
theorem dX0_lay_93 : decode cX0_lay 93 = .ok (.iconst 5, 1) := by decide +kernel
theorem dX0_lay_94 : decode cX0_lay 94 = .ok (.imul, 1) := by decide +kernel
theorem dX0_lay_95 : decode cX0_lay 95 = .ok (.ishl, 1) := by decide +kernel
theorem dX0_lay_96 : decode cX0_lay 96 = .ok (.ior, 1) := by decide +kernel
theorem dX0_lay_97 : decode cX0_lay 97 = .ok (.putfield 45, 3) := by decide +kernel
theorem dX0_lay_100 : decode cX0_lay 100 = .ok (.iinc 6 1, 3) := by decide +kernel
theorem dX0_lay_103 : decode cX0_lay 103 = .ok (.goto (-27), 3) := by decide +kernel
theorem dX0_lay_106 : decode cX0_lay 106 = .ok (.iconst 1, 1) := by decide +kernel
theorem dX0_lay_107 : decode cX0_lay 107 = .ok (.ireturn, 1) := by decide +kernel
theorem dX0_isSide_0 : decode cX0_isSide 0 = .ok (.iload_n 0, 1) := by decide +kernel
theorem dX0_isSide_1 : decode cX0_isSide 1 = .ok (.iconst 2, 1) := by decide +kernel
theorem dX0_isSide_2 : decode cX0_isSide 2 = .ok (.if_icmp .lt 12, 3) := by decide +kernel
theorem dX0_isSide_5 : decode cX0_isSide 5 = .ok (.iload_n 0, 1) := by decide +kernel
theorem dX0_isSide_6 : decode cX0_isSide 6 = .ok (.iconst 4, 1) := by decide +kernel
theorem dX0_isSide_7 : decode cX0_isSide 7 = .ok (.if_icmp .gt 7, 3) := by decide +kernel
theorem dX0_isSide_10 : decode cX0_isSide 10 = .ok (.iconst 1, 1) := by decide +kernel
theorem dX0_isSide_11 : decode cX0_isSide 11 = .ok (.goto 4, 3) := by decide +kernel
theorem dX0_isSide_14 : decode cX0_isSide 14 = .ok (.iconst 0, 1) := by decide +kernel
theorem dX0_isSide_15 : decode cX0_isSide 15 = .ok (.ireturn, 1) := by decide +kernel
theorem dX0_bitOf_0 : decode cX0_bitOf 0 = .ok (.iload_n 1, 1) := by decide +kernel
theorem dX0_bitOf_1 : decode cX0_bitOf 1 = .ok (.ifCond .ge 5, 3) := by decide +kernel
theorem dX0_bitOf_4 : decode cX0_bitOf 4 = .ok (.iconst 0, 1) := by decide +kernel
theorem dX0_bitOf_5 : decode cX0_bitOf 5 = .ok (.ireturn, 1) := by decide +kernel
theorem dX0_bitOf_6 : decode cX0_bitOf 6 = .ok (.iconst 0, 1) := by decide +kernel
theorem dX0_bitOf_7 : decode cX0_bitOf 7 = .ok (.istore_n 2, 1) := by decide +kernel
theorem dX0_bitOf_8 : decode cX0_bitOf 8 = .ok (.iload_n 2, 1) := by decide +kernel
theorem dX0_bitOf_9 : decode cX0_bitOf 9 = .ok (.aload_n 0, 1) := by decide +kernel
theorem dX0_bitOf_10 : decode cX0_bitOf 10 = .ok (.getfield 29, 3) := by decide +kernel
theorem dX0_bitOf_13 : decode cX0_bitOf 13 = .ok (.if_icmp .ge 33, 3) := by decide +kernel
theorem dX0_bitOf_16 : decode cX0_bitOf 16 = .ok (.iload_n 1, 1) := by decide +kernel
theorem dX0_bitOf_17 : decode cX0_bitOf 17 = .ok (.iload_n 2, 1) := by decide +kernel
theorem dX0_bitOf_18 : decode cX0_bitOf 18 = .ok (.aload_n 0, 1) := by decide +kernel
theorem dX0_bitOf_19 : decode cX0_bitOf 19 = .ok (.getfield 25, 3) := by decide +kernel
theorem dX0_bitOf_22 : decode cX0_bitOf 22 = .ok (.imul, 1) := by decide +kernel
theorem dX0_bitOf_23 : decode cX0_bitOf 23 = .ok (.isub, 1) := by decide +kernel
theorem dX0_bitOf_24 : decode cX0_bitOf 24 = .ok (.istore_n 3, 1) := by decide +kernel
theorem dX0_bitOf_25 : decode cX0_bitOf 25 = .ok (.iload_n 3, 1) := by decide +kernel
theorem dX0_bitOf_26 : decode cX0_bitOf 26 = .ok (.aload_n 0, 1) := by decide +kernel
theorem dX0_bitOf_27 : decode cX0_bitOf 27 = .ok (.getfield 25, 3) := by decide +kernel
theorem dX0_bitOf_30 : decode cX0_bitOf 30 = .ok (.if_icmp .ge 10, 3) := by decide +kernel
theorem dX0_bitOf_33 : decode cX0_bitOf 33 = .ok (.aload_n 0, 1) := by decide +kernel
theorem dX0_bitOf_34 : decode cX0_bitOf 34 = .ok (.iload_n 3, 1) := by decide +kernel
theorem dX0_bitOf_35 : decode cX0_bitOf 35 = .ok (.iload_n 2, 1) := by decide +kernel
theorem dX0_bitOf_36 : decode cX0_bitOf 36 = .ok (.invokevirtual 48, 3) := by decide +kernel
theorem dX0_bitOf_39 : decode cX0_bitOf 39 = .ok (.ireturn, 1) := by decide +kernel
theorem dX0_bitOf_40 : decode cX0_bitOf 40 = .ok (.iinc 2 1, 3) := by decide +kernel
theorem dX0_bitOf_43 : decode cX0_bitOf 43 = .ok (.goto (-35), 3) := by decide +kernel
theorem dX0_bitOf_46 : decode cX0_bitOf 46 = .ok (.iconst 0, 1) := by decide +kernel
theorem dX0_bitOf_47 : decode cX0_bitOf 47 = .ok (.ireturn, 1) := by decide +kernel
theorem dX0_bitAt_0 : decode cX0_bitAt 0 = .ok (.iload_n 1, 1) := by decide +kernel
theorem dX0_bitAt_1 : decode cX0_bitAt 1 = .ok (.ifCond .lt 27, 3) := by decide +kernel
theorem dX0_bitAt_4 : decode cX0_bitAt 4 = .ok (.iload_n 1, 1) := by decide +kernel
theorem dX0_bitAt_5 : decode cX0_bitAt 5 = .ok (.aload_n 0, 1) := by decide +kernel
theorem dX0_bitAt_6 : decode cX0_bitAt 6 = .ok (.getfield 25, 3) := by decide +kernel
theorem dX0_bitAt_9 : decode cX0_bitAt 9 = .ok (.if_icmp .ge 19, 3) := by decide +kernel
theorem dX0_bitAt_12 : decode cX0_bitAt 12 = .ok (.iload_n 2, 1) := by decide +kernel
theorem dX0_bitAt_13 : decode cX0_bitAt 13 = .ok (.ifCond .lt 15, 3) := by decide +kernel
theorem dX0_bitAt_16 : decode cX0_bitAt 16 = .ok (.iload_n 2, 1) := by decide +kernel
theorem dX0_bitAt_17 : decode cX0_bitAt 17 = .ok (.aload_n 0, 1) := by decide +kernel
theorem dX0_bitAt_18 : decode cX0_bitAt 18 = .ok (.getfield 29, 3) := by decide +kernel
theorem dX0_bitAt_21 : decode cX0_bitAt 21 = .ok (.if_icmp .ge 7, 3) := by decide +kernel
theorem dX0_bitAt_24 : decode cX0_bitAt 24 = .ok (.iconst 1, 1) := by decide +kernel
theorem dX0_bitAt_25 : decode cX0_bitAt 25 = .ok (.goto 4, 3) := by decide +kernel
theorem dX0_bitAt_28 : decode cX0_bitAt 28 = .ok (.iconst 0, 1) := by decide +kernel
theorem dX0_bitAt_29 : decode cX0_bitAt 29 = .ok (.istore_n 3, 1) := by decide +kernel
theorem dX0_bitAt_30 : decode cX0_bitAt 30 = .ok (.iload_n 3, 1) := by decide +kernel
theorem dX0_bitAt_31 : decode cX0_bitAt 31 = .ok (.ifCond .eq 13, 3) := by decide +kernel
theorem dX0_bitAt_34 : decode cX0_bitAt 34 = .ok (.iconst 1, 1) := by decide +kernel
theorem dX0_bitAt_35 : decode cX0_bitAt 35 = .ok (.iload_n 2, 1) := by decide +kernel
theorem dX0_bitAt_36 : decode cX0_bitAt 36 = .ok (.iconst 5, 1) := by decide +kernel
theorem dX0_bitAt_37 : decode cX0_bitAt 37 = .ok (.imul, 1) := by decide +kernel
theorem dX0_bitAt_38 : decode cX0_bitAt 38 = .ok (.iload_n 1, 1) := by decide +kernel
theorem dX0_bitAt_39 : decode cX0_bitAt 39 = .ok (.iadd, 1) := by decide +kernel
theorem dX0_bitAt_40 : decode cX0_bitAt 40 = .ok (.ishl, 1) := by decide +kernel
theorem dX0_bitAt_41 : decode cX0_bitAt 41 = .ok (.goto 4, 3) := by decide +kernel
theorem dX0_bitAt_44 : decode cX0_bitAt 44 = .ok (.iconst 0, 1) := by decide +kernel
theorem dX0_bitAt_45 : decode cX0_bitAt 45 = .ok (.ireturn, 1) := by decide +kernel
theorem dX0_cellOf_0 : decode cX0_cellOf 0 = .ok (.iload_n 1, 1) := by decide +kernel
theorem dX0_cellOf_1 : decode cX0_cellOf 1 = .ok (.ifCond .ne 7, 3) := by decide +kernel
theorem dX0_cellOf_4 : decode cX0_cellOf 4 = .ok (.iconst (-1), 1) := by decide +kernel
theorem dX0_cellOf_5 : decode cX0_cellOf 5 = .ok (.goto 19, 3) := by decide +kernel
theorem dX0_cellOf_8 : decode cX0_cellOf 8 = .ok (.aload_n 0, 1) := by decide +kernel
theorem dX0_cellOf_9 : decode cX0_cellOf 9 = .ok (.iload_n 1, 1) := by decide +kernel
theorem dX0_cellOf_10 : decode cX0_cellOf 10 = .ok (.invokevirtual 51, 3) := by decide +kernel
theorem dX0_cellOf_13 : decode cX0_cellOf 13 = .ok (.aload_n 0, 1) := by decide +kernel
theorem dX0_cellOf_14 : decode cX0_cellOf 14 = .ok (.getfield 25, 3) := by decide +kernel
theorem dX0_cellOf_17 : decode cX0_cellOf 17 = .ok (.imul, 1) := by decide +kernel
theorem dX0_cellOf_18 : decode cX0_cellOf 18 = .ok (.aload_n 0, 1) := by decide +kernel
theorem dX0_cellOf_19 : decode cX0_cellOf 19 = .ok (.iload_n 1, 1) := by decide +kernel
theorem dX0_cellOf_20 : decode cX0_cellOf 20 = .ok (.invokevirtual 55, 3) := by decide +kernel
theorem dX0_cellOf_23 : decode cX0_cellOf 23 = .ok (.iadd, 1) := by decide +kernel
theorem dX0_cellOf_24 : decode cX0_cellOf 24 = .ok (.ireturn, 1) := by decide +kernel
theorem dX0_columnOf_0 : decode cX0_columnOf 0 = .ok (.iload_n 1, 1) := by decide +kernel
theorem dX0_columnOf_1 : decode cX0_columnOf 1 = .ok (.iconst 1, 1) := by decide +kernel
theorem dX0_columnOf_2 : decode cX0_columnOf 2 = .ok (.isub, 1) := by decide +kernel
theorem dX0_columnOf_3 : decode cX0_columnOf 3 = .ok (.invokestatic 58, 3) := by decide +kernel
theorem dX0_columnOf_6 : decode cX0_columnOf 6 = .ok (.iconst 5, 1) := by decide +kernel
theorem dX0_columnOf_7 : decode cX0_columnOf 7 = .ok (.irem, 1) := by decide +kernel
theorem dX0_columnOf_8 : decode cX0_columnOf 8 = .ok (.ireturn, 1) := by decide +kernel
theorem dX0_rowOf_0 : decode cX0_rowOf 0 = .ok (.iload_n 1, 1) := by decide +kernel
theorem dX0_rowOf_1 : decode cX0_rowOf 1 = .ok (.iconst 1, 1) := by decide +kernel
theorem dX0_rowOf_2 : decode cX0_rowOf 2 = .ok (.isub, 1) := by decide +kernel
theorem dX0_rowOf_3 : decode cX0_rowOf 3 = .ok (.invokestatic 58, 3) := by decide +kernel
theorem dX0_rowOf_6 : decode cX0_rowOf 6 = .ok (.iconst 5, 1) := by decide +kernel
theorem dX0_rowOf_7 : decode cX0_rowOf 7 = .ok (.idiv, 1) := by decide +kernel
theorem dX0_rowOf_8 : decode cX0_rowOf 8 = .ok (.ireturn, 1) := by decide +kernel
theorem dX0_openCells_0 : decode cX0_openCells 0 = .ok (.aload_n 0, 1) := by decide +kernel
theorem dX0_openCells_1 : decode cX0_openCells 1 = .ok (.getfield 45, 3) := by decide +kernel
theorem dX0_openCells_4 : decode cX0_openCells 4 = .ok (.iload_n 1, 1) := by decide +kernel
theorem dX0_openCells_5 : decode cX0_openCells 5 = .ok (.iconst (-1), 1) := by decide +kernel
theorem dX0_openCells_6 : decode cX0_openCells 6 = .ok (.ixor, 1) := by decide +kernel
theorem dX0_openCells_7 : decode cX0_openCells 7 = .ok (.iand, 1) := by decide +kernel
theorem dX0_openCells_8 : decode cX0_openCells 8 = .ok (.istore_n 2, 1) := by decide +kernel
theorem dX0_openCells_9 : decode cX0_openCells 9 = .ok (.aload_n 0, 1) := by decide +kernel
theorem dX0_openCells_10 : decode cX0_openCells 10 = .ok (.getfield 35, 3) := by decide +kernel
theorem dX0_openCells_13 : decode cX0_openCells 13 = .ok (.ifCond .eq 16, 3) := by decide +kernel
theorem dX0_openCells_16 : decode cX0_openCells 16 = .ok (.iload_n 2, 1) := by decide +kernel
theorem dX0_openCells_17 : decode cX0_openCells 17 = .ok (.iload_n 1, 1) := by decide +kernel
theorem dX0_openCells_18 : decode cX0_openCells 18 = .ok (.iconst 5, 1) := by decide +kernel
theorem dX0_openCells_19 : decode cX0_openCells 19 = .ok (.ishl, 1) := by decide +kernel
theorem dX0_openCells_20 : decode cX0_openCells 20 = .ok (.aload_n 0, 1) := by decide +kernel
theorem dX0_openCells_21 : decode cX0_openCells 21 = .ok (.getfield 42, 3) := by decide +kernel
theorem dX0_openCells_24 : decode cX0_openCells 24 = .ok (.ior, 1) := by decide +kernel
theorem dX0_openCells_25 : decode cX0_openCells 25 = .ok (.iand, 1) := by decide +kernel
theorem dX0_openCells_26 : decode cX0_openCells 26 = .ok (.goto 4, 3) := by decide +kernel
theorem dX0_openCells_29 : decode cX0_openCells 29 = .ok (.iload_n 2, 1) := by decide +kernel
theorem dX0_openCells_30 : decode cX0_openCells 30 = .ok (.ireturn, 1) := by decide +kernel
theorem dX0_completing_0 : decode cX0_completing 0 = .ok (.iconst 0, 1) := by decide +kernel
theorem dX0_completing_1 : decode cX0_completing 1 = .ok (.istore_n 2, 1) := by decide +kernel
theorem dX0_completing_2 : decode cX0_completing 2 = .ok (.getstatic 63, 3) := by decide +kernel
theorem dX0_completing_5 : decode cX0_completing 5 = .ok (.astore_n 3, 1) := by decide +kernel
theorem dX0_completing_6 : decode cX0_completing 6 = .ok (.aload_n 3, 1) := by decide +kernel
theorem dX0_completing_7 : decode cX0_completing 7 = .ok (.arraylength, 1) := by decide +kernel
theorem dX0_completing_8 : decode cX0_completing 8 = .ok (.istore 4, 2) := by decide +kernel
theorem dX0_completing_10 : decode cX0_completing 10 = .ok (.iconst 0, 1) := by decide +kernel
theorem dX0_completing_11 : decode cX0_completing 11 = .ok (.istore 5, 2) := by decide +kernel
theorem dX0_completing_13 : decode cX0_completing 13 = .ok (.iload 5, 2) := by decide +kernel
theorem dX0_completing_15 : decode cX0_completing 15 = .ok (.iload 4, 2) := by decide +kernel
theorem dX0_completing_17 : decode cX0_completing 17 = .ok (.if_icmp .ge 125, 3) := by decide +kernel
theorem dX0_completing_20 : decode cX0_completing 20 = .ok (.aload_n 3, 1) := by decide +kernel
theorem dX0_completing_21 : decode cX0_completing 21 = .ok (.iload 5, 2) := by decide +kernel
theorem dX0_completing_23 : decode cX0_completing 23 = .ok (.iaload, 1) := by decide +kernel
theorem dX0_completing_24 : decode cX0_completing 24 = .ok (.istore 6, 2) := by decide +kernel
theorem dX0_completing_26 : decode cX0_completing 26 = .ok (.iload_n 1, 1) := by decide +kernel
theorem dX0_completing_27 : decode cX0_completing 27 = .ok (.iload 6, 2) := by decide +kernel
theorem dX0_completing_29 : decode cX0_completing 29 = .ok (.iushr, 1) := by decide +kernel
theorem dX0_completing_30 : decode cX0_completing 30 = .ok (.istore 7, 2) := by decide +kernel
theorem dX0_completing_32 : decode cX0_completing 32 = .ok (.iload_n 1, 1) := by decide +kernel
theorem dX0_completing_33 : decode cX0_completing 33 = .ok (.iload 6, 2) := by decide +kernel
theorem dX0_completing_35 : decode cX0_completing 35 = .ok (.ishl, 1) := by decide +kernel
theorem dX0_completing_36 : decode cX0_completing 36 = .ok (.istore 8, 2) := by decide +kernel
theorem dX0_completing_38 : decode cX0_completing 38 = .ok (.iload 7, 2) := by decide +kernel
theorem dX0_completing_40 : decode cX0_completing 40 = .ok (.iload 7, 2) := by decide +kernel
theorem dX0_completing_42 : decode cX0_completing 42 = .ok (.iload 6, 2) := by decide +kernel
theorem dX0_completing_44 : decode cX0_completing 44 = .ok (.iushr, 1) := by decide +kernel
theorem dX0_completing_45 : decode cX0_completing 45 = .ok (.iand, 1) := by decide +kernel
theorem dX0_completing_46 : decode cX0_completing 46 = .ok (.istore 9, 2) := by decide +kernel
theorem dX0_completing_48 : decode cX0_completing 48 = .ok (.iload 8, 2) := by decide +kernel
theorem dX0_completing_50 : decode cX0_completing 50 = .ok (.iload 8, 2) := by decide +kernel
theorem dX0_completing_52 : decode cX0_completing 52 = .ok (.iload 6, 2) := by decide +kernel
theorem dX0_completing_54 : decode cX0_completing 54 = .ok (.ishl, 1) := by decide +kernel
theorem dX0_completing_55 : decode cX0_completing 55 = .ok (.iand, 1) := by decide +kernel
theorem dX0_completing_56 : decode cX0_completing 56 = .ok (.istore 10, 2) := by decide +kernel
theorem dX0_completing_58 : decode cX0_completing 58 = .ok (.aload_n 0, 1) := by decide +kernel
theorem dX0_completing_59 : decode cX0_completing 59 = .ok (.getfield 32, 3) := by decide +kernel
theorem dX0_completing_62 : decode cX0_completing 62 = .ok (.iconst 2, 1) := by decide +kernel
theorem dX0_completing_63 : decode cX0_completing 63 = .ok (.if_icmp .ne 14, 3) := by decide +kernel
theorem dX0_completing_66 : decode cX0_completing 66 = .ok (.iload_n 2, 1) := by decide +kernel
theorem dX0_completing_67 : decode cX0_completing 67 = .ok (.iload 7, 2) := by decide +kernel
theorem dX0_completing_69 : decode cX0_completing 69 = .ok (.iload 8, 2) := by decide +kernel
theorem dX0_completing_71 : decode cX0_completing 71 = .ok (.ior, 1) := by decide +kernel
theorem dX0_completing_72 : decode cX0_completing 72 = .ok (.ior, 1) := by decide +kernel
theorem dX0_completing_73 : decode cX0_completing 73 = .ok (.istore_n 2, 1) := by decide +kernel
theorem dX0_completing_74 : decode cX0_completing 74 = .ok (.goto 62, 3) := by decide +kernel
theorem dX0_completing_77 : decode cX0_completing 77 = .ok (.aload_n 0, 1) := by decide +kernel
theorem dX0_completing_78 : decode cX0_completing 78 = .ok (.getfield 32, 3) := by decide +kernel
theorem dX0_completing_81 : decode cX0_completing 81 = .ok (.iconst 3, 1) := by decide +kernel
theorem dX0_completing_82 : decode cX0_completing 82 = .ok (.if_icmp .ne 20, 3) := by decide +kernel
theorem dX0_completing_85 : decode cX0_completing 85 = .ok (.iload_n 2, 1) := by decide +kernel
theorem dX0_completing_86 : decode cX0_completing 86 = .ok (.iload 9, 2) := by decide +kernel
theorem dX0_completing_88 : decode cX0_completing 88 = .ok (.iload 10, 2) := by decide +kernel
theorem dX0_completing_90 : decode cX0_completing 90 = .ok (.ior, 1) := by decide +kernel
theorem dX0_completing_91 : decode cX0_completing 91 = .ok (.iload 7, 2) := by decide +kernel
theorem dX0_completing_93 : decode cX0_completing 93 = .ok (.iload 8, 2) := by decide +kernel
theorem dX0_completing_95 : decode cX0_completing 95 = .ok (.iand, 1) := by decide +kernel
theorem dX0_completing_96 : decode cX0_completing 96 = .ok (.ior, 1) := by decide +kernel
theorem dX0_completing_97 : decode cX0_completing 97 = .ok (.ior, 1) := by decide +kernel
theorem dX0_completing_98 : decode cX0_completing 98 = .ok (.istore_n 2, 1) := by decide +kernel
theorem dX0_completing_99 : decode cX0_completing 99 = .ok (.goto 37, 3) := by decide +kernel
theorem dX0_completing_102 : decode cX0_completing 102 = .ok (.iload_n 2, 1) := by decide +kernel
theorem dX0_completing_103 : decode cX0_completing 103 = .ok (.iload 9, 2) := by decide +kernel
theorem dX0_completing_105 : decode cX0_completing 105 = .ok (.iload 9, 2) := by decide +kernel
theorem dX0_completing_107 : decode cX0_completing 107 = .ok (.iload 6, 2) := by decide +kernel
theorem dX0_completing_109 : decode cX0_completing 109 = .ok (.iushr, 1) := by decide +kernel
theorem dX0_completing_110 : decode cX0_completing 110 = .ok (.iand, 1) := by decide +kernel
theorem dX0_completing_111 : decode cX0_completing 111 = .ok (.iload 10, 2) := by decide +kernel
theorem dX0_completing_113 : decode cX0_completing 113 = .ok (.iload 10, 2) := by decide +kernel
theorem dX0_completing_115 : decode cX0_completing 115 = .ok (.iload 6, 2) := by decide +kernel
theorem dX0_completing_117 : decode cX0_completing 117 = .ok (.ishl, 1) := by decide +kernel
theorem dX0_completing_118 : decode cX0_completing 118 = .ok (.iand, 1) := by decide +kernel
theorem dX0_completing_119 : decode cX0_completing 119 = .ok (.ior, 1) := by decide +kernel
theorem dX0_completing_120 : decode cX0_completing 120 = .ok (.ior, 1) := by decide +kernel
theorem dX0_completing_121 : decode cX0_completing 121 = .ok (.istore_n 2, 1) := by decide +kernel
theorem dX0_completing_122 : decode cX0_completing 122 = .ok (.iload_n 2, 1) := by decide +kernel
theorem dX0_completing_123 : decode cX0_completing 123 = .ok (.iload 9, 2) := by decide +kernel
theorem dX0_completing_125 : decode cX0_completing 125 = .ok (.iload 8, 2) := by decide +kernel
theorem dX0_completing_127 : decode cX0_completing 127 = .ok (.iand, 1) := by decide +kernel
theorem dX0_completing_128 : decode cX0_completing 128 = .ok (.iload 7, 2) := by decide +kernel
theorem dX0_completing_130 : decode cX0_completing 130 = .ok (.iload 10, 2) := by decide +kernel
theorem dX0_completing_132 : decode cX0_completing 132 = .ok (.iand, 1) := by decide +kernel
theorem dX0_completing_133 : decode cX0_completing 133 = .ok (.ior, 1) := by decide +kernel
theorem dX0_completing_134 : decode cX0_completing 134 = .ok (.ior, 1) := by decide +kernel
theorem dX0_completing_135 : decode cX0_completing 135 = .ok (.istore_n 2, 1) := by decide +kernel
theorem dX0_completing_136 : decode cX0_completing 136 = .ok (.iinc 5 1, 3) := by decide +kernel
theorem dX0_completing_139 : decode cX0_completing 139 = .ok (.goto (-126), 3) := by decide +kernel
theorem dX0_completing_142 : decode cX0_completing 142 = .ok (.iload_n 2, 1) := by decide +kernel
theorem dX0_completing_143 : decode cX0_completing 143 = .ok (.ireturn, 1) := by decide +kernel
theorem dX0_fewestToRow_0 : decode cX0_fewestToRow 0 = .ok (.bipush 17, 2) := by decide +kernel
theorem dX0_fewestToRow_2 : decode cX0_fewestToRow 2 = .ok (.istore_n 3, 1) := by decide +kernel
theorem dX0_fewestToRow_3 : decode cX0_fewestToRow 3 = .ok (.getstatic 63, 3) := by decide +kernel
theorem dX0_fewestToRow_6 : decode cX0_fewestToRow 6 = .ok (.astore 4, 2) := by decide +kernel
theorem dX0_fewestToRow_8 : decode cX0_fewestToRow 8 = .ok (.aload 4, 2) := by decide +kernel
theorem dX0_fewestToRow_10 : decode cX0_fewestToRow 10 = .ok (.arraylength, 1) := by decide +kernel
theorem dX0_fewestToRow_11 : decode cX0_fewestToRow 11 = .ok (.istore 5, 2) := by decide +kernel
theorem dX0_fewestToRow_13 : decode cX0_fewestToRow 13 = .ok (.iconst 0, 1) := by decide +kernel
theorem dX0_fewestToRow_14 : decode cX0_fewestToRow 14 = .ok (.istore 6, 2) := by decide +kernel
theorem dX0_fewestToRow_16 : decode cX0_fewestToRow 16 = .ok (.iload 6, 2) := by decide +kernel
theorem dX0_fewestToRow_18 : decode cX0_fewestToRow 18 = .ok (.iload 5, 2) := by decide +kernel
theorem dX0_fewestToRow_20 : decode cX0_fewestToRow 20 = .ok (.if_icmp .ge 112, 3) := by decide +kernel
theorem dX0_fewestToRow_23 : decode cX0_fewestToRow 23 = .ok (.aload 4, 2) := by decide +kernel
theorem dX0_fewestToRow_25 : decode cX0_fewestToRow 25 = .ok (.iload 6, 2) := by decide +kernel
theorem dX0_fewestToRow_27 : decode cX0_fewestToRow 27 = .ok (.iaload, 1) := by decide +kernel
theorem dX0_fewestToRow_28 : decode cX0_fewestToRow 28 = .ok (.istore 7, 2) := by decide +kernel
theorem dX0_fewestToRow_30 : decode cX0_fewestToRow 30 = .ok (.aload_n 0, 1) := by decide +kernel
theorem dX0_fewestToRow_31 : decode cX0_fewestToRow 31 = .ok (.iload 7, 2) := by decide +kernel
theorem dX0_fewestToRow_33 : decode cX0_fewestToRow 33 = .ok (.invokevirtual 67, 3) := by decide +kernel
theorem dX0_fewestToRow_36 : decode cX0_fewestToRow 36 = .ok (.istore 8, 2) := by decide +kernel
theorem dX0_fewestToRow_38 : decode cX0_fewestToRow 38 = .ok (.aload_n 0, 1) := by decide +kernel
theorem dX0_fewestToRow_39 : decode cX0_fewestToRow 39 = .ok (.getfield 32, 3) := by decide +kernel
theorem dX0_fewestToRow_42 : decode cX0_fewestToRow 42 = .ok (.iconst 1, 1) := by decide +kernel
theorem dX0_fewestToRow_43 : decode cX0_fewestToRow 43 = .ok (.isub, 1) := by decide +kernel
theorem dX0_fewestToRow_44 : decode cX0_fewestToRow 44 = .ok (.iload 7, 2) := by decide +kernel
theorem dX0_fewestToRow_46 : decode cX0_fewestToRow 46 = .ok (.imul, 1) := by decide +kernel
theorem dX0_fewestToRow_47 : decode cX0_fewestToRow 47 = .ok (.istore 9, 2) := by decide +kernel
theorem dX0_fewestToRow_49 : decode cX0_fewestToRow 49 = .ok (.iconst 0, 1) := by decide +kernel
theorem dX0_fewestToRow_50 : decode cX0_fewestToRow 50 = .ok (.istore 10, 2) := by decide +kernel
theorem dX0_fewestToRow_52 : decode cX0_fewestToRow 52 = .ok (.iload 10, 2) := by decide +kernel
theorem dX0_fewestToRow_54 : decode cX0_fewestToRow 54 = .ok (.iload 9, 2) := by decide +kernel
theorem dX0_fewestToRow_56 : decode cX0_fewestToRow 56 = .ok (.iadd, 1) := by decide +kernel
theorem dX0_fewestToRow_57 : decode cX0_fewestToRow 57 = .ok (.bipush 20, 2) := by decide +kernel
theorem dX0_fewestToRow_59 : decode cX0_fewestToRow 59 = .ok (.if_icmp .ge 67, 3) := by decide +kernel
theorem dX0_fewestToRow_62 : decode cX0_fewestToRow 62 = .ok (.iload 8, 2) := by decide +kernel
theorem dX0_fewestToRow_64 : decode cX0_fewestToRow 64 = .ok (.iload 10, 2) := by decide +kernel
theorem dX0_fewestToRow_66 : decode cX0_fewestToRow 66 = .ok (.ishl, 1) := by decide +kernel
theorem dX0_fewestToRow_67 : decode cX0_fewestToRow 67 = .ok (.istore 11, 2) := by decide +kernel
theorem dX0_fewestToRow_69 : decode cX0_fewestToRow 69 = .ok (.iload 11, 2) := by decide +kernel
theorem dX0_fewestToRow_71 : decode cX0_fewestToRow 71 = .ok (.aload_n 0, 1) := by decide +kernel
theorem dX0_fewestToRow_72 : decode cX0_fewestToRow 72 = .ok (.getfield 45, 3) := by decide +kernel
theorem dX0_fewestToRow_75 : decode cX0_fewestToRow 75 = .ok (.iconst (-1), 1) := by decide +kernel
theorem dX0_fewestToRow_76 : decode cX0_fewestToRow 76 = .ok (.ixor, 1) := by decide +kernel
theorem dX0_fewestToRow_77 : decode cX0_fewestToRow 77 = .ok (.iand, 1) := by decide +kernel
theorem dX0_fewestToRow_78 : decode cX0_fewestToRow 78 = .ok (.ifCond .ne 42, 3) := by decide +kernel
theorem dX0_fewestToRow_81 : decode cX0_fewestToRow 81 = .ok (.iload 11, 2) := by decide +kernel
theorem dX0_fewestToRow_83 : decode cX0_fewestToRow 83 = .ok (.iload_n 2, 1) := by decide +kernel
theorem dX0_fewestToRow_84 : decode cX0_fewestToRow 84 = .ok (.iand, 1) := by decide +kernel
theorem dX0_fewestToRow_85 : decode cX0_fewestToRow 85 = .ok (.ifCond .ne 35, 3) := by decide +kernel
theorem dX0_fewestToRow_88 : decode cX0_fewestToRow 88 = .ok (.aload_n 0, 1) := by decide +kernel
theorem dX0_fewestToRow_89 : decode cX0_fewestToRow 89 = .ok (.iload 11, 2) := by decide +kernel
theorem dX0_fewestToRow_91 : decode cX0_fewestToRow 91 = .ok (.iload_n 1, 1) := by decide +kernel
theorem dX0_fewestToRow_92 : decode cX0_fewestToRow 92 = .ok (.iconst (-1), 1) := by decide +kernel
theorem dX0_fewestToRow_93 : decode cX0_fewestToRow 93 = .ok (.ixor, 1) := by decide +kernel
theorem dX0_fewestToRow_94 : decode cX0_fewestToRow 94 = .ok (.iand, 1) := by decide +kernel
theorem dX0_fewestToRow_95 : decode cX0_fewestToRow 95 = .ok (.aload_n 0, 1) := by decide +kernel
theorem dX0_fewestToRow_96 : decode cX0_fewestToRow 96 = .ok (.getfield 45, 3) := by decide +kernel
theorem dX0_fewestToRow_99 : decode cX0_fewestToRow 99 = .ok (.iload_n 1, 1) := by decide +kernel
theorem dX0_fewestToRow_100 : decode cX0_fewestToRow 100 = .ok (.iload_n 2, 1) := by decide +kernel
theorem dX0_fewestToRow_101 : decode cX0_fewestToRow 101 = .ok (.ior, 1) := by decide +kernel
theorem dX0_fewestToRow_102 : decode cX0_fewestToRow 102 = .ok (.iconst (-1), 1) := by decide +kernel
theorem dX0_fewestToRow_103 : decode cX0_fewestToRow 103 = .ok (.ixor, 1) := by decide +kernel
theorem dX0_fewestToRow_104 : decode cX0_fewestToRow 104 = .ok (.iand, 1) := by decide +kernel
theorem dX0_fewestToRow_105 : decode cX0_fewestToRow 105 = .ok (.invokevirtual 70, 3) := by decide +kernel
theorem dX0_fewestToRow_108 : decode cX0_fewestToRow 108 = .ok (.istore 12, 2) := by decide +kernel
theorem dX0_fewestToRow_110 : decode cX0_fewestToRow 110 = .ok (.iload_n 3, 1) := by decide +kernel
theorem dX0_fewestToRow_111 : decode cX0_fewestToRow 111 = .ok (.iload 12, 2) := by decide +kernel
theorem dX0_fewestToRow_113 : decode cX0_fewestToRow 113 = .ok (.invokestatic 58, 3) := by decide +kernel
theorem dX0_fewestToRow_116 : decode cX0_fewestToRow 116 = .ok (.invokestatic 73, 3) := by decide +kernel
theorem dX0_fewestToRow_119 : decode cX0_fewestToRow 119 = .ok (.istore_n 3, 1) := by decide +kernel
theorem dX0_fewestToRow_120 : decode cX0_fewestToRow 120 = .ok (.iinc 10 1, 3) := by decide +kernel
theorem dX0_fewestToRow_123 : decode cX0_fewestToRow 123 = .ok (.goto (-71), 3) := by decide +kernel
theorem dX0_fewestToRow_126 : decode cX0_fewestToRow 126 = .ok (.iinc 6 1, 3) := by decide +kernel
theorem dX0_fewestToRow_129 : decode cX0_fewestToRow 129 = .ok (.goto (-113), 3) := by decide +kernel
theorem dX0_fewestToRow_132 : decode cX0_fewestToRow 132 = .ok (.iload_n 3, 1) := by decide +kernel
theorem dX0_fewestToRow_133 : decode cX0_fewestToRow 133 = .ok (.ireturn, 1) := by decide +kernel
theorem dX0_lineAlong_0 : decode cX0_lineAlong 0 = .ok (.iconst 1, 1) := by decide +kernel
theorem dX0_lineAlong_1 : decode cX0_lineAlong 1 = .ok (.istore_n 2, 1) := by decide +kernel
theorem dX0_lineAlong_2 : decode cX0_lineAlong 2 = .ok (.iconst 1, 1) := by decide +kernel
theorem dX0_lineAlong_3 : decode cX0_lineAlong 3 = .ok (.istore_n 3, 1) := by decide +kernel
theorem dX0_lineAlong_4 : decode cX0_lineAlong 4 = .ok (.iload_n 3, 1) := by decide +kernel
theorem dX0_lineAlong_5 : decode cX0_lineAlong 5 = .ok (.aload_n 0, 1) := by decide +kernel
theorem dX0_lineAlong_6 : decode cX0_lineAlong 6 = .ok (.getfield 32, 3) := by decide +kernel
theorem dX0_lineAlong_9 : decode cX0_lineAlong 9 = .ok (.if_icmp .ge 17, 3) := by decide +kernel
theorem dX0_lineAlong_12 : decode cX0_lineAlong 12 = .ok (.iload_n 2, 1) := by decide +kernel
theorem dX0_lineAlong_13 : decode cX0_lineAlong 13 = .ok (.iconst 1, 1) := by decide +kernel
theorem dX0_lineAlong_14 : decode cX0_lineAlong 14 = .ok (.iload_n 3, 1) := by decide +kernel
theorem dX0_lineAlong_15 : decode cX0_lineAlong 15 = .ok (.iload_n 1, 1) := by decide +kernel
theorem dX0_lineAlong_16 : decode cX0_lineAlong 16 = .ok (.imul, 1) := by decide +kernel
theorem dX0_lineAlong_17 : decode cX0_lineAlong 17 = .ok (.ishl, 1) := by decide +kernel
theorem dX0_lineAlong_18 : decode cX0_lineAlong 18 = .ok (.ior, 1) := by decide +kernel
theorem dX0_lineAlong_19 : decode cX0_lineAlong 19 = .ok (.istore_n 2, 1) := by decide +kernel
theorem dX0_lineAlong_20 : decode cX0_lineAlong 20 = .ok (.iinc 3 1, 3) := by decide +kernel
theorem dX0_lineAlong_23 : decode cX0_lineAlong 23 = .ok (.goto (-19), 3) := by decide +kernel
theorem dX0_lineAlong_26 : decode cX0_lineAlong 26 = .ok (.iload_n 2, 1) := by decide +kernel
theorem dX0_lineAlong_27 : decode cX0_lineAlong 27 = .ok (.ireturn, 1) := by decide +kernel
theorem dX0_withSupports_0 : decode cX0_withSupports 0 = .ok (.iload_n 1, 1) := by decide +kernel
theorem dX0_withSupports_1 : decode cX0_withSupports 1 = .ok (.istore_n 3, 1) := by decide +kernel
theorem dX0_withSupports_2 : decode cX0_withSupports 2 = .ok (.iconst 1, 1) := by decide +kernel
theorem dX0_withSupports_3 : decode cX0_withSupports 3 = .ok (.istore 4, 2) := by decide +kernel
theorem dX0_withSupports_5 : decode cX0_withSupports 5 = .ok (.iload 4, 2) := by decide +kernel
theorem dX0_withSupports_7 : decode cX0_withSupports 7 = .ok (.aload_n 0, 1) := by decide +kernel
theorem dX0_withSupports_8 : decode cX0_withSupports 8 = .ok (.getfield 29, 3) := by decide +kernel
theorem dX0_withSupports_11 : decode cX0_withSupports 11 = .ok (.if_icmp .ge 24, 3) := by decide +kernel
theorem dX0_withSupports_14 : decode cX0_withSupports 14 = .ok (.aload_n 0, 1) := by decide +kernel
theorem dX0_withSupports_15 : decode cX0_withSupports 15 = .ok (.getfield 35, 3) := by decide +kernel
theorem dX0_withSupports_18 : decode cX0_withSupports 18 = .ok (.ifCond .eq 17, 3) := by decide +kernel
theorem dX0_withSupports_21 : decode cX0_withSupports 21 = .ok (.iload_n 3, 1) := by decide +kernel
theorem dX0_withSupports_22 : decode cX0_withSupports 22 = .ok (.iload_n 3, 1) := by decide +kernel
theorem dX0_withSupports_23 : decode cX0_withSupports 23 = .ok (.iconst 5, 1) := by decide +kernel
theorem dX0_withSupports_24 : decode cX0_withSupports 24 = .ok (.iushr, 1) := by decide +kernel
theorem dX0_withSupports_25 : decode cX0_withSupports 25 = .ok (.iload_n 2, 1) := by decide +kernel
theorem dX0_withSupports_26 : decode cX0_withSupports 26 = .ok (.iand, 1) := by decide +kernel
theorem dX0_withSupports_27 : decode cX0_withSupports 27 = .ok (.ior, 1) := by decide +kernel
theorem dX0_withSupports_28 : decode cX0_withSupports 28 = .ok (.istore_n 3, 1) := by decide +kernel
theorem dX0_withSupports_29 : decode cX0_withSupports 29 = .ok (.iinc 4 1, 3) := by decide +kernel
theorem dX0_withSupports_32 : decode cX0_withSupports 32 = .ok (.goto (-27), 3) := by decide +kernel
theorem dX0_withSupports_35 : decode cX0_withSupports 35 = .ok (.iload_n 3, 1) := by decide +kernel
theorem dX0_withSupports_36 : decode cX0_withSupports 36 = .ok (.ireturn, 1) := by decide +kernel
theorem dX1_init_0 : decode cX1_init 0 = .ok (.aload_n 0, 1) := by decide +kernel
theorem dX1_init_1 : decode cX1_init 1 = .ok (.invokespecial 3, 3) := by decide +kernel
theorem dX1_init_4 : decode cX1_init 4 = .ok (.aload_n 0, 1) := by decide +kernel
theorem dX1_init_5 : decode cX1_init 5 = .ok (.bipush 12, 2) := by decide +kernel
theorem dX1_init_7 : decode cX1_init 7 = .ok (.newarray .int, 2) := by decide +kernel
theorem dX1_init_9 : decode cX1_init 9 = .ok (.putfield 11, 3) := by decide +kernel
theorem dX1_init_12 : decode cX1_init 12 = .ok (.aload_n 0, 1) := by decide +kernel
theorem dX1_init_13 : decode cX1_init 13 = .ok (.bipush 12, 2) := by decide +kernel
theorem dX1_init_15 : decode cX1_init 15 = .ok (.newarray .int, 2) := by decide +kernel
theorem dX1_init_17 : decode cX1_init 17 = .ok (.putfield 15, 3) := by decide +kernel
theorem dX1_init_20 : decode cX1_init 20 = .ok (.aload_n 0, 1) := by decide +kernel
theorem dX1_init_21 : decode cX1_init 21 = .ok (.bipush 12, 2) := by decide +kernel
theorem dX1_init_23 : decode cX1_init 23 = .ok (.newarray .int, 2) := by decide +kernel
theorem dX1_init_25 : decode cX1_init 25 = .ok (.putfield 18, 3) := by decide +kernel
theorem dX1_init_28 : decode cX1_init 28 = .ok (.aload_n 0, 1) := by decide +kernel
theorem dX1_init_29 : decode cX1_init 29 = .ok (.sipush 202, 3) := by decide +kernel
theorem dX1_init_32 : decode cX1_init 32 = .ok (.newarray .int, 2) := by decide +kernel
theorem dX1_init_34 : decode cX1_init 34 = .ok (.putfield 21, 3) := by decide +kernel
theorem dX1_init_37 : decode cX1_init 37 = .ok (.aload_n 0, 1) := by decide +kernel
theorem dX1_init_38 : decode cX1_init 38 = .ok (.sipush 202, 3) := by decide +kernel
theorem dX1_init_41 : decode cX1_init 41 = .ok (.newarray .int, 2) := by decide +kernel
theorem dX1_init_43 : decode cX1_init 43 = .ok (.putfield 24, 3) := by decide +kernel
theorem dX1_init_46 : decode cX1_init 46 = .ok (.aload_n 0, 1) := by decide +kernel
theorem dX1_init_47 : decode cX1_init 47 = .ok (.sipush 202, 3) := by decide +kernel
theorem dX1_init_50 : decode cX1_init 50 = .ok (.newarray .int, 2) := by decide +kernel
theorem dX1_init_52 : decode cX1_init 52 = .ok (.putfield 27, 3) := by decide +kernel
theorem dX1_init_55 : decode cX1_init 55 = .ok (.return_, 1) := by decide +kernel
theorem dX1_clear_0 : decode cX1_clear 0 = .ok (.aload_n 0, 1) := by decide +kernel
theorem dX1_clear_1 : decode cX1_clear 1 = .ok (.iconst 0, 1) := by decide +kernel
theorem dX1_clear_2 : decode cX1_clear 2 = .ok (.putfield 30, 3) := by decide +kernel
theorem dX1_clear_5 : decode cX1_clear 5 = .ok (.return_, 1) := by decide +kernel
theorem dX1_offer_0 : decode cX1_offer 0 = .ok (.aload_n 0, 1) := by decide +kernel
theorem dX1_offer_1 : decode cX1_offer 1 = .ok (.getfield 30, 3) := by decide +kernel
theorem dX1_offer_4 : decode cX1_offer 4 = .ok (.bipush 12, 2) := by decide +kernel
theorem dX1_offer_6 : decode cX1_offer 6 = .ok (.if_icmp .ge 45, 3) := by decide +kernel
theorem dX1_offer_9 : decode cX1_offer 9 = .ok (.aload_n 0, 1) := by decide +kernel
theorem dX1_offer_10 : decode cX1_offer 10 = .ok (.getfield 11, 3) := by decide +kernel
theorem dX1_offer_13 : decode cX1_offer 13 = .ok (.aload_n 0, 1) := by decide +kernel
theorem dX1_offer_14 : decode cX1_offer 14 = .ok (.getfield 30, 3) := by decide +kernel
theorem dX1_offer_17 : decode cX1_offer 17 = .ok (.iload_n 1, 1) := by decide +kernel
theorem dX1_offer_18 : decode cX1_offer 18 = .ok (.iastore, 1) := by decide +kernel
theorem dX1_offer_19 : decode cX1_offer 19 = .ok (.aload_n 0, 1) := by decide +kernel
theorem dX1_offer_20 : decode cX1_offer 20 = .ok (.getfield 15, 3) := by decide +kernel
theorem dX1_offer_23 : decode cX1_offer 23 = .ok (.aload_n 0, 1) := by decide +kernel
theorem dX1_offer_24 : decode cX1_offer 24 = .ok (.getfield 30, 3) := by decide +kernel
theorem dX1_offer_27 : decode cX1_offer 27 = .ok (.iload_n 2, 1) := by decide +kernel
theorem dX1_offer_28 : decode cX1_offer 28 = .ok (.iastore, 1) := by decide +kernel
theorem dX1_offer_29 : decode cX1_offer 29 = .ok (.aload_n 0, 1) := by decide +kernel
theorem dX1_offer_30 : decode cX1_offer 30 = .ok (.getfield 18, 3) := by decide +kernel
theorem dX1_offer_33 : decode cX1_offer 33 = .ok (.aload_n 0, 1) := by decide +kernel
theorem dX1_offer_34 : decode cX1_offer 34 = .ok (.getfield 30, 3) := by decide +kernel
theorem dX1_offer_37 : decode cX1_offer 37 = .ok (.iload_n 3, 1) := by decide +kernel
theorem dX1_offer_38 : decode cX1_offer 38 = .ok (.iconst 1, 1) := by decide +kernel
theorem dX1_offer_39 : decode cX1_offer 39 = .ok (.iadd, 1) := by decide +kernel
theorem dX1_offer_40 : decode cX1_offer 40 = .ok (.iastore, 1) := by decide +kernel
theorem dX1_offer_41 : decode cX1_offer 41 = .ok (.aload_n 0, 1) := by decide +kernel
theorem dX1_offer_42 : decode cX1_offer 42 = .ok (.dup, 1) := by decide +kernel
theorem dX1_offer_43 : decode cX1_offer 43 = .ok (.getfield 30, 3) := by decide +kernel
theorem dX1_offer_46 : decode cX1_offer 46 = .ok (.iconst 1, 1) := by decide +kernel
theorem dX1_offer_47 : decode cX1_offer 47 = .ok (.iadd, 1) := by decide +kernel
theorem dX1_offer_48 : decode cX1_offer 48 = .ok (.putfield 30, 3) := by decide +kernel
theorem dX1_offer_51 : decode cX1_offer 51 = .ok (.return_, 1) := by decide +kernel
theorem dX1_choose_0 : decode cX1_choose 0 = .ok (.aload_n 0, 1) := by decide +kernel
theorem dX1_choose_1 : decode cX1_choose 1 = .ok (.getfield 21, 3) := by decide +kernel
theorem dX1_choose_4 : decode cX1_choose 4 = .ok (.iconst 0, 1) := by decide +kernel
theorem dX1_choose_5 : decode cX1_choose 5 = .ok (.invokestatic 34, 3) := by decide +kernel
theorem dX1_choose_8 : decode cX1_choose 8 = .ok (.aload_n 0, 1) := by decide +kernel
theorem dX1_choose_9 : decode cX1_choose 9 = .ok (.getfield 24, 3) := by decide +kernel
theorem dX1_choose_12 : decode cX1_choose 12 = .ok (.iconst 0, 1) := by decide +kernel
theorem dX1_choose_13 : decode cX1_choose 13 = .ok (.invokestatic 34, 3) := by decide +kernel
theorem dX1_choose_16 : decode cX1_choose 16 = .ok (.aload_n 0, 1) := by decide +kernel
theorem dX1_choose_17 : decode cX1_choose 17 = .ok (.getfield 27, 3) := by decide +kernel
theorem dX1_choose_20 : decode cX1_choose 20 = .ok (.iconst 0, 1) := by decide +kernel
theorem dX1_choose_21 : decode cX1_choose 21 = .ok (.invokestatic 34, 3) := by decide +kernel
theorem dX1_choose_24 : decode cX1_choose 24 = .ok (.iload_n 1, 1) := by decide +kernel
theorem dX1_choose_25 : decode cX1_choose 25 = .ok (.iconst 1, 1) := by decide +kernel
theorem dX1_choose_26 : decode cX1_choose 26 = .ok (.iadd, 1) := by decide +kernel
theorem dX1_choose_27 : decode cX1_choose 27 = .ok (.aload_n 0, 1) := by decide +kernel
theorem dX1_choose_28 : decode cX1_choose 28 = .ok (.getfield 27, 3) := by decide +kernel
theorem dX1_choose_31 : decode cX1_choose 31 = .ok (.arraylength, 1) := by decide +kernel
theorem dX1_choose_32 : decode cX1_choose 32 = .ok (.iconst 1, 1) := by decide +kernel
theorem dX1_choose_33 : decode cX1_choose 33 = .ok (.isub, 1) := by decide +kernel
theorem dX1_choose_34 : decode cX1_choose 34 = .ok (.invokestatic 40, 3) := by decide +kernel
theorem dX1_choose_37 : decode cX1_choose 37 = .ok (.istore_n 2, 1) := by decide +kernel
theorem dX1_choose_38 : decode cX1_choose 38 = .ok (.aload_n 0, 1) := by decide +kernel
theorem dX1_choose_39 : decode cX1_choose 39 = .ok (.getfield 30, 3) := by decide +kernel
theorem dX1_choose_42 : decode cX1_choose 42 = .ok (.iconst 1, 1) := by decide +kernel
theorem dX1_choose_43 : decode cX1_choose 43 = .ok (.isub, 1) := by decide +kernel
theorem dX1_choose_44 : decode cX1_choose 44 = .ok (.istore_n 3, 1) := by decide +kernel
theorem dX1_choose_45 : decode cX1_choose 45 = .ok (.iload_n 3, 1) := by decide +kernel
theorem dX1_choose_46 : decode cX1_choose 46 = .ok (.ifCond .lt 15, 3) := by decide +kernel
theorem dX1_choose_49 : decode cX1_choose 49 = .ok (.aload_n 0, 1) := by decide +kernel
theorem dX1_choose_50 : decode cX1_choose 50 = .ok (.iload_n 3, 1) := by decide +kernel
theorem dX1_choose_51 : decode cX1_choose 51 = .ok (.iload_n 2, 1) := by decide +kernel
theorem dX1_choose_52 : decode cX1_choose 52 = .ok (.invokevirtual 46, 3) := by decide +kernel
theorem dX1_choose_55 : decode cX1_choose 55 = .ok (.iinc 3 (-1), 3) := by decide +kernel
theorem dX1_choose_58 : decode cX1_choose 58 = .ok (.goto (-13), 3) := by decide +kernel
theorem dX1_choose_61 : decode cX1_choose 61 = .ok (.iload_n 2, 1) := by decide +kernel
theorem dX1_choose_62 : decode cX1_choose 62 = .ok (.ifCond .lt 12, 3) := by decide +kernel
theorem dX1_choose_65 : decode cX1_choose 65 = .ok (.aload_n 0, 1) := by decide +kernel
theorem dX1_choose_66 : decode cX1_choose 66 = .ok (.getfield 27, 3) := by decide +kernel
theorem dX1_choose_69 : decode cX1_choose 69 = .ok (.iload_n 2, 1) := by decide +kernel
theorem dX1_choose_70 : decode cX1_choose 70 = .ok (.iaload, 1) := by decide +kernel
theorem dX1_choose_71 : decode cX1_choose 71 = .ok (.goto 4, 3) := by decide +kernel
theorem dX1_choose_74 : decode cX1_choose 74 = .ok (.iconst 0, 1) := by decide +kernel
theorem dX1_choose_75 : decode cX1_choose 75 = .ok (.ireturn, 1) := by decide +kernel
theorem dX1_weigh_0 : decode cX1_weigh 0 = .ok (.iload_n 2, 1) := by decide +kernel
theorem dX1_weigh_1 : decode cX1_weigh 1 = .ok (.istore_n 3, 1) := by decide +kernel
theorem dX1_weigh_2 : decode cX1_weigh 2 = .ok (.iload_n 3, 1) := by decide +kernel
theorem dX1_weigh_3 : decode cX1_weigh 3 = .ok (.aload_n 0, 1) := by decide +kernel
theorem dX1_weigh_4 : decode cX1_weigh 4 = .ok (.getfield 18, 3) := by decide +kernel
theorem dX1_weigh_7 : decode cX1_weigh 7 = .ok (.iload_n 1, 1) := by decide +kernel
theorem dX1_weigh_8 : decode cX1_weigh 8 = .ok (.iaload, 1) := by decide +kernel
theorem dX1_weigh_9 : decode cX1_weigh 9 = .ok (.if_icmp .lt 136, 3) := by decide +kernel
theorem dX1_weigh_12 : decode cX1_weigh 12 = .ok (.iload_n 3, 1) := by decide +kernel
theorem dX1_weigh_13 : decode cX1_weigh 13 = .ok (.aload_n 0, 1) := by decide +kernel
theorem dX1_weigh_14 : decode cX1_weigh 14 = .ok (.getfield 18, 3) := by decide +kernel
theorem dX1_weigh_17 : decode cX1_weigh 17 = .ok (.iload_n 1, 1) := by decide +kernel
theorem dX1_weigh_18 : decode cX1_weigh 18 = .ok (.iaload, 1) := by decide +kernel
theorem dX1_weigh_19 : decode cX1_weigh 19 = .ok (.isub, 1) := by decide +kernel
theorem dX1_weigh_20 : decode cX1_weigh 20 = .ok (.istore 4, 2) := by decide +kernel
theorem dX1_weigh_22 : decode cX1_weigh 22 = .ok (.aload_n 0, 1) := by decide +kernel
theorem dX1_weigh_23 : decode cX1_weigh 23 = .ok (.getfield 21, 3) := by decide +kernel
theorem dX1_weigh_26 : decode cX1_weigh 26 = .ok (.iload 4, 2) := by decide +kernel
theorem dX1_weigh_28 : decode cX1_weigh 28 = .ok (.iaload, 1) := by decide +kernel
theorem dX1_weigh_29 : decode cX1_weigh 29 = .ok (.aload_n 0, 1) := by decide +kernel
theorem dX1_weigh_30 : decode cX1_weigh 30 = .ok (.getfield 15, 3) := by decide +kernel
theorem dX1_weigh_33 : decode cX1_weigh 33 = .ok (.iload_n 1, 1) := by decide +kernel
theorem dX1_weigh_34 : decode cX1_weigh 34 = .ok (.iaload, 1) := by decide +kernel
theorem dX1_weigh_35 : decode cX1_weigh 35 = .ok (.iadd, 1) := by decide +kernel
theorem dX1_weigh_36 : decode cX1_weigh 36 = .ok (.istore 5, 2) := by decide +kernel
theorem dX1_weigh_38 : decode cX1_weigh 38 = .ok (.aload_n 0, 1) := by decide +kernel
theorem dX1_weigh_39 : decode cX1_weigh 39 = .ok (.getfield 24, 3) := by decide +kernel
theorem dX1_weigh_42 : decode cX1_weigh 42 = .ok (.iload 4, 2) := by decide +kernel
theorem dX1_weigh_44 : decode cX1_weigh 44 = .ok (.iaload, 1) := by decide +kernel
theorem dX1_weigh_45 : decode cX1_weigh 45 = .ok (.aload_n 0, 1) := by decide +kernel
theorem dX1_weigh_46 : decode cX1_weigh 46 = .ok (.getfield 18, 3) := by decide +kernel
theorem dX1_weigh_49 : decode cX1_weigh 49 = .ok (.iload_n 1, 1) := by decide +kernel
theorem dX1_weigh_50 : decode cX1_weigh 50 = .ok (.iaload, 1) := by decide +kernel
theorem dX1_weigh_51 : decode cX1_weigh 51 = .ok (.iadd, 1) := by decide +kernel
theorem dX1_weigh_52 : decode cX1_weigh 52 = .ok (.istore 6, 2) := by decide +kernel
theorem dX1_weigh_54 : decode cX1_weigh 54 = .ok (.iload 5, 2) := by decide +kernel
theorem dX1_weigh_56 : decode cX1_weigh 56 = .ok (.aload_n 0, 1) := by decide +kernel
theorem dX1_weigh_57 : decode cX1_weigh 57 = .ok (.getfield 21, 3) := by decide +kernel
theorem dX1_weigh_60 : decode cX1_weigh 60 = .ok (.iload_n 3, 1) := by decide +kernel
theorem dX1_weigh_61 : decode cX1_weigh 61 = .ok (.iaload, 1) := by decide +kernel
theorem dX1_weigh_62 : decode cX1_weigh 62 = .ok (.if_icmp .le 7, 3) := by decide +kernel
theorem dX1_weigh_65 : decode cX1_weigh 65 = .ok (.iconst 1, 1) := by decide +kernel
theorem dX1_weigh_66 : decode cX1_weigh 66 = .ok (.goto 4, 3) := by decide +kernel
theorem dX1_weigh_69 : decode cX1_weigh 69 = .ok (.iconst 0, 1) := by decide +kernel
theorem dX1_weigh_70 : decode cX1_weigh 70 = .ok (.istore 7, 2) := by decide +kernel
theorem dX1_weigh_72 : decode cX1_weigh 72 = .ok (.iload 7, 2) := by decide +kernel
theorem dX1_weigh_74 : decode cX1_weigh 74 = .ok (.ifCond .ne 25, 3) := by decide +kernel
theorem dX1_weigh_77 : decode cX1_weigh 77 = .ok (.iload 5, 2) := by decide +kernel
theorem dX1_weigh_79 : decode cX1_weigh 79 = .ok (.aload_n 0, 1) := by decide +kernel
theorem dX1_weigh_80 : decode cX1_weigh 80 = .ok (.getfield 21, 3) := by decide +kernel
theorem dX1_weigh_83 : decode cX1_weigh 83 = .ok (.iload_n 3, 1) := by decide +kernel
theorem dX1_weigh_84 : decode cX1_weigh 84 = .ok (.iaload, 1) := by decide +kernel
theorem dX1_weigh_85 : decode cX1_weigh 85 = .ok (.if_icmp .ne 54, 3) := by decide +kernel
theorem dX1_weigh_88 : decode cX1_weigh 88 = .ok (.iload 6, 2) := by decide +kernel
theorem dX1_weigh_90 : decode cX1_weigh 90 = .ok (.aload_n 0, 1) := by decide +kernel
theorem dX1_weigh_91 : decode cX1_weigh 91 = .ok (.getfield 24, 3) := by decide +kernel
theorem dX1_weigh_94 : decode cX1_weigh 94 = .ok (.iload_n 3, 1) := by decide +kernel
theorem dX1_weigh_95 : decode cX1_weigh 95 = .ok (.iaload, 1) := by decide +kernel
theorem dX1_weigh_96 : decode cX1_weigh 96 = .ok (.if_icmp .gt 43, 3) := by decide +kernel
theorem dX1_weigh_99 : decode cX1_weigh 99 = .ok (.aload_n 0, 1) := by decide +kernel
theorem dX1_weigh_100 : decode cX1_weigh 100 = .ok (.getfield 21, 3) := by decide +kernel
theorem dX1_weigh_103 : decode cX1_weigh 103 = .ok (.iload_n 3, 1) := by decide +kernel
theorem dX1_weigh_104 : decode cX1_weigh 104 = .ok (.iload 5, 2) := by decide +kernel
theorem dX1_weigh_106 : decode cX1_weigh 106 = .ok (.iastore, 1) := by decide +kernel
theorem dX1_weigh_107 : decode cX1_weigh 107 = .ok (.aload_n 0, 1) := by decide +kernel
theorem dX1_weigh_108 : decode cX1_weigh 108 = .ok (.getfield 24, 3) := by decide +kernel
theorem dX1_weigh_111 : decode cX1_weigh 111 = .ok (.iload_n 3, 1) := by decide +kernel
theorem dX1_weigh_112 : decode cX1_weigh 112 = .ok (.iload 6, 2) := by decide +kernel
theorem dX1_weigh_114 : decode cX1_weigh 114 = .ok (.iastore, 1) := by decide +kernel
theorem dX1_weigh_115 : decode cX1_weigh 115 = .ok (.aload_n 0, 1) := by decide +kernel
theorem dX1_weigh_116 : decode cX1_weigh 116 = .ok (.getfield 27, 3) := by decide +kernel
theorem dX1_weigh_119 : decode cX1_weigh 119 = .ok (.iload_n 3, 1) := by decide +kernel
theorem dX1_weigh_120 : decode cX1_weigh 120 = .ok (.aload_n 0, 1) := by decide +kernel
theorem dX1_weigh_121 : decode cX1_weigh 121 = .ok (.getfield 27, 3) := by decide +kernel
theorem dX1_weigh_124 : decode cX1_weigh 124 = .ok (.iload 4, 2) := by decide +kernel
theorem dX1_weigh_126 : decode cX1_weigh 126 = .ok (.iaload, 1) := by decide +kernel
theorem dX1_weigh_127 : decode cX1_weigh 127 = .ok (.iconst 1, 1) := by decide +kernel
theorem dX1_weigh_128 : decode cX1_weigh 128 = .ok (.aload_n 0, 1) := by decide +kernel
theorem dX1_weigh_129 : decode cX1_weigh 129 = .ok (.getfield 11, 3) := by decide +kernel
theorem dX1_weigh_132 : decode cX1_weigh 132 = .ok (.iload_n 1, 1) := by decide +kernel
theorem dX1_weigh_133 : decode cX1_weigh 133 = .ok (.iaload, 1) := by decide +kernel
theorem dX1_weigh_134 : decode cX1_weigh 134 = .ok (.iconst 1, 1) := by decide +kernel
theorem dX1_weigh_135 : decode cX1_weigh 135 = .ok (.isub, 1) := by decide +kernel
theorem dX1_weigh_136 : decode cX1_weigh 136 = .ok (.ishl, 1) := by decide +kernel
theorem dX1_weigh_137 : decode cX1_weigh 137 = .ok (.ior, 1) := by decide +kernel
theorem dX1_weigh_138 : decode cX1_weigh 138 = .ok (.iastore, 1) := by decide +kernel
theorem dX1_weigh_139 : decode cX1_weigh 139 = .ok (.iinc 3 (-1), 3) := by decide +kernel
theorem dX1_weigh_142 : decode cX1_weigh 142 = .ok (.goto (-140), 3) := by decide +kernel
theorem dX1_weigh_145 : decode cX1_weigh 145 = .ok (.return_, 1) := by decide +kernel
theorem dX2_init_0 : decode cX2_init 0 = .ok (.aload_n 0, 1) := by decide +kernel
theorem dX2_init_1 : decode cX2_init 1 = .ok (.invokespecial 7, 3) := by decide +kernel
theorem dX2_init_4 : decode cX2_init 4 = .ok (.aload_n 0, 1) := by decide +kernel
theorem dX2_init_5 : decode cX2_init 5 = .ok (.aload_n 1, 1) := by decide +kernel
theorem dX2_init_6 : decode cX2_init 6 = .ok (.putfield 13, 3) := by decide +kernel
theorem dX2_init_9 : decode cX2_init 9 = .ok (.aload_n 0, 1) := by decide +kernel
theorem dX2_init_10 : decode cX2_init 10 = .ok (.aload_n 2, 1) := by decide +kernel
theorem dX2_init_11 : decode cX2_init 11 = .ok (.putfield 19, 3) := by decide +kernel
theorem dX2_init_14 : decode cX2_init 14 = .ok (.aload_n 0, 1) := by decide +kernel
theorem dX2_init_15 : decode cX2_init 15 = .ok (.aload_n 3, 1) := by decide +kernel
theorem dX2_init_16 : decode cX2_init 16 = .ok (.putfield 23, 3) := by decide +kernel
theorem dX2_init_19 : decode cX2_init 19 = .ok (.aload_n 0, 1) := by decide +kernel
theorem dX2_init_20 : decode cX2_init 20 = .ok (.bipush 6, 2) := by decide +kernel
theorem dX2_init_22 : decode cX2_init 22 = .ok (.newarray .int, 2) := by decide +kernel
theorem dX2_init_24 : decode cX2_init 24 = .ok (.putfield 27, 3) := by decide +kernel
theorem dX2_init_27 : decode cX2_init 27 = .ok (.aload_n 0, 1) := by decide +kernel
theorem dX2_init_28 : decode cX2_init 28 = .ok (.bipush 102, 2) := by decide +kernel
theorem dX2_init_30 : decode cX2_init 30 = .ok (.newarray .int, 2) := by decide +kernel
theorem dX2_init_32 : decode cX2_init 32 = .ok (.putfield 31, 3) := by decide +kernel
theorem dX2_init_35 : decode cX2_init 35 = .ok (.aload_n 0, 1) := by decide +kernel
theorem dX2_init_36 : decode cX2_init 36 = .ok (.bipush 102, 2) := by decide +kernel
theorem dX2_init_38 : decode cX2_init 38 = .ok (.newarray .int, 2) := by decide +kernel
theorem dX2_init_40 : decode cX2_init 40 = .ok (.putfield 34, 3) := by decide +kernel
theorem dX2_init_43 : decode cX2_init 43 = .ok (.aload_n 0, 1) := by decide +kernel
theorem dX2_init_44 : decode cX2_init 44 = .ok (.iconst 3, 1) := by decide +kernel
theorem dX2_init_45 : decode cX2_init 45 = .ok (.putfield 37, 3) := by decide +kernel
theorem dX2_init_48 : decode cX2_init 48 = .ok (.aload_n 0, 1) := by decide +kernel
theorem dX2_init_49 : decode cX2_init 49 = .ok (.getfield 27, 3) := by decide +kernel
theorem dX2_init_52 : decode cX2_init 52 = .ok (.iconst 1, 1) := by decide +kernel
theorem dX2_init_53 : decode cX2_init 53 = .ok (.invokestatic 41, 3) := by decide +kernel
theorem dX2_init_56 : decode cX2_init 56 = .ok (.aload_n 0, 1) := by decide +kernel
theorem dX2_init_57 : decode cX2_init 57 = .ok (.getfield 31, 3) := by decide +kernel
theorem dX2_init_60 : decode cX2_init 60 = .ok (.iconst 2, 1) := by decide +kernel
theorem dX2_init_61 : decode cX2_init 61 = .ok (.invokestatic 41, 3) := by decide +kernel
theorem dX2_init_64 : decode cX2_init 64 = .ok (.return_, 1) := by decide +kernel
theorem dX2_tellDepth_0 : decode cX2_tellDepth 0 = .ok (.iload_n 1, 1) := by decide +kernel
theorem dX2_tellDepth_1 : decode cX2_tellDepth 1 = .ok (.iconst 1, 1) := by decide +kernel
theorem dX2_tellDepth_2 : decode cX2_tellDepth 2 = .ok (.if_icmp .lt 8, 3) := by decide +kernel
theorem dX2_tellDepth_5 : decode cX2_tellDepth 5 = .ok (.iload_n 1, 1) := by decide +kernel
theorem dX2_tellDepth_6 : decode cX2_tellDepth 6 = .ok (.iconst 4, 1) := by decide +kernel
theorem dX2_tellDepth_7 : decode cX2_tellDepth 7 = .ok (.if_icmp .le 5, 3) := by decide +kernel
theorem dX2_tellDepth_10 : decode cX2_tellDepth 10 = .ok (.iconst 0, 1) := by decide +kernel
theorem dX2_tellDepth_11 : decode cX2_tellDepth 11 = .ok (.ireturn, 1) := by decide +kernel
theorem dX2_tellDepth_12 : decode cX2_tellDepth 12 = .ok (.aload_n 0, 1) := by decide +kernel
theorem dX2_tellDepth_13 : decode cX2_tellDepth 13 = .ok (.iload_n 1, 1) := by decide +kernel
theorem dX2_tellDepth_14 : decode cX2_tellDepth 14 = .ok (.putfield 37, 3) := by decide +kernel
theorem dX2_tellDepth_17 : decode cX2_tellDepth 17 = .ok (.aload_n 0, 1) := by decide +kernel
theorem dX2_tellDepth_18 : decode cX2_tellDepth 18 = .ok (.iconst 0, 1) := by decide +kernel
theorem dX2_tellDepth_19 : decode cX2_tellDepth 19 = .ok (.putfield 47, 3) := by decide +kernel
theorem dX2_tellDepth_22 : decode cX2_tellDepth 22 = .ok (.iconst 1, 1) := by decide +kernel
theorem dX2_tellDepth_23 : decode cX2_tellDepth 23 = .ok (.ireturn, 1) := by decide +kernel
theorem dX2_tellWeight_0 : decode cX2_tellWeight 0 = .ok (.iload_n 1, 1) := by decide +kernel
theorem dX2_tellWeight_1 : decode cX2_tellWeight 1 = .ok (.ifCond .lt 22, 3) := by decide +kernel
theorem dX2_tellWeight_4 : decode cX2_tellWeight 4 = .ok (.iload_n 1, 1) := by decide +kernel
theorem dX2_tellWeight_5 : decode cX2_tellWeight 5 = .ok (.aload_n 0, 1) := by decide +kernel
theorem dX2_tellWeight_6 : decode cX2_tellWeight 6 = .ok (.getfield 27, 3) := by decide +kernel
theorem dX2_tellWeight_9 : decode cX2_tellWeight 9 = .ok (.arraylength, 1) := by decide +kernel
theorem dX2_tellWeight_10 : decode cX2_tellWeight 10 = .ok (.if_icmp .ge 13, 3) := by decide +kernel
theorem dX2_tellWeight_13 : decode cX2_tellWeight 13 = .ok (.iload_n 2, 1) := by decide +kernel
theorem dX2_tellWeight_14 : decode cX2_tellWeight 14 = .ok (.ifCond .lt 9, 3) := by decide +kernel
theorem dX2_tellWeight_17 : decode cX2_tellWeight 17 = .ok (.iload_n 2, 1) := by decide +kernel
theorem dX2_tellWeight_18 : decode cX2_tellWeight 18 = .ok (.bipush 99, 2) := by decide +kernel
theorem dX2_tellWeight_20 : decode cX2_tellWeight 20 = .ok (.if_icmp .le 5, 3) := by decide +kernel
theorem dX2_tellWeight_23 : decode cX2_tellWeight 23 = .ok (.iconst 0, 1) := by decide +kernel
theorem dX2_tellWeight_24 : decode cX2_tellWeight 24 = .ok (.ireturn, 1) := by decide +kernel
theorem dX2_tellWeight_25 : decode cX2_tellWeight 25 = .ok (.aload_n 0, 1) := by decide +kernel
theorem dX2_tellWeight_26 : decode cX2_tellWeight 26 = .ok (.getfield 27, 3) := by decide +kernel
theorem dX2_tellWeight_29 : decode cX2_tellWeight 29 = .ok (.iload_n 1, 1) := by decide +kernel
theorem dX2_tellWeight_30 : decode cX2_tellWeight 30 = .ok (.iload_n 2, 1) := by decide +kernel
theorem dX2_tellWeight_31 : decode cX2_tellWeight 31 = .ok (.iastore, 1) := by decide +kernel
theorem dX2_tellWeight_32 : decode cX2_tellWeight 32 = .ok (.iconst 1, 1) := by decide +kernel
theorem dX2_tellWeight_33 : decode cX2_tellWeight 33 = .ok (.ireturn, 1) := by decide +kernel
theorem dX2_weightOf_0 : decode cX2_weightOf 0 = .ok (.iload_n 1, 1) := by decide +kernel
theorem dX2_weightOf_1 : decode cX2_weightOf 1 = .ok (.ifCond .lt 21, 3) := by decide +kernel
theorem dX2_weightOf_4 : decode cX2_weightOf 4 = .ok (.iload_n 1, 1) := by decide +kernel
theorem dX2_weightOf_5 : decode cX2_weightOf 5 = .ok (.aload_n 0, 1) := by decide +kernel
theorem dX2_weightOf_6 : decode cX2_weightOf 6 = .ok (.getfield 27, 3) := by decide +kernel
theorem dX2_weightOf_9 : decode cX2_weightOf 9 = .ok (.arraylength, 1) := by decide +kernel
theorem dX2_weightOf_10 : decode cX2_weightOf 10 = .ok (.if_icmp .ge 12, 3) := by decide +kernel
theorem dX2_weightOf_13 : decode cX2_weightOf 13 = .ok (.aload_n 0, 1) := by decide +kernel
theorem dX2_weightOf_14 : decode cX2_weightOf 14 = .ok (.getfield 27, 3) := by decide +kernel
theorem dX2_weightOf_17 : decode cX2_weightOf 17 = .ok (.iload_n 1, 1) := by decide +kernel
theorem dX2_weightOf_18 : decode cX2_weightOf 18 = .ok (.iaload, 1) := by decide +kernel
theorem dX2_weightOf_19 : decode cX2_weightOf 19 = .ok (.goto 4, 3) := by decide +kernel
theorem dX2_weightOf_22 : decode cX2_weightOf 22 = .ok (.iconst (-1), 1) := by decide +kernel
theorem dX2_weightOf_23 : decode cX2_weightOf 23 = .ok (.ireturn, 1) := by decide +kernel
theorem dX2_forgetAll_0 : decode cX2_forgetAll 0 = .ok (.aload_n 0, 1) := by decide +kernel
theorem dX2_forgetAll_1 : decode cX2_forgetAll 1 = .ok (.getfield 31, 3) := by decide +kernel
theorem dX2_forgetAll_4 : decode cX2_forgetAll 4 = .ok (.iconst 2, 1) := by decide +kernel
theorem dX2_forgetAll_5 : decode cX2_forgetAll 5 = .ok (.invokestatic 41, 3) := by decide +kernel
theorem dX2_forgetAll_8 : decode cX2_forgetAll 8 = .ok (.aload_n 0, 1) := by decide +kernel
theorem dX2_forgetAll_9 : decode cX2_forgetAll 9 = .ok (.iconst 0, 1) := by decide +kernel
theorem dX2_forgetAll_10 : decode cX2_forgetAll 10 = .ok (.putfield 47, 3) := by decide +kernel
theorem dX2_forgetAll_13 : decode cX2_forgetAll 13 = .ok (.return_, 1) := by decide +kernel
theorem dX2_forgetMove_0 : decode cX2_forgetMove 0 = .ok (.iconst 0, 1) := by decide +kernel
theorem dX2_forgetMove_1 : decode cX2_forgetMove 1 = .ok (.istore_n 2, 1) := by decide +kernel
