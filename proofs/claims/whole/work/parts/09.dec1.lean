theorem dX2_init_0 : decode cX2_init 0 = .ok (.aload_n 0, 1) := by decide +kernel
theorem dX2_init_1 : decode cX2_init 1 = .ok (.invokespecial 3, 3) := by decide +kernel
theorem dX2_init_4 : decode cX2_init 4 = .ok (.aload_n 0, 1) := by decide +kernel
theorem dX2_init_5 : decode cX2_init 5 = .ok (.bipush 16, 2) := by decide +kernel
theorem dX2_init_7 : decode cX2_init 7 = .ok (.newarray .int, 2) := by decide +kernel
theorem dX2_init_9 : decode cX2_init 9 = .ok (.putfield 9, 3) := by decide +kernel
theorem dX2_init_12 : decode cX2_init 12 = .ok (.aload_n 0, 1) := by decide +kernel
theorem dX2_init_13 : decode cX2_init 13 = .ok (.bipush 16, 2) := by decide +kernel
theorem dX2_init_15 : decode cX2_init 15 = .ok (.newarray .int, 2) := by decide +kernel
theorem dX2_init_17 : decode cX2_init 17 = .ok (.putfield 15, 3) := by decide +kernel
theorem dX2_init_20 : decode cX2_init 20 = .ok (.aload_n 0, 1) := by decide +kernel
theorem dX2_init_21 : decode cX2_init 21 = .ok (.bipush 40, 2) := by decide +kernel
theorem dX2_init_23 : decode cX2_init 23 = .ok (.anewarray 18, 3) := by decide +kernel
theorem dX2_init_26 : decode cX2_init 26 = .ok (.putfield 20, 3) := by decide +kernel
theorem dX2_init_29 : decode cX2_init 29 = .ok (.aload_n 0, 1) := by decide +kernel
theorem dX2_init_30 : decode cX2_init 30 = .ok (.iconst 0, 1) := by decide +kernel
theorem dX2_init_31 : decode cX2_init 31 = .ok (.putfield 24, 3) := by decide +kernel
theorem dX2_init_34 : decode cX2_init 34 = .ok (.aload_n 0, 1) := by decide +kernel
theorem dX2_init_35 : decode cX2_init 35 = .ok (.aload_n 1, 1) := by decide +kernel
theorem dX2_init_36 : decode cX2_init 36 = .ok (.putfield 28, 3) := by decide +kernel
theorem dX2_init_39 : decode cX2_init 39 = .ok (.return_, 1) := by decide +kernel
theorem dX2_sortCells_0 : decode cX2_sortCells 0 = .ok (.aload_n 0, 1) := by decide +kernel
theorem dX2_sortCells_1 : decode cX2_sortCells 1 = .ok (.iconst 0, 1) := by decide +kernel
theorem dX2_sortCells_2 : decode cX2_sortCells 2 = .ok (.putfield 24, 3) := by decide +kernel
theorem dX2_sortCells_5 : decode cX2_sortCells 5 = .ok (.iconst 1, 1) := by decide +kernel
theorem dX2_sortCells_6 : decode cX2_sortCells 6 = .ok (.istore_n 1, 1) := by decide +kernel
theorem dX2_sortCells_7 : decode cX2_sortCells 7 = .ok (.iload_n 1, 1) := by decide +kernel
theorem dX2_sortCells_8 : decode cX2_sortCells 8 = .ok (.aload_n 0, 1) := by decide +kernel
theorem dX2_sortCells_9 : decode cX2_sortCells 9 = .ok (.getfield 28, 3) := by decide +kernel
theorem dX2_sortCells_12 : decode cX2_sortCells 12 = .ok (.getfield 32, 3) := by decide +kernel
theorem dX2_sortCells_15 : decode cX2_sortCells 15 = .ok (.if_icmp .gt 88, 3) := by decide +kernel
theorem dX2_sortCells_18 : decode cX2_sortCells 18 = .ok (.iconst 0, 1) := by decide +kernel
theorem dX2_sortCells_19 : decode cX2_sortCells 19 = .ok (.istore_n 2, 1) := by decide +kernel
theorem dX2_sortCells_20 : decode cX2_sortCells 20 = .ok (.iload_n 2, 1) := by decide +kernel
theorem dX2_sortCells_21 : decode cX2_sortCells 21 = .ok (.aload_n 0, 1) := by decide +kernel
theorem dX2_sortCells_22 : decode cX2_sortCells 22 = .ok (.getfield 28, 3) := by decide +kernel
theorem dX2_sortCells_25 : decode cX2_sortCells 25 = .ok (.getfield 37, 3) := by decide +kernel
theorem dX2_sortCells_28 : decode cX2_sortCells 28 = .ok (.if_icmp .ge 69, 3) := by decide +kernel
theorem dX2_sortCells_31 : decode cX2_sortCells 31 = .ok (.aload_n 0, 1) := by decide +kernel
theorem dX2_sortCells_32 : decode cX2_sortCells 32 = .ok (.getfield 28, 3) := by decide +kernel
theorem dX2_sortCells_35 : decode cX2_sortCells 35 = .ok (.iload_n 2, 1) := by decide +kernel
theorem dX2_sortCells_36 : decode cX2_sortCells 36 = .ok (.invokevirtual 40, 3) := by decide +kernel
theorem dX2_sortCells_39 : decode cX2_sortCells 39 = .ok (.astore_n 3, 1) := by decide +kernel
theorem dX2_sortCells_40 : decode cX2_sortCells 40 = .ok (.aload_n 3, 1) := by decide +kernel
theorem dX2_sortCells_41 : decode cX2_sortCells 41 = .ok (.ifnull 50, 3) := by decide +kernel
theorem dX2_sortCells_44 : decode cX2_sortCells 44 = .ok (.aload_n 3, 1) := by decide +kernel
theorem dX2_sortCells_45 : decode cX2_sortCells 45 = .ok (.getfield 44, 3) := by decide +kernel
theorem dX2_sortCells_48 : decode cX2_sortCells 48 = .ok (.iload_n 1, 1) := by decide +kernel
theorem dX2_sortCells_49 : decode cX2_sortCells 49 = .ok (.if_icmp .ne 42, 3) := by decide +kernel
theorem dX2_sortCells_52 : decode cX2_sortCells 52 = .ok (.aload_n 3, 1) := by decide +kernel
theorem dX2_sortCells_53 : decode cX2_sortCells 53 = .ok (.getfield 45, 3) := by decide +kernel
theorem dX2_sortCells_56 : decode cX2_sortCells 56 = .ok (.ifCond .le 35, 3) := by decide +kernel
theorem dX2_sortCells_59 : decode cX2_sortCells 59 = .ok (.aload_n 0, 1) := by decide +kernel
theorem dX2_sortCells_60 : decode cX2_sortCells 60 = .ok (.getfield 24, 3) := by decide +kernel
theorem dX2_sortCells_63 : decode cX2_sortCells 63 = .ok (.aload_n 0, 1) := by decide +kernel
theorem dX2_sortCells_64 : decode cX2_sortCells 64 = .ok (.getfield 20, 3) := by decide +kernel
theorem dX2_sortCells_67 : decode cX2_sortCells 67 = .ok (.arraylength, 1) := by decide +kernel
theorem dX2_sortCells_68 : decode cX2_sortCells 68 = .ok (.if_icmp .ge 23, 3) := by decide +kernel
theorem dX2_sortCells_71 : decode cX2_sortCells 71 = .ok (.aload_n 0, 1) := by decide +kernel
theorem dX2_sortCells_72 : decode cX2_sortCells 72 = .ok (.getfield 20, 3) := by decide +kernel
theorem dX2_sortCells_75 : decode cX2_sortCells 75 = .ok (.aload_n 0, 1) := by decide +kernel
theorem dX2_sortCells_76 : decode cX2_sortCells 76 = .ok (.getfield 24, 3) := by decide +kernel
theorem dX2_sortCells_79 : decode cX2_sortCells 79 = .ok (.aload_n 3, 1) := by decide +kernel
theorem dX2_sortCells_80 : decode cX2_sortCells 80 = .ok (.aastore, 1) := by decide +kernel
theorem dX2_sortCells_81 : decode cX2_sortCells 81 = .ok (.aload_n 0, 1) := by decide +kernel
theorem dX2_sortCells_82 : decode cX2_sortCells 82 = .ok (.dup, 1) := by decide +kernel
theorem dX2_sortCells_83 : decode cX2_sortCells 83 = .ok (.getfield 24, 3) := by decide +kernel
theorem dX2_sortCells_86 : decode cX2_sortCells 86 = .ok (.iconst 1, 1) := by decide +kernel
theorem dX2_sortCells_87 : decode cX2_sortCells 87 = .ok (.iadd, 1) := by decide +kernel
theorem dX2_sortCells_88 : decode cX2_sortCells 88 = .ok (.putfield 24, 3) := by decide +kernel
theorem dX2_sortCells_91 : decode cX2_sortCells 91 = .ok (.iinc 2 1, 3) := by decide +kernel
theorem dX2_sortCells_94 : decode cX2_sortCells 94 = .ok (.goto (-74), 3) := by decide +kernel
theorem dX2_sortCells_97 : decode cX2_sortCells 97 = .ok (.iinc 1 1, 3) := by decide +kernel
theorem dX2_sortCells_100 : decode cX2_sortCells 100 = .ok (.goto (-93), 3) := by decide +kernel
theorem dX2_sortCells_103 : decode cX2_sortCells 103 = .ok (.return_, 1) := by decide +kernel
theorem dX2_measure_0 : decode cX2_measure 0 = .ok (.aload_n 0, 1) := by decide +kernel
theorem dX2_measure_1 : decode cX2_measure 1 = .ok (.getfield 9, 3) := by decide +kernel
theorem dX2_measure_4 : decode cX2_measure 4 = .ok (.iconst 1, 1) := by decide +kernel
theorem dX2_measure_5 : decode cX2_measure 5 = .ok (.invokestatic 48, 3) := by decide +kernel
theorem dX2_measure_8 : decode cX2_measure 8 = .ok (.aload_n 0, 1) := by decide +kernel
theorem dX2_measure_9 : decode cX2_measure 9 = .ok (.getfield 15, 3) := by decide +kernel
theorem dX2_measure_12 : decode cX2_measure 12 = .ok (.iconst 0, 1) := by decide +kernel
theorem dX2_measure_13 : decode cX2_measure 13 = .ok (.invokestatic 48, 3) := by decide +kernel
theorem dX2_measure_16 : decode cX2_measure 16 = .ok (.iconst 1, 1) := by decide +kernel
theorem dX2_measure_17 : decode cX2_measure 17 = .ok (.istore_n 2, 1) := by decide +kernel
theorem dX2_measure_18 : decode cX2_measure 18 = .ok (.iconst 0, 1) := by decide +kernel
theorem dX2_measure_19 : decode cX2_measure 19 = .ok (.istore_n 3, 1) := by decide +kernel
theorem dX2_measure_20 : decode cX2_measure 20 = .ok (.iload_n 3, 1) := by decide +kernel
theorem dX2_measure_21 : decode cX2_measure 21 = .ok (.aload_n 0, 1) := by decide +kernel
theorem dX2_measure_22 : decode cX2_measure 22 = .ok (.getfield 24, 3) := by decide +kernel
theorem dX2_measure_25 : decode cX2_measure 25 = .ok (.if_icmp .ge 74, 3) := by decide +kernel
theorem dX2_measure_28 : decode cX2_measure 28 = .ok (.iload_n 3, 1) := by decide +kernel
theorem dX2_measure_29 : decode cX2_measure 29 = .ok (.aload_n 0, 1) := by decide +kernel
theorem dX2_measure_30 : decode cX2_measure 30 = .ok (.getfield 20, 3) := by decide +kernel
theorem dX2_measure_33 : decode cX2_measure 33 = .ok (.arraylength, 1) := by decide +kernel
theorem dX2_measure_34 : decode cX2_measure 34 = .ok (.if_icmp .ge 65, 3) := by decide +kernel
theorem dX2_measure_37 : decode cX2_measure 37 = .ok (.aload_n 0, 1) := by decide +kernel
theorem dX2_measure_38 : decode cX2_measure 38 = .ok (.getfield 20, 3) := by decide +kernel
theorem dX2_measure_41 : decode cX2_measure 41 = .ok (.iload_n 3, 1) := by decide +kernel
theorem dX2_measure_42 : decode cX2_measure 42 = .ok (.aaload, 1) := by decide +kernel
theorem dX2_measure_43 : decode cX2_measure 43 = .ok (.astore 4, 2) := by decide +kernel
theorem dX2_measure_45 : decode cX2_measure 45 = .ok (.aload 4, 2) := by decide +kernel
theorem dX2_measure_47 : decode cX2_measure 47 = .ok (.ifnonnull 6, 3) := by decide +kernel
theorem dX2_measure_50 : decode cX2_measure 50 = .ok (.goto 43, 3) := by decide +kernel
theorem dX2_measure_53 : decode cX2_measure 53 = .ok (.aload 4, 2) := by decide +kernel
theorem dX2_measure_55 : decode cX2_measure 55 = .ok (.getfield 44, 3) := by decide +kernel
theorem dX2_measure_58 : decode cX2_measure 58 = .ok (.iload_n 2, 1) := by decide +kernel
theorem dX2_measure_59 : decode cX2_measure 59 = .ok (.if_icmp .eq 13, 3) := by decide +kernel
theorem dX2_measure_62 : decode cX2_measure 62 = .ok (.aload_n 0, 1) := by decide +kernel
theorem dX2_measure_63 : decode cX2_measure 63 = .ok (.invokevirtual 54, 3) := by decide +kernel
theorem dX2_measure_66 : decode cX2_measure 66 = .ok (.aload 4, 2) := by decide +kernel
theorem dX2_measure_68 : decode cX2_measure 68 = .ok (.getfield 44, 3) := by decide +kernel
theorem dX2_measure_71 : decode cX2_measure 71 = .ok (.istore_n 2, 1) := by decide +kernel
theorem dX2_measure_72 : decode cX2_measure 72 = .ok (.aload_n 0, 1) := by decide +kernel
theorem dX2_measure_73 : decode cX2_measure 73 = .ok (.aload 4, 2) := by decide +kernel
theorem dX2_measure_75 : decode cX2_measure 75 = .ok (.aload 4, 2) := by decide +kernel
theorem dX2_measure_77 : decode cX2_measure 77 = .ok (.aload_n 0, 1) := by decide +kernel
theorem dX2_measure_78 : decode cX2_measure 78 = .ok (.getfield 28, 3) := by decide +kernel
theorem dX2_measure_81 : decode cX2_measure 81 = .ok (.aload 4, 2) := by decide +kernel
theorem dX2_measure_83 : decode cX2_measure 83 = .ok (.aload_n 1, 1) := by decide +kernel
theorem dX2_measure_84 : decode cX2_measure 84 = .ok (.invokevirtual 57, 3) := by decide +kernel
theorem dX2_measure_87 : decode cX2_measure 87 = .ok (.invokevirtual 61, 3) := by decide +kernel
theorem dX2_measure_90 : decode cX2_measure 90 = .ok (.invokevirtual 65, 3) := by decide +kernel
theorem dX2_measure_93 : decode cX2_measure 93 = .ok (.iinc 3 1, 3) := by decide +kernel
theorem dX2_measure_96 : decode cX2_measure 96 = .ok (.goto (-76), 3) := by decide +kernel
theorem dX2_measure_99 : decode cX2_measure 99 = .ok (.aload_n 0, 1) := by decide +kernel
theorem dX2_measure_100 : decode cX2_measure 100 = .ok (.invokevirtual 54, 3) := by decide +kernel
theorem dX2_measure_103 : decode cX2_measure 103 = .ok (.aload_n 0, 1) := by decide +kernel
theorem dX2_measure_104 : decode cX2_measure 104 = .ok (.invokevirtual 69, 3) := by decide +kernel
theorem dX2_measure_107 : decode cX2_measure 107 = .ok (.ireturn, 1) := by decide +kernel
theorem dX2_noteLack_0 : decode cX2_noteLack 0 = .ok (.aload_n 1, 1) := by decide +kernel
theorem dX2_noteLack_1 : decode cX2_noteLack 1 = .ok (.getfield 73, 3) := by decide +kernel
theorem dX2_noteLack_4 : decode cX2_noteLack 4 = .ok (.aload_n 1, 1) := by decide +kernel
theorem dX2_noteLack_5 : decode cX2_noteLack 5 = .ok (.getfield 44, 3) := by decide +kernel
theorem dX2_noteLack_8 : decode cX2_noteLack 8 = .ok (.iadd, 1) := by decide +kernel
theorem dX2_noteLack_9 : decode cX2_noteLack 9 = .ok (.aload_n 0, 1) := by decide +kernel
theorem dX2_noteLack_10 : decode cX2_noteLack 10 = .ok (.getfield 9, 3) := by decide +kernel
theorem dX2_noteLack_13 : decode cX2_noteLack 13 = .ok (.arraylength, 1) := by decide +kernel
theorem dX2_noteLack_14 : decode cX2_noteLack 14 = .ok (.invokestatic 76, 3) := by decide +kernel
theorem dX2_noteLack_17 : decode cX2_noteLack 17 = .ok (.istore_n 3, 1) := by decide +kernel
theorem dX2_noteLack_18 : decode cX2_noteLack 18 = .ok (.iload_n 2, 1) := by decide +kernel
theorem dX2_noteLack_19 : decode cX2_noteLack 19 = .ok (.istore 4, 2) := by decide +kernel
theorem dX2_noteLack_21 : decode cX2_noteLack 21 = .ok (.aload_n 1, 1) := by decide +kernel
theorem dX2_noteLack_22 : decode cX2_noteLack 22 = .ok (.getfield 73, 3) := by decide +kernel
theorem dX2_noteLack_25 : decode cX2_noteLack 25 = .ok (.istore 5, 2) := by decide +kernel
theorem dX2_noteLack_27 : decode cX2_noteLack 27 = .ok (.iload 5, 2) := by decide +kernel
theorem dX2_noteLack_29 : decode cX2_noteLack 29 = .ok (.iload_n 3, 1) := by decide +kernel
theorem dX2_noteLack_30 : decode cX2_noteLack 30 = .ok (.if_icmp .ge 21, 3) := by decide +kernel
theorem dX2_noteLack_33 : decode cX2_noteLack 33 = .ok (.iload 4, 2) := by decide +kernel
theorem dX2_noteLack_35 : decode cX2_noteLack 35 = .ok (.aload_n 0, 1) := by decide +kernel
theorem dX2_noteLack_36 : decode cX2_noteLack 36 = .ok (.getfield 9, 3) := by decide +kernel
theorem dX2_noteLack_39 : decode cX2_noteLack 39 = .ok (.iload 5, 2) := by decide +kernel
theorem dX2_noteLack_41 : decode cX2_noteLack 41 = .ok (.iaload, 1) := by decide +kernel
theorem dX2_noteLack_42 : decode cX2_noteLack 42 = .ok (.isub, 1) := by decide +kernel
theorem dX2_noteLack_43 : decode cX2_noteLack 43 = .ok (.istore 4, 2) := by decide +kernel
theorem dX2_noteLack_45 : decode cX2_noteLack 45 = .ok (.iinc 5 1, 3) := by decide +kernel
theorem dX2_noteLack_48 : decode cX2_noteLack 48 = .ok (.goto (-21), 3) := by decide +kernel
theorem dX2_noteLack_51 : decode cX2_noteLack 51 = .ok (.iload_n 3, 1) := by decide +kernel
theorem dX2_noteLack_52 : decode cX2_noteLack 52 = .ok (.ifCond .le 24, 3) := by decide +kernel
theorem dX2_noteLack_55 : decode cX2_noteLack 55 = .ok (.aload_n 0, 1) := by decide +kernel
theorem dX2_noteLack_56 : decode cX2_noteLack 56 = .ok (.getfield 15, 3) := by decide +kernel
theorem dX2_noteLack_59 : decode cX2_noteLack 59 = .ok (.iload_n 3, 1) := by decide +kernel
theorem dX2_noteLack_60 : decode cX2_noteLack 60 = .ok (.iconst 1, 1) := by decide +kernel
theorem dX2_noteLack_61 : decode cX2_noteLack 61 = .ok (.isub, 1) := by decide +kernel
theorem dX2_noteLack_62 : decode cX2_noteLack 62 = .ok (.aload_n 0, 1) := by decide +kernel
theorem dX2_noteLack_63 : decode cX2_noteLack 63 = .ok (.getfield 15, 3) := by decide +kernel
theorem dX2_noteLack_66 : decode cX2_noteLack 66 = .ok (.iload_n 3, 1) := by decide +kernel
theorem dX2_noteLack_67 : decode cX2_noteLack 67 = .ok (.iconst 1, 1) := by decide +kernel
theorem dX2_noteLack_68 : decode cX2_noteLack 68 = .ok (.isub, 1) := by decide +kernel
theorem dX2_noteLack_69 : decode cX2_noteLack 69 = .ok (.iaload, 1) := by decide +kernel
theorem dX2_noteLack_70 : decode cX2_noteLack 70 = .ok (.iload 4, 2) := by decide +kernel
theorem dX2_noteLack_72 : decode cX2_noteLack 72 = .ok (.invokestatic 82, 3) := by decide +kernel
theorem dX2_noteLack_75 : decode cX2_noteLack 75 = .ok (.iastore, 1) := by decide +kernel
theorem dX2_noteLack_76 : decode cX2_noteLack 76 = .ok (.return_, 1) := by decide +kernel
theorem dX2_grow_0 : decode cX2_grow 0 = .ok (.iconst 0, 1) := by decide +kernel
theorem dX2_grow_1 : decode cX2_grow 1 = .ok (.istore_n 1, 1) := by decide +kernel
theorem dX2_grow_2 : decode cX2_grow 2 = .ok (.iload_n 1, 1) := by decide +kernel
theorem dX2_grow_3 : decode cX2_grow 3 = .ok (.aload_n 0, 1) := by decide +kernel
theorem dX2_grow_4 : decode cX2_grow 4 = .ok (.getfield 9, 3) := by decide +kernel
theorem dX2_grow_7 : decode cX2_grow 7 = .ok (.arraylength, 1) := by decide +kernel
theorem dX2_grow_8 : decode cX2_grow 8 = .ok (.if_icmp .ge 31, 3) := by decide +kernel
theorem dX2_grow_11 : decode cX2_grow 11 = .ok (.aload_n 0, 1) := by decide +kernel
theorem dX2_grow_12 : decode cX2_grow 12 = .ok (.getfield 9, 3) := by decide +kernel
theorem dX2_grow_15 : decode cX2_grow 15 = .ok (.iload_n 1, 1) := by decide +kernel
theorem dX2_grow_16 : decode cX2_grow 16 = .ok (.dup2, 1) := by decide +kernel
theorem dX2_grow_17 : decode cX2_grow 17 = .ok (.iaload, 1) := by decide +kernel
theorem dX2_grow_18 : decode cX2_grow 18 = .ok (.aload_n 0, 1) := by decide +kernel
theorem dX2_grow_19 : decode cX2_grow 19 = .ok (.getfield 15, 3) := by decide +kernel
theorem dX2_grow_22 : decode cX2_grow 22 = .ok (.iload_n 1, 1) := by decide +kernel
theorem dX2_grow_23 : decode cX2_grow 23 = .ok (.iaload, 1) := by decide +kernel
theorem dX2_grow_24 : decode cX2_grow 24 = .ok (.iadd, 1) := by decide +kernel
theorem dX2_grow_25 : decode cX2_grow 25 = .ok (.iastore, 1) := by decide +kernel
theorem dX2_grow_26 : decode cX2_grow 26 = .ok (.aload_n 0, 1) := by decide +kernel
theorem dX2_grow_27 : decode cX2_grow 27 = .ok (.getfield 15, 3) := by decide +kernel
theorem dX2_grow_30 : decode cX2_grow 30 = .ok (.iload_n 1, 1) := by decide +kernel
theorem dX2_grow_31 : decode cX2_grow 31 = .ok (.iconst 0, 1) := by decide +kernel
theorem dX2_grow_32 : decode cX2_grow 32 = .ok (.iastore, 1) := by decide +kernel
theorem dX2_grow_33 : decode cX2_grow 33 = .ok (.iinc 1 1, 3) := by decide +kernel
theorem dX2_grow_36 : decode cX2_grow 36 = .ok (.goto (-34), 3) := by decide +kernel
theorem dX2_grow_39 : decode cX2_grow 39 = .ok (.return_, 1) := by decide +kernel
theorem dX2_sum_0 : decode cX2_sum 0 = .ok (.iconst 0, 1) := by decide +kernel
theorem dX2_sum_1 : decode cX2_sum 1 = .ok (.istore_n 1, 1) := by decide +kernel
theorem dX2_sum_2 : decode cX2_sum 2 = .ok (.iconst 0, 1) := by decide +kernel
theorem dX2_sum_3 : decode cX2_sum 3 = .ok (.istore_n 2, 1) := by decide +kernel
theorem dX2_sum_4 : decode cX2_sum 4 = .ok (.iload_n 2, 1) := by decide +kernel
theorem dX2_sum_5 : decode cX2_sum 5 = .ok (.aload_n 0, 1) := by decide +kernel
theorem dX2_sum_6 : decode cX2_sum 6 = .ok (.getfield 28, 3) := by decide +kernel
theorem dX2_sum_9 : decode cX2_sum 9 = .ok (.getfield 32, 3) := by decide +kernel
theorem dX2_sum_12 : decode cX2_sum 12 = .ok (.if_icmp .ge 27, 3) := by decide +kernel
theorem dX2_sum_15 : decode cX2_sum 15 = .ok (.iload_n 2, 1) := by decide +kernel
theorem dX2_sum_16 : decode cX2_sum 16 = .ok (.aload_n 0, 1) := by decide +kernel
theorem dX2_sum_17 : decode cX2_sum 17 = .ok (.getfield 9, 3) := by decide +kernel
theorem dX2_sum_20 : decode cX2_sum 20 = .ok (.arraylength, 1) := by decide +kernel
theorem dX2_sum_21 : decode cX2_sum 21 = .ok (.if_icmp .ge 18, 3) := by decide +kernel
theorem dX2_sum_24 : decode cX2_sum 24 = .ok (.iload_n 1, 1) := by decide +kernel
theorem dX2_sum_25 : decode cX2_sum 25 = .ok (.aload_n 0, 1) := by decide +kernel
theorem dX2_sum_26 : decode cX2_sum 26 = .ok (.getfield 9, 3) := by decide +kernel
theorem dX2_sum_29 : decode cX2_sum 29 = .ok (.iload_n 2, 1) := by decide +kernel
theorem dX2_sum_30 : decode cX2_sum 30 = .ok (.iaload, 1) := by decide +kernel
theorem dX2_sum_31 : decode cX2_sum 31 = .ok (.iadd, 1) := by decide +kernel
theorem dX2_sum_32 : decode cX2_sum 32 = .ok (.istore_n 1, 1) := by decide +kernel
theorem dX2_sum_33 : decode cX2_sum 33 = .ok (.iinc 2 1, 3) := by decide +kernel
theorem dX2_sum_36 : decode cX2_sum 36 = .ok (.goto (-32), 3) := by decide +kernel
theorem dX2_sum_39 : decode cX2_sum 39 = .ok (.iload_n 1, 1) := by decide +kernel
theorem dX2_sum_40 : decode cX2_sum 40 = .ok (.ireturn, 1) := by decide +kernel
theorem dX3_init_0 : decode cX3_init 0 = .ok (.aload_n 0, 1) := by decide +kernel
theorem dX3_init_1 : decode cX3_init 1 = .ok (.invokespecial 3, 3) := by decide +kernel
theorem dX3_init_4 : decode cX3_init 4 = .ok (.aload_n 0, 1) := by decide +kernel
theorem dX3_init_5 : decode cX3_init 5 = .ok (.iconst 0, 1) := by decide +kernel
theorem dX3_init_6 : decode cX3_init 6 = .ok (.putfield 9, 3) := by decide +kernel
theorem dX3_init_9 : decode cX3_init 9 = .ok (.aload_n 0, 1) := by decide +kernel
theorem dX3_init_10 : decode cX3_init 10 = .ok (.bipush 16, 2) := by decide +kernel
theorem dX3_init_12 : decode cX3_init 12 = .ok (.iconst 4, 1) := by decide +kernel
theorem dX3_init_13 : decode cX3_init 13 = .ok (.multianewarray 15 2, 4) := by decide +kernel
theorem dX3_init_17 : decode cX3_init 17 = .ok (.putfield 17, 3) := by decide +kernel
theorem dX3_init_20 : decode cX3_init 20 = .ok (.aload_n 0, 1) := by decide +kernel
theorem dX3_init_21 : decode cX3_init 21 = .ok (.bipush 16, 2) := by decide +kernel
theorem dX3_init_23 : decode cX3_init 23 = .ok (.newarray .int, 2) := by decide +kernel
theorem dX3_init_25 : decode cX3_init 25 = .ok (.putfield 20, 3) := by decide +kernel
theorem dX3_init_28 : decode cX3_init 28 = .ok (.aload_n 0, 1) := by decide +kernel
theorem dX3_init_29 : decode cX3_init 29 = .ok (.bipush 16, 2) := by decide +kernel
theorem dX3_init_31 : decode cX3_init 31 = .ok (.newarray .int, 2) := by decide +kernel
theorem dX3_init_33 : decode cX3_init 33 = .ok (.putfield 24, 3) := by decide +kernel
theorem dX3_init_36 : decode cX3_init 36 = .ok (.aload_n 0, 1) := by decide +kernel
theorem dX3_init_37 : decode cX3_init 37 = .ok (.bipush 17, 2) := by decide +kernel
theorem dX3_init_39 : decode cX3_init 39 = .ok (.newarray .int, 2) := by decide +kernel
theorem dX3_init_41 : decode cX3_init 41 = .ok (.putfield 27, 3) := by decide +kernel
theorem dX3_init_44 : decode cX3_init 44 = .ok (.aload_n 0, 1) := by decide +kernel
theorem dX3_init_45 : decode cX3_init 45 = .ok (.bipush 17, 2) := by decide +kernel
theorem dX3_init_47 : decode cX3_init 47 = .ok (.newarray .int, 2) := by decide +kernel
theorem dX3_init_49 : decode cX3_init 49 = .ok (.putfield 30, 3) := by decide +kernel
theorem dX3_init_52 : decode cX3_init 52 = .ok (.aload_n 0, 1) := by decide +kernel
theorem dX3_init_53 : decode cX3_init 53 = .ok (.bipush 17, 2) := by decide +kernel
theorem dX3_init_55 : decode cX3_init 55 = .ok (.newarray .int, 2) := by decide +kernel
theorem dX3_init_57 : decode cX3_init 57 = .ok (.putfield 33, 3) := by decide +kernel
theorem dX3_init_60 : decode cX3_init 60 = .ok (.aload_n 0, 1) := by decide +kernel
theorem dX3_init_61 : decode cX3_init 61 = .ok (.aload_n 1, 1) := by decide +kernel
theorem dX3_init_62 : decode cX3_init 62 = .ok (.putfield 36, 3) := by decide +kernel
theorem dX3_init_65 : decode cX3_init 65 = .ok (.aload_n 0, 1) := by decide +kernel
theorem dX3_init_66 : decode cX3_init 66 = .ok (.aload_n 2, 1) := by decide +kernel
theorem dX3_init_67 : decode cX3_init 67 = .ok (.putfield 40, 3) := by decide +kernel
theorem dX3_init_70 : decode cX3_init 70 = .ok (.return_, 1) := by decide +kernel
theorem dX3_forget_0 : decode cX3_forget 0 = .ok (.aload_n 0, 1) := by decide +kernel
theorem dX3_forget_1 : decode cX3_forget 1 = .ok (.iconst 0, 1) := by decide +kernel
theorem dX3_forget_2 : decode cX3_forget 2 = .ok (.putfield 9, 3) := by decide +kernel
theorem dX3_forget_5 : decode cX3_forget 5 = .ok (.return_, 1) := by decide +kernel
theorem dX3_make_0 : decode cX3_make 0 = .ok (.aload_n 0, 1) := by decide +kernel
theorem dX3_make_1 : decode cX3_make 1 = .ok (.iconst 0, 1) := by decide +kernel
theorem dX3_make_2 : decode cX3_make 2 = .ok (.putfield 9, 3) := by decide +kernel
theorem dX3_make_5 : decode cX3_make 5 = .ok (.aload_n 0, 1) := by decide +kernel
theorem dX3_make_6 : decode cX3_make 6 = .ok (.aload_n 0, 1) := by decide +kernel
theorem dX3_make_7 : decode cX3_make 7 = .ok (.getfield 36, 3) := by decide +kernel
theorem dX3_make_10 : decode cX3_make 10 = .ok (.invokevirtual 44, 3) := by decide +kernel
theorem dX3_make_13 : decode cX3_make 13 = .ok (.putfield 50, 3) := by decide +kernel
theorem dX3_make_16 : decode cX3_make 16 = .ok (.aload_n 0, 1) := by decide +kernel
theorem dX3_make_17 : decode cX3_make 17 = .ok (.aload_n 0, 1) := by decide +kernel
theorem dX3_make_18 : decode cX3_make 18 = .ok (.getfield 36, 3) := by decide +kernel
theorem dX3_make_21 : decode cX3_make 21 = .ok (.getfield 53, 3) := by decide +kernel
theorem dX3_make_24 : decode cX3_make 24 = .ok (.bipush 16, 2) := by decide +kernel
theorem dX3_make_26 : decode cX3_make 26 = .ok (.invokestatic 56, 3) := by decide +kernel
theorem dX3_make_29 : decode cX3_make 29 = .ok (.putfield 62, 3) := by decide +kernel
theorem dX3_make_32 : decode cX3_make 32 = .ok (.aload_n 0, 1) := by decide +kernel
theorem dX3_make_33 : decode cX3_make 33 = .ok (.getfield 50, 3) := by decide +kernel
theorem dX3_make_36 : decode cX3_make 36 = .ok (.aload_n 0, 1) := by decide +kernel
theorem dX3_make_37 : decode cX3_make 37 = .ok (.getfield 62, 3) := by decide +kernel
theorem dX3_make_40 : decode cX3_make 40 = .ok (.if_icmp .lt 5, 3) := by decide +kernel
theorem dX3_make_43 : decode cX3_make 43 = .ok (.iconst 0, 1) := by decide +kernel
theorem dX3_make_44 : decode cX3_make 44 = .ok (.ireturn, 1) := by decide +kernel
theorem dX3_make_45 : decode cX3_make 45 = .ok (.aload_n 0, 1) := by decide +kernel
theorem dX3_make_46 : decode cX3_make 46 = .ok (.iload_n 1, 1) := by decide +kernel
theorem dX3_make_47 : decode cX3_make 47 = .ok (.putfield 65, 3) := by decide +kernel
theorem dX3_make_50 : decode cX3_make 50 = .ok (.iconst 0, 1) := by decide +kernel
theorem dX3_make_51 : decode cX3_make 51 = .ok (.istore_n 2, 1) := by decide +kernel
theorem dX3_make_52 : decode cX3_make 52 = .ok (.iload_n 2, 1) := by decide +kernel
theorem dX3_make_53 : decode cX3_make 53 = .ok (.aload_n 0, 1) := by decide +kernel
theorem dX3_make_54 : decode cX3_make 54 = .ok (.getfield 50, 3) := by decide +kernel
theorem dX3_make_57 : decode cX3_make 57 = .ok (.if_icmp .ge 27, 3) := by decide +kernel
theorem dX3_make_60 : decode cX3_make 60 = .ok (.aload_n 0, 1) := by decide +kernel
theorem dX3_make_61 : decode cX3_make 61 = .ok (.dup, 1) := by decide +kernel
theorem dX3_make_62 : decode cX3_make 62 = .ok (.getfield 65, 3) := by decide +kernel
theorem dX3_make_65 : decode cX3_make 65 = .ok (.aload_n 0, 1) := by decide +kernel
theorem dX3_make_66 : decode cX3_make 66 = .ok (.getfield 40, 3) := by decide +kernel
theorem dX3_make_69 : decode cX3_make 69 = .ok (.getfield 68, 3) := by decide +kernel
theorem dX3_make_72 : decode cX3_make 72 = .ok (.iload_n 2, 1) := by decide +kernel
theorem dX3_make_73 : decode cX3_make 73 = .ok (.iaload, 1) := by decide +kernel
theorem dX3_make_74 : decode cX3_make 74 = .ok (.isub, 1) := by decide +kernel
theorem dX3_make_75 : decode cX3_make 75 = .ok (.putfield 65, 3) := by decide +kernel
theorem dX3_make_78 : decode cX3_make 78 = .ok (.iinc 2 1, 3) := by decide +kernel
theorem dX3_make_81 : decode cX3_make 81 = .ok (.goto (-29), 3) := by decide +kernel
theorem dX3_make_84 : decode cX3_make 84 = .ok (.aload_n 0, 1) := by decide +kernel
theorem dX3_make_85 : decode cX3_make 85 = .ok (.invokevirtual 73, 3) := by decide +kernel
theorem dX3_make_88 : decode cX3_make 88 = .ok (.aload_n 0, 1) := by decide +kernel
theorem dX3_make_89 : decode cX3_make 89 = .ok (.getfield 27, 3) := by decide +kernel
theorem dX3_make_92 : decode cX3_make 92 = .ok (.iconst 0, 1) := by decide +kernel
theorem dX3_make_93 : decode cX3_make 93 = .ok (.invokestatic 76, 3) := by decide +kernel
theorem dX3_make_96 : decode cX3_make 96 = .ok (.aload_n 0, 1) := by decide +kernel
theorem dX3_make_97 : decode cX3_make 97 = .ok (.getfield 30, 3) := by decide +kernel
theorem dX3_make_100 : decode cX3_make 100 = .ok (.iconst 0, 1) := by decide +kernel
theorem dX3_make_101 : decode cX3_make 101 = .ok (.invokestatic 76, 3) := by decide +kernel
theorem dX3_make_104 : decode cX3_make 104 = .ok (.aload_n 0, 1) := by decide +kernel
theorem dX3_make_105 : decode cX3_make 105 = .ok (.getfield 62, 3) := by decide +kernel
theorem dX3_make_108 : decode cX3_make 108 = .ok (.iconst 1, 1) := by decide +kernel
theorem dX3_make_109 : decode cX3_make 109 = .ok (.isub, 1) := by decide +kernel
theorem dX3_make_110 : decode cX3_make 110 = .ok (.istore_n 2, 1) := by decide +kernel
theorem dX3_make_111 : decode cX3_make 111 = .ok (.iload_n 2, 1) := by decide +kernel
theorem dX3_make_112 : decode cX3_make 112 = .ok (.aload_n 0, 1) := by decide +kernel
theorem dX3_make_113 : decode cX3_make 113 = .ok (.getfield 50, 3) := by decide +kernel
theorem dX3_make_116 : decode cX3_make 116 = .ok (.if_icmp .lt 37, 3) := by decide +kernel
theorem dX3_make_119 : decode cX3_make 119 = .ok (.iload_n 2, 1) := by decide +kernel
theorem dX3_make_120 : decode cX3_make 120 = .ok (.aload_n 0, 1) := by decide +kernel
theorem dX3_make_121 : decode cX3_make 121 = .ok (.getfield 50, 3) := by decide +kernel
theorem dX3_make_124 : decode cX3_make 124 = .ok (.if_icmp .eq 18, 3) := by decide +kernel
theorem dX3_make_127 : decode cX3_make 127 = .ok (.aload_n 0, 1) := by decide +kernel
theorem dX3_make_128 : decode cX3_make 128 = .ok (.getfield 36, 3) := by decide +kernel
theorem dX3_make_131 : decode cX3_make 131 = .ok (.iload_n 2, 1) := by decide +kernel
theorem dX3_make_132 : decode cX3_make 132 = .ok (.aload_n 0, 1) := by decide +kernel
theorem dX3_make_133 : decode cX3_make 133 = .ok (.getfield 50, 3) := by decide +kernel
theorem dX3_make_136 : decode cX3_make 136 = .ok (.invokevirtual 82, 3) := by decide +kernel
theorem dX3_make_139 : decode cX3_make 139 = .ok (.ifCond .eq 8, 3) := by decide +kernel
theorem dX3_make_142 : decode cX3_make 142 = .ok (.aload_n 0, 1) := by decide +kernel
theorem dX3_make_143 : decode cX3_make 143 = .ok (.iload_n 2, 1) := by decide +kernel
theorem dX3_make_144 : decode cX3_make 144 = .ok (.invokevirtual 86, 3) := by decide +kernel
theorem dX3_make_147 : decode cX3_make 147 = .ok (.iinc 2 (-1), 3) := by decide +kernel
theorem dX3_make_150 : decode cX3_make 150 = .ok (.goto (-39), 3) := by decide +kernel
theorem dX3_make_153 : decode cX3_make 153 = .ok (.aload_n 0, 1) := by decide +kernel
theorem dX3_make_154 : decode cX3_make 154 = .ok (.getfield 27, 3) := by decide +kernel
theorem dX3_make_157 : decode cX3_make 157 = .ok (.aload_n 0, 1) := by decide +kernel
theorem dX3_make_158 : decode cX3_make 158 = .ok (.getfield 50, 3) := by decide +kernel
theorem dX3_make_161 : decode cX3_make 161 = .ok (.iaload, 1) := by decide +kernel
theorem dX3_make_162 : decode cX3_make 162 = .ok (.ifCond .ne 6, 3) := by decide +kernel
theorem dX3_make_165 : decode cX3_make 165 = .ok (.bipush (-9), 2) := by decide +kernel
theorem dX3_make_167 : decode cX3_make 167 = .ok (.ireturn, 1) := by decide +kernel
theorem dX3_make_168 : decode cX3_make 168 = .ok (.aload_n 0, 1) := by decide +kernel
theorem dX3_make_169 : decode cX3_make 169 = .ok (.invokevirtual 90, 3) := by decide +kernel
theorem dX3_make_172 : decode cX3_make 172 = .ok (.aload_n 0, 1) := by decide +kernel
theorem dX3_make_173 : decode cX3_make 173 = .ok (.getfield 9, 3) := by decide +kernel
theorem dX3_make_176 : decode cX3_make 176 = .ok (.ireturn, 1) := by decide +kernel
theorem dX3_findHomes_0 : decode cX3_findHomes 0 = .ok (.aload_n 0, 1) := by decide +kernel
theorem dX3_findHomes_1 : decode cX3_findHomes 1 = .ok (.getfield 20, 3) := by decide +kernel
theorem dX3_findHomes_4 : decode cX3_findHomes 4 = .ok (.iconst 0, 1) := by decide +kernel
theorem dX3_findHomes_5 : decode cX3_findHomes 5 = .ok (.invokestatic 76, 3) := by decide +kernel
theorem dX3_findHomes_8 : decode cX3_findHomes 8 = .ok (.aload_n 0, 1) := by decide +kernel
theorem dX3_findHomes_9 : decode cX3_findHomes 9 = .ok (.getfield 24, 3) := by decide +kernel
theorem dX3_findHomes_12 : decode cX3_findHomes 12 = .ok (.iconst 0, 1) := by decide +kernel
theorem dX3_findHomes_13 : decode cX3_findHomes 13 = .ok (.invokestatic 76, 3) := by decide +kernel
theorem dX3_findHomes_16 : decode cX3_findHomes 16 = .ok (.iconst 0, 1) := by decide +kernel
theorem dX3_findHomes_17 : decode cX3_findHomes 17 = .ok (.istore_n 1, 1) := by decide +kernel
theorem dX3_findHomes_18 : decode cX3_findHomes 18 = .ok (.iload_n 1, 1) := by decide +kernel
theorem dX3_findHomes_19 : decode cX3_findHomes 19 = .ok (.bipush 10, 2) := by decide +kernel
theorem dX3_findHomes_21 : decode cX3_findHomes 21 = .ok (.if_icmp .ge 71, 3) := by decide +kernel
theorem dX3_findHomes_24 : decode cX3_findHomes 24 = .ok (.aload_n 0, 1) := by decide +kernel
theorem dX3_findHomes_25 : decode cX3_findHomes 25 = .ok (.getfield 36, 3) := by decide +kernel
theorem dX3_findHomes_28 : decode cX3_findHomes 28 = .ok (.iload_n 1, 1) := by decide +kernel
theorem dX3_findHomes_29 : decode cX3_findHomes 29 = .ok (.invokevirtual 93, 3) := by decide +kernel
theorem dX3_findHomes_32 : decode cX3_findHomes 32 = .ok (.istore_n 2, 1) := by decide +kernel
theorem dX3_findHomes_33 : decode cX3_findHomes 33 = .ok (.iload_n 2, 1) := by decide +kernel
theorem dX3_findHomes_34 : decode cX3_findHomes 34 = .ok (.aload_n 0, 1) := by decide +kernel
theorem dX3_findHomes_35 : decode cX3_findHomes 35 = .ok (.getfield 50, 3) := by decide +kernel
theorem dX3_findHomes_38 : decode cX3_findHomes 38 = .ok (.invokestatic 97, 3) := by decide +kernel
theorem dX3_findHomes_41 : decode cX3_findHomes 41 = .ok (.istore_n 3, 1) := by decide +kernel
theorem dX3_findHomes_42 : decode cX3_findHomes 42 = .ok (.iload_n 2, 1) := by decide +kernel
theorem dX3_findHomes_43 : decode cX3_findHomes 43 = .ok (.bipush (-9), 2) := by decide +kernel
theorem dX3_findHomes_45 : decode cX3_findHomes 45 = .ok (.if_icmp .eq 41, 3) := by decide +kernel
theorem dX3_findHomes_48 : decode cX3_findHomes 48 = .ok (.iload_n 3, 1) := by decide +kernel
theorem dX3_findHomes_49 : decode cX3_findHomes 49 = .ok (.aload_n 0, 1) := by decide +kernel
theorem dX3_findHomes_50 : decode cX3_findHomes 50 = .ok (.getfield 62, 3) := by decide +kernel
theorem dX3_findHomes_53 : decode cX3_findHomes 53 = .ok (.if_icmp .ge 33, 3) := by decide +kernel
theorem dX3_findHomes_56 : decode cX3_findHomes 56 = .ok (.aload_n 0, 1) := by decide +kernel
theorem dX3_findHomes_57 : decode cX3_findHomes 57 = .ok (.getfield 20, 3) := by decide +kernel
theorem dX3_findHomes_60 : decode cX3_findHomes 60 = .ok (.iload_n 3, 1) := by decide +kernel
theorem dX3_findHomes_61 : decode cX3_findHomes 61 = .ok (.dup2, 1) := by decide +kernel
theorem dX3_findHomes_62 : decode cX3_findHomes 62 = .ok (.iaload, 1) := by decide +kernel
theorem dX3_findHomes_63 : decode cX3_findHomes 63 = .ok (.iconst 1, 1) := by decide +kernel
theorem dX3_findHomes_64 : decode cX3_findHomes 64 = .ok (.iload_n 1, 1) := by decide +kernel
theorem dX3_findHomes_65 : decode cX3_findHomes 65 = .ok (.ishl, 1) := by decide +kernel
theorem dX3_findHomes_66 : decode cX3_findHomes 66 = .ok (.ior, 1) := by decide +kernel
theorem dX3_findHomes_67 : decode cX3_findHomes 67 = .ok (.iastore, 1) := by decide +kernel
theorem dX3_findHomes_68 : decode cX3_findHomes 68 = .ok (.aload_n 0, 1) := by decide +kernel
theorem dX3_findHomes_69 : decode cX3_findHomes 69 = .ok (.getfield 24, 3) := by decide +kernel
theorem dX3_findHomes_72 : decode cX3_findHomes 72 = .ok (.iload_n 3, 1) := by decide +kernel
theorem dX3_findHomes_73 : decode cX3_findHomes 73 = .ok (.dup2, 1) := by decide +kernel
theorem dX3_findHomes_74 : decode cX3_findHomes 74 = .ok (.iaload, 1) := by decide +kernel
theorem dX3_findHomes_75 : decode cX3_findHomes 75 = .ok (.aload_n 0, 1) := by decide +kernel
theorem dX3_findHomes_76 : decode cX3_findHomes 76 = .ok (.getfield 36, 3) := by decide +kernel
theorem dX3_findHomes_79 : decode cX3_findHomes 79 = .ok (.getfield 100, 3) := by decide +kernel
theorem dX3_findHomes_82 : decode cX3_findHomes 82 = .ok (.iload_n 1, 1) := by decide +kernel
theorem dX3_findHomes_83 : decode cX3_findHomes 83 = .ok (.iaload, 1) := by decide +kernel
theorem dX3_findHomes_84 : decode cX3_findHomes 84 = .ok (.iadd, 1) := by decide +kernel
theorem dX3_findHomes_85 : decode cX3_findHomes 85 = .ok (.iastore, 1) := by decide +kernel
theorem dX3_findHomes_86 : decode cX3_findHomes 86 = .ok (.iinc 1 1, 3) := by decide +kernel
theorem dX3_findHomes_89 : decode cX3_findHomes 89 = .ok (.goto (-71), 3) := by decide +kernel
theorem dX3_findHomes_92 : decode cX3_findHomes 92 = .ok (.return_, 1) := by decide +kernel
theorem dX3_planFrom_0 : decode cX3_planFrom 0 = .ok (.aload_n 0, 1) := by decide +kernel
theorem dX3_planFrom_1 : decode cX3_planFrom 1 = .ok (.getfield 65, 3) := by decide +kernel
theorem dX3_planFrom_4 : decode cX3_planFrom 4 = .ok (.istore_n 2, 1) := by decide +kernel
theorem dX3_planFrom_5 : decode cX3_planFrom 5 = .ok (.iload_n 1, 1) := by decide +kernel
theorem dX3_planFrom_6 : decode cX3_planFrom 6 = .ok (.iconst 1, 1) := by decide +kernel
theorem dX3_planFrom_7 : decode cX3_planFrom 7 = .ok (.iadd, 1) := by decide +kernel
theorem dX3_planFrom_8 : decode cX3_planFrom 8 = .ok (.istore_n 3, 1) := by decide +kernel
theorem dX3_planFrom_9 : decode cX3_planFrom 9 = .ok (.iload_n 3, 1) := by decide +kernel
theorem dX3_planFrom_10 : decode cX3_planFrom 10 = .ok (.aload_n 0, 1) := by decide +kernel
theorem dX3_planFrom_11 : decode cX3_planFrom 11 = .ok (.getfield 62, 3) := by decide +kernel
theorem dX3_planFrom_14 : decode cX3_planFrom 14 = .ok (.if_icmp .gt 81, 3) := by decide +kernel
theorem dX3_planFrom_17 : decode cX3_planFrom 17 = .ok (.iload_n 2, 1) := by decide +kernel
theorem dX3_planFrom_18 : decode cX3_planFrom 18 = .ok (.aload_n 0, 1) := by decide +kernel
theorem dX3_planFrom_19 : decode cX3_planFrom 19 = .ok (.getfield 40, 3) := by decide +kernel
theorem dX3_planFrom_22 : decode cX3_planFrom 22 = .ok (.getfield 68, 3) := by decide +kernel
theorem dX3_planFrom_25 : decode cX3_planFrom 25 = .ok (.iload_n 3, 1) := by decide +kernel
theorem dX3_planFrom_26 : decode cX3_planFrom 26 = .ok (.iconst 1, 1) := by decide +kernel
theorem dX3_planFrom_27 : decode cX3_planFrom 27 = .ok (.isub, 1) := by decide +kernel
theorem dX3_planFrom_28 : decode cX3_planFrom 28 = .ok (.iaload, 1) := by decide +kernel
theorem dX3_planFrom_29 : decode cX3_planFrom 29 = .ok (.aload_n 0, 1) := by decide +kernel
theorem dX3_planFrom_30 : decode cX3_planFrom 30 = .ok (.getfield 24, 3) := by decide +kernel
theorem dX3_planFrom_33 : decode cX3_planFrom 33 = .ok (.iload_n 3, 1) := by decide +kernel
theorem dX3_planFrom_34 : decode cX3_planFrom 34 = .ok (.iconst 1, 1) := by decide +kernel
theorem dX3_planFrom_35 : decode cX3_planFrom 35 = .ok (.isub, 1) := by decide +kernel
theorem dX3_planFrom_36 : decode cX3_planFrom 36 = .ok (.iaload, 1) := by decide +kernel
theorem dX3_planFrom_37 : decode cX3_planFrom 37 = .ok (.iadd, 1) := by decide +kernel
theorem dX3_planFrom_38 : decode cX3_planFrom 38 = .ok (.isub, 1) := by decide +kernel
theorem dX3_planFrom_39 : decode cX3_planFrom 39 = .ok (.istore_n 2, 1) := by decide +kernel
theorem dX3_planFrom_40 : decode cX3_planFrom 40 = .ok (.iload_n 3, 1) := by decide +kernel
theorem dX3_planFrom_41 : decode cX3_planFrom 41 = .ok (.aload_n 0, 1) := by decide +kernel
theorem dX3_planFrom_42 : decode cX3_planFrom 42 = .ok (.getfield 62, 3) := by decide +kernel
theorem dX3_planFrom_45 : decode cX3_planFrom 45 = .ok (.if_icmp .eq 12, 3) := by decide +kernel
theorem dX3_planFrom_48 : decode cX3_planFrom 48 = .ok (.aload_n 0, 1) := by decide +kernel
theorem dX3_planFrom_49 : decode cX3_planFrom 49 = .ok (.getfield 27, 3) := by decide +kernel
theorem dX3_planFrom_52 : decode cX3_planFrom 52 = .ok (.iload_n 3, 1) := by decide +kernel
theorem dX3_planFrom_53 : decode cX3_planFrom 53 = .ok (.iaload, 1) := by decide +kernel
theorem dX3_planFrom_54 : decode cX3_planFrom 54 = .ok (.ifCond .le 7, 3) := by decide +kernel
theorem dX3_planFrom_57 : decode cX3_planFrom 57 = .ok (.iconst 1, 1) := by decide +kernel
theorem dX3_planFrom_58 : decode cX3_planFrom 58 = .ok (.goto 4, 3) := by decide +kernel
theorem dX3_planFrom_61 : decode cX3_planFrom 61 = .ok (.iconst 0, 1) := by decide +kernel
theorem dX3_planFrom_62 : decode cX3_planFrom 62 = .ok (.istore 4, 2) := by decide +kernel
theorem dX3_planFrom_64 : decode cX3_planFrom 64 = .ok (.iload_n 2, 1) := by decide +kernel
theorem dX3_planFrom_65 : decode cX3_planFrom 65 = .ok (.ifCond .lt 24, 3) := by decide +kernel
theorem dX3_planFrom_68 : decode cX3_planFrom 68 = .ok (.iload 4, 2) := by decide +kernel
theorem dX3_planFrom_70 : decode cX3_planFrom 70 = .ok (.ifCond .eq 19, 3) := by decide +kernel
theorem dX3_planFrom_73 : decode cX3_planFrom 73 = .ok (.aload_n 0, 1) := by decide +kernel
theorem dX3_planFrom_74 : decode cX3_planFrom 74 = .ok (.iload_n 1, 1) := by decide +kernel
theorem dX3_planFrom_75 : decode cX3_planFrom 75 = .ok (.iload_n 3, 1) := by decide +kernel
theorem dX3_planFrom_76 : decode cX3_planFrom 76 = .ok (.invokevirtual 103, 3) := by decide +kernel
theorem dX3_planFrom_79 : decode cX3_planFrom 79 = .ok (.ifCond .ne 10, 3) := by decide +kernel
theorem dX3_planFrom_82 : decode cX3_planFrom 82 = .ok (.aload_n 0, 1) := by decide +kernel
theorem dX3_planFrom_83 : decode cX3_planFrom 83 = .ok (.iload_n 1, 1) := by decide +kernel
theorem dX3_planFrom_84 : decode cX3_planFrom 84 = .ok (.iload_n 3, 1) := by decide +kernel
theorem dX3_planFrom_85 : decode cX3_planFrom 85 = .ok (.iload_n 2, 1) := by decide +kernel
theorem dX3_planFrom_86 : decode cX3_planFrom 86 = .ok (.invokevirtual 106, 3) := by decide +kernel
theorem dX3_planFrom_89 : decode cX3_planFrom 89 = .ok (.iinc 3 1, 3) := by decide +kernel
theorem dX3_planFrom_92 : decode cX3_planFrom 92 = .ok (.goto (-83), 3) := by decide +kernel
theorem dX3_planFrom_95 : decode cX3_planFrom 95 = .ok (.return_, 1) := by decide +kernel
theorem dX3_isAlone_0 : decode cX3_isAlone 0 = .ok (.iload_n 2, 1) := by decide +kernel
theorem dX3_isAlone_1 : decode cX3_isAlone 1 = .ok (.iload_n 1, 1) := by decide +kernel
theorem dX3_isAlone_2 : decode cX3_isAlone 2 = .ok (.isub, 1) := by decide +kernel
theorem dX3_isAlone_3 : decode cX3_isAlone 3 = .ok (.iconst 1, 1) := by decide +kernel
theorem dX3_isAlone_4 : decode cX3_isAlone 4 = .ok (.if_icmp .ne 33, 3) := by decide +kernel
theorem dX3_isAlone_7 : decode cX3_isAlone 7 = .ok (.aload_n 0, 1) := by decide +kernel
theorem dX3_isAlone_8 : decode cX3_isAlone 8 = .ok (.getfield 40, 3) := by decide +kernel
theorem dX3_isAlone_11 : decode cX3_isAlone 11 = .ok (.getfield 68, 3) := by decide +kernel
theorem dX3_isAlone_14 : decode cX3_isAlone 14 = .ok (.iload_n 1, 1) := by decide +kernel
theorem dX3_isAlone_15 : decode cX3_isAlone 15 = .ok (.iaload, 1) := by decide +kernel
theorem dX3_isAlone_16 : decode cX3_isAlone 16 = .ok (.iconst 1, 1) := by decide +kernel
theorem dX3_isAlone_17 : decode cX3_isAlone 17 = .ok (.if_icmp .ne 20, 3) := by decide +kernel
theorem dX3_isAlone_20 : decode cX3_isAlone 20 = .ok (.aload_n 0, 1) := by decide +kernel
theorem dX3_isAlone_21 : decode cX3_isAlone 21 = .ok (.getfield 62, 3) := by decide +kernel
theorem dX3_isAlone_24 : decode cX3_isAlone 24 = .ok (.aload_n 0, 1) := by decide +kernel
theorem dX3_isAlone_25 : decode cX3_isAlone 25 = .ok (.getfield 50, 3) := by decide +kernel
theorem dX3_isAlone_28 : decode cX3_isAlone 28 = .ok (.isub, 1) := by decide +kernel
theorem dX3_isAlone_29 : decode cX3_isAlone 29 = .ok (.iconst 1, 1) := by decide +kernel
theorem dX3_isAlone_30 : decode cX3_isAlone 30 = .ok (.if_icmp .le 7, 3) := by decide +kernel
theorem dX3_isAlone_33 : decode cX3_isAlone 33 = .ok (.iconst 1, 1) := by decide +kernel
theorem dX3_isAlone_34 : decode cX3_isAlone 34 = .ok (.goto 4, 3) := by decide +kernel
theorem dX3_isAlone_37 : decode cX3_isAlone 37 = .ok (.iconst 0, 1) := by decide +kernel
theorem dX3_isAlone_38 : decode cX3_isAlone 38 = .ok (.ireturn, 1) := by decide +kernel
theorem dX3_weigh_0 : decode cX3_weigh 0 = .ok (.iconst 1, 1) := by decide +kernel
theorem dX3_weigh_1 : decode cX3_weigh 1 = .ok (.aload_n 0, 1) := by decide +kernel
theorem dX3_weigh_2 : decode cX3_weigh 2 = .ok (.getfield 27, 3) := by decide +kernel
theorem dX3_weigh_5 : decode cX3_weigh 5 = .ok (.iload_n 2, 1) := by decide +kernel
theorem dX3_weigh_6 : decode cX3_weigh 6 = .ok (.iaload, 1) := by decide +kernel
theorem dX3_weigh_7 : decode cX3_weigh 7 = .ok (.iadd, 1) := by decide +kernel
theorem dX3_weigh_8 : decode cX3_weigh 8 = .ok (.istore 4, 2) := by decide +kernel
theorem dX3_weigh_10 : decode cX3_weigh 10 = .ok (.iload_n 2, 1) := by decide +kernel
theorem dX3_weigh_11 : decode cX3_weigh 11 = .ok (.aload_n 0, 1) := by decide +kernel
theorem dX3_weigh_12 : decode cX3_weigh 12 = .ok (.getfield 62, 3) := by decide +kernel
theorem dX3_weigh_15 : decode cX3_weigh 15 = .ok (.if_icmp .ne 7, 3) := by decide +kernel
theorem dX3_weigh_18 : decode cX3_weigh 18 = .ok (.iconst 0, 1) := by decide +kernel
theorem dX3_weigh_19 : decode cX3_weigh 19 = .ok (.goto 13, 3) := by decide +kernel
theorem dX3_weigh_22 : decode cX3_weigh 22 = .ok (.aload_n 0, 1) := by decide +kernel
theorem dX3_weigh_23 : decode cX3_weigh 23 = .ok (.getfield 30, 3) := by decide +kernel
theorem dX3_weigh_26 : decode cX3_weigh 26 = .ok (.iload_n 2, 1) := by decide +kernel
theorem dX3_weigh_27 : decode cX3_weigh 27 = .ok (.iaload, 1) := by decide +kernel
theorem dX3_weigh_28 : decode cX3_weigh 28 = .ok (.iload_n 3, 1) := by decide +kernel
theorem dX3_weigh_29 : decode cX3_weigh 29 = .ok (.iload_n 3, 1) := by decide +kernel
theorem dX3_weigh_30 : decode cX3_weigh 30 = .ok (.imul, 1) := by decide +kernel
theorem dX3_weigh_31 : decode cX3_weigh 31 = .ok (.iadd, 1) := by decide +kernel
theorem dX3_weigh_32 : decode cX3_weigh 32 = .ok (.istore 5, 2) := by decide +kernel
theorem dX3_weigh_34 : decode cX3_weigh 34 = .ok (.aload_n 0, 1) := by decide +kernel
theorem dX3_weigh_35 : decode cX3_weigh 35 = .ok (.getfield 27, 3) := by decide +kernel
theorem dX3_weigh_38 : decode cX3_weigh 38 = .ok (.iload_n 1, 1) := by decide +kernel
theorem dX3_weigh_39 : decode cX3_weigh 39 = .ok (.iaload, 1) := by decide +kernel
theorem dX3_weigh_40 : decode cX3_weigh 40 = .ok (.ifCond .ne 7, 3) := by decide +kernel
theorem dX3_weigh_43 : decode cX3_weigh 43 = .ok (.iconst 1, 1) := by decide +kernel
theorem dX3_weigh_44 : decode cX3_weigh 44 = .ok (.goto 4, 3) := by decide +kernel
theorem dX3_weigh_47 : decode cX3_weigh 47 = .ok (.iconst 0, 1) := by decide +kernel
theorem dX3_weigh_48 : decode cX3_weigh 48 = .ok (.istore 6, 2) := by decide +kernel
theorem dX3_weigh_50 : decode cX3_weigh 50 = .ok (.iload 6, 2) := by decide +kernel
theorem dX3_weigh_52 : decode cX3_weigh 52 = .ok (.ifCond .ne 36, 3) := by decide +kernel
theorem dX3_weigh_55 : decode cX3_weigh 55 = .ok (.iload 4, 2) := by decide +kernel
theorem dX3_weigh_57 : decode cX3_weigh 57 = .ok (.aload_n 0, 1) := by decide +kernel
theorem dX3_weigh_58 : decode cX3_weigh 58 = .ok (.getfield 27, 3) := by decide +kernel
theorem dX3_weigh_61 : decode cX3_weigh 61 = .ok (.iload_n 1, 1) := by decide +kernel
theorem dX3_weigh_62 : decode cX3_weigh 62 = .ok (.iaload, 1) := by decide +kernel
theorem dX3_weigh_63 : decode cX3_weigh 63 = .ok (.if_icmp .lt 25, 3) := by decide +kernel
theorem dX3_weigh_66 : decode cX3_weigh 66 = .ok (.iload 4, 2) := by decide +kernel
theorem dX3_weigh_68 : decode cX3_weigh 68 = .ok (.aload_n 0, 1) := by decide +kernel
theorem dX3_weigh_69 : decode cX3_weigh 69 = .ok (.getfield 27, 3) := by decide +kernel
theorem dX3_weigh_72 : decode cX3_weigh 72 = .ok (.iload_n 1, 1) := by decide +kernel
theorem dX3_weigh_73 : decode cX3_weigh 73 = .ok (.iaload, 1) := by decide +kernel
theorem dX3_weigh_74 : decode cX3_weigh 74 = .ok (.if_icmp .ne 37, 3) := by decide +kernel
theorem dX3_weigh_77 : decode cX3_weigh 77 = .ok (.iload 5, 2) := by decide +kernel
theorem dX3_weigh_79 : decode cX3_weigh 79 = .ok (.aload_n 0, 1) := by decide +kernel
theorem dX3_weigh_80 : decode cX3_weigh 80 = .ok (.getfield 30, 3) := by decide +kernel
theorem dX3_weigh_83 : decode cX3_weigh 83 = .ok (.iload_n 1, 1) := by decide +kernel
theorem dX3_weigh_84 : decode cX3_weigh 84 = .ok (.iaload, 1) := by decide +kernel
theorem dX3_weigh_85 : decode cX3_weigh 85 = .ok (.if_icmp .gt 26, 3) := by decide +kernel
theorem dX3_weigh_88 : decode cX3_weigh 88 = .ok (.aload_n 0, 1) := by decide +kernel
theorem dX3_weigh_89 : decode cX3_weigh 89 = .ok (.getfield 27, 3) := by decide +kernel
theorem dX3_weigh_92 : decode cX3_weigh 92 = .ok (.iload_n 1, 1) := by decide +kernel
theorem dX3_weigh_93 : decode cX3_weigh 93 = .ok (.iload 4, 2) := by decide +kernel
theorem dX3_weigh_95 : decode cX3_weigh 95 = .ok (.iastore, 1) := by decide +kernel
theorem dX3_weigh_96 : decode cX3_weigh 96 = .ok (.aload_n 0, 1) := by decide +kernel
theorem dX3_weigh_97 : decode cX3_weigh 97 = .ok (.getfield 30, 3) := by decide +kernel
theorem dX3_weigh_100 : decode cX3_weigh 100 = .ok (.iload_n 1, 1) := by decide +kernel
theorem dX3_weigh_101 : decode cX3_weigh 101 = .ok (.iload 5, 2) := by decide +kernel
theorem dX3_weigh_103 : decode cX3_weigh 103 = .ok (.iastore, 1) := by decide +kernel
theorem dX3_weigh_104 : decode cX3_weigh 104 = .ok (.aload_n 0, 1) := by decide +kernel
theorem dX3_weigh_105 : decode cX3_weigh 105 = .ok (.getfield 33, 3) := by decide +kernel
theorem dX3_weigh_108 : decode cX3_weigh 108 = .ok (.iload_n 1, 1) := by decide +kernel
theorem dX3_weigh_109 : decode cX3_weigh 109 = .ok (.iload_n 2, 1) := by decide +kernel
theorem dX3_weigh_110 : decode cX3_weigh 110 = .ok (.iastore, 1) := by decide +kernel
theorem dX3_weigh_111 : decode cX3_weigh 111 = .ok (.return_, 1) := by decide +kernel
theorem dX3_layOut_0 : decode cX3_layOut 0 = .ok (.aload_n 0, 1) := by decide +kernel
theorem dX3_layOut_1 : decode cX3_layOut 1 = .ok (.getfield 50, 3) := by decide +kernel
theorem dX3_layOut_4 : decode cX3_layOut 4 = .ok (.istore_n 1, 1) := by decide +kernel
theorem dX3_layOut_5 : decode cX3_layOut 5 = .ok (.iload_n 1, 1) := by decide +kernel
theorem dX3_layOut_6 : decode cX3_layOut 6 = .ok (.aload_n 0, 1) := by decide +kernel
theorem dX3_layOut_7 : decode cX3_layOut 7 = .ok (.getfield 62, 3) := by decide +kernel
theorem dX3_layOut_10 : decode cX3_layOut 10 = .ok (.if_icmp .ge 130, 3) := by decide +kernel
theorem dX3_layOut_13 : decode cX3_layOut 13 = .ok (.aload_n 0, 1) := by decide +kernel
theorem dX3_layOut_14 : decode cX3_layOut 14 = .ok (.getfield 9, 3) := by decide +kernel
theorem dX3_layOut_17 : decode cX3_layOut 17 = .ok (.bipush 16, 2) := by decide +kernel
theorem dX3_layOut_19 : decode cX3_layOut 19 = .ok (.if_icmp .ge 121, 3) := by decide +kernel
theorem dX3_layOut_22 : decode cX3_layOut 22 = .ok (.aload_n 0, 1) := by decide +kernel
theorem dX3_layOut_23 : decode cX3_layOut 23 = .ok (.getfield 33, 3) := by decide +kernel
theorem dX3_layOut_26 : decode cX3_layOut 26 = .ok (.iload_n 1, 1) := by decide +kernel
theorem dX3_layOut_27 : decode cX3_layOut 27 = .ok (.iaload, 1) := by decide +kernel
theorem dX3_layOut_28 : decode cX3_layOut 28 = .ok (.iload_n 1, 1) := by decide +kernel
theorem dX3_layOut_29 : decode cX3_layOut 29 = .ok (.iconst 1, 1) := by decide +kernel
theorem dX3_layOut_30 : decode cX3_layOut 30 = .ok (.iadd, 1) := by decide +kernel
theorem dX3_layOut_31 : decode cX3_layOut 31 = .ok (.invokestatic 97, 3) := by decide +kernel
theorem dX3_layOut_34 : decode cX3_layOut 34 = .ok (.aload_n 0, 1) := by decide +kernel
theorem dX3_layOut_35 : decode cX3_layOut 35 = .ok (.getfield 62, 3) := by decide +kernel
theorem dX3_layOut_38 : decode cX3_layOut 38 = .ok (.invokestatic 56, 3) := by decide +kernel
theorem dX3_layOut_41 : decode cX3_layOut 41 = .ok (.istore_n 2, 1) := by decide +kernel
theorem dX3_layOut_42 : decode cX3_layOut 42 = .ok (.aload_n 0, 1) := by decide +kernel
theorem dX3_layOut_43 : decode cX3_layOut 43 = .ok (.getfield 17, 3) := by decide +kernel
theorem dX3_layOut_46 : decode cX3_layOut 46 = .ok (.aload_n 0, 1) := by decide +kernel
theorem dX3_layOut_47 : decode cX3_layOut 47 = .ok (.getfield 9, 3) := by decide +kernel
theorem dX3_layOut_50 : decode cX3_layOut 50 = .ok (.aaload, 1) := by decide +kernel
theorem dX3_layOut_51 : decode cX3_layOut 51 = .ok (.astore_n 3, 1) := by decide +kernel
theorem dX3_layOut_52 : decode cX3_layOut 52 = .ok (.aload_n 3, 1) := by decide +kernel
theorem dX3_layOut_53 : decode cX3_layOut 53 = .ok (.iconst 0, 1) := by decide +kernel
theorem dX3_layOut_54 : decode cX3_layOut 54 = .ok (.iload_n 1, 1) := by decide +kernel
theorem dX3_layOut_55 : decode cX3_layOut 55 = .ok (.iastore, 1) := by decide +kernel
theorem dX3_layOut_56 : decode cX3_layOut 56 = .ok (.aload_n 3, 1) := by decide +kernel
theorem dX3_layOut_57 : decode cX3_layOut 57 = .ok (.iconst 1, 1) := by decide +kernel
theorem dX3_layOut_58 : decode cX3_layOut 58 = .ok (.iload_n 2, 1) := by decide +kernel
theorem dX3_layOut_59 : decode cX3_layOut 59 = .ok (.iload_n 1, 1) := by decide +kernel
theorem dX3_layOut_60 : decode cX3_layOut 60 = .ok (.isub, 1) := by decide +kernel
theorem dX3_layOut_61 : decode cX3_layOut 61 = .ok (.iastore, 1) := by decide +kernel
theorem dX3_layOut_62 : decode cX3_layOut 62 = .ok (.aload_n 3, 1) := by decide +kernel
theorem dX3_layOut_63 : decode cX3_layOut 63 = .ok (.iconst 2, 1) := by decide +kernel
theorem dX3_layOut_64 : decode cX3_layOut 64 = .ok (.aload_n 0, 1) := by decide +kernel
theorem dX3_layOut_65 : decode cX3_layOut 65 = .ok (.getfield 65, 3) := by decide +kernel
theorem dX3_layOut_68 : decode cX3_layOut 68 = .ok (.iastore, 1) := by decide +kernel
theorem dX3_layOut_69 : decode cX3_layOut 69 = .ok (.aload_n 3, 1) := by decide +kernel
theorem dX3_layOut_70 : decode cX3_layOut 70 = .ok (.iconst 3, 1) := by decide +kernel
theorem dX3_layOut_71 : decode cX3_layOut 71 = .ok (.iconst 0, 1) := by decide +kernel
theorem dX3_layOut_72 : decode cX3_layOut 72 = .ok (.iastore, 1) := by decide +kernel
theorem dX3_layOut_73 : decode cX3_layOut 73 = .ok (.iload_n 1, 1) := by decide +kernel
theorem dX3_layOut_74 : decode cX3_layOut 74 = .ok (.istore 4, 2) := by decide +kernel
theorem dX3_layOut_76 : decode cX3_layOut 76 = .ok (.iload 4, 2) := by decide +kernel
theorem dX3_layOut_78 : decode cX3_layOut 78 = .ok (.iload_n 2, 1) := by decide +kernel
theorem dX3_layOut_79 : decode cX3_layOut 79 = .ok (.if_icmp .ge 46, 3) := by decide +kernel
theorem dX3_layOut_82 : decode cX3_layOut 82 = .ok (.aload_n 3, 1) := by decide +kernel
theorem dX3_layOut_83 : decode cX3_layOut 83 = .ok (.iconst 2, 1) := by decide +kernel
theorem dX3_layOut_84 : decode cX3_layOut 84 = .ok (.dup2, 1) := by decide +kernel
theorem dX3_layOut_85 : decode cX3_layOut 85 = .ok (.iaload, 1) := by decide +kernel
theorem dX3_layOut_86 : decode cX3_layOut 86 = .ok (.aload_n 0, 1) := by decide +kernel
theorem dX3_layOut_87 : decode cX3_layOut 87 = .ok (.getfield 40, 3) := by decide +kernel
theorem dX3_layOut_90 : decode cX3_layOut 90 = .ok (.getfield 68, 3) := by decide +kernel
theorem dX3_layOut_93 : decode cX3_layOut 93 = .ok (.iload 4, 2) := by decide +kernel
theorem dX3_layOut_95 : decode cX3_layOut 95 = .ok (.iaload, 1) := by decide +kernel
theorem dX3_layOut_96 : decode cX3_layOut 96 = .ok (.aload_n 0, 1) := by decide +kernel
theorem dX3_layOut_97 : decode cX3_layOut 97 = .ok (.getfield 24, 3) := by decide +kernel
theorem dX3_layOut_100 : decode cX3_layOut 100 = .ok (.iload 4, 2) := by decide +kernel
theorem dX3_layOut_102 : decode cX3_layOut 102 = .ok (.iaload, 1) := by decide +kernel
theorem dX3_layOut_103 : decode cX3_layOut 103 = .ok (.iadd, 1) := by decide +kernel
theorem dX3_layOut_104 : decode cX3_layOut 104 = .ok (.isub, 1) := by decide +kernel
theorem dX3_layOut_105 : decode cX3_layOut 105 = .ok (.iastore, 1) := by decide +kernel
theorem dX3_layOut_106 : decode cX3_layOut 106 = .ok (.aload_n 3, 1) := by decide +kernel
theorem dX3_layOut_107 : decode cX3_layOut 107 = .ok (.iconst 3, 1) := by decide +kernel
theorem dX3_layOut_108 : decode cX3_layOut 108 = .ok (.dup2, 1) := by decide +kernel
theorem dX3_layOut_109 : decode cX3_layOut 109 = .ok (.iaload, 1) := by decide +kernel
theorem dX3_layOut_110 : decode cX3_layOut 110 = .ok (.aload_n 0, 1) := by decide +kernel
theorem dX3_layOut_111 : decode cX3_layOut 111 = .ok (.getfield 20, 3) := by decide +kernel
theorem dX3_layOut_114 : decode cX3_layOut 114 = .ok (.iload 4, 2) := by decide +kernel
theorem dX3_layOut_116 : decode cX3_layOut 116 = .ok (.iaload, 1) := by decide +kernel
theorem dX3_layOut_117 : decode cX3_layOut 117 = .ok (.ior, 1) := by decide +kernel
theorem dX3_layOut_118 : decode cX3_layOut 118 = .ok (.iastore, 1) := by decide +kernel
theorem dX3_layOut_119 : decode cX3_layOut 119 = .ok (.iinc 4 1, 3) := by decide +kernel
theorem dX3_layOut_122 : decode cX3_layOut 122 = .ok (.goto (-46), 3) := by decide +kernel
theorem dX3_layOut_125 : decode cX3_layOut 125 = .ok (.aload_n 0, 1) := by decide +kernel
theorem dX3_layOut_126 : decode cX3_layOut 126 = .ok (.dup, 1) := by decide +kernel
theorem dX3_layOut_127 : decode cX3_layOut 127 = .ok (.getfield 9, 3) := by decide +kernel
theorem dX3_layOut_130 : decode cX3_layOut 130 = .ok (.iconst 1, 1) := by decide +kernel
theorem dX3_layOut_131 : decode cX3_layOut 131 = .ok (.iadd, 1) := by decide +kernel
theorem dX3_layOut_132 : decode cX3_layOut 132 = .ok (.putfield 9, 3) := by decide +kernel
theorem dX3_layOut_135 : decode cX3_layOut 135 = .ok (.iload_n 2, 1) := by decide +kernel
theorem dX3_layOut_136 : decode cX3_layOut 136 = .ok (.istore_n 1, 1) := by decide +kernel
theorem dX3_layOut_137 : decode cX3_layOut 137 = .ok (.goto (-132), 3) := by decide +kernel
theorem dX3_layOut_140 : decode cX3_layOut 140 = .ok (.return_, 1) := by decide +kernel
theorem dX3_holding_0 : decode cX3_holding 0 = .ok (.iconst 0, 1) := by decide +kernel
theorem dX3_holding_1 : decode cX3_holding 1 = .ok (.istore_n 2, 1) := by decide +kernel
theorem dX3_holding_2 : decode cX3_holding 2 = .ok (.iload_n 2, 1) := by decide +kernel
theorem dX3_holding_3 : decode cX3_holding 3 = .ok (.aload_n 0, 1) := by decide +kernel
theorem dX3_holding_4 : decode cX3_holding 4 = .ok (.getfield 9, 3) := by decide +kernel
theorem dX3_holding_7 : decode cX3_holding 7 = .ok (.if_icmp .ge 38, 3) := by decide +kernel
theorem dX3_holding_10 : decode cX3_holding 10 = .ok (.iload_n 2, 1) := by decide +kernel
theorem dX3_holding_11 : decode cX3_holding 11 = .ok (.bipush 16, 2) := by decide +kernel
theorem dX3_holding_13 : decode cX3_holding 13 = .ok (.if_icmp .ge 32, 3) := by decide +kernel
theorem dX3_holding_16 : decode cX3_holding 16 = .ok (.iload_n 1, 1) := by decide +kernel
theorem dX3_holding_17 : decode cX3_holding 17 = .ok (.aload_n 0, 1) := by decide +kernel
theorem dX3_holding_18 : decode cX3_holding 18 = .ok (.getfield 17, 3) := by decide +kernel
theorem dX3_holding_21 : decode cX3_holding 21 = .ok (.iload_n 2, 1) := by decide +kernel
theorem dX3_holding_22 : decode cX3_holding 22 = .ok (.aaload, 1) := by decide +kernel
theorem dX3_holding_23 : decode cX3_holding 23 = .ok (.iconst 0, 1) := by decide +kernel
theorem dX3_holding_24 : decode cX3_holding 24 = .ok (.iaload, 1) := by decide +kernel
theorem dX3_holding_25 : decode cX3_holding 25 = .ok (.aload_n 0, 1) := by decide +kernel
theorem dX3_holding_26 : decode cX3_holding 26 = .ok (.getfield 17, 3) := by decide +kernel
theorem dX3_holding_29 : decode cX3_holding 29 = .ok (.iload_n 2, 1) := by decide +kernel
theorem dX3_holding_30 : decode cX3_holding 30 = .ok (.aaload, 1) := by decide +kernel
theorem dX3_holding_31 : decode cX3_holding 31 = .ok (.iconst 1, 1) := by decide +kernel
theorem dX3_holding_32 : decode cX3_holding 32 = .ok (.iaload, 1) := by decide +kernel
theorem dX3_holding_33 : decode cX3_holding 33 = .ok (.iadd, 1) := by decide +kernel
theorem dX3_holding_34 : decode cX3_holding 34 = .ok (.if_icmp .ge 5, 3) := by decide +kernel
theorem dX3_holding_37 : decode cX3_holding 37 = .ok (.iload_n 2, 1) := by decide +kernel
theorem dX3_holding_38 : decode cX3_holding 38 = .ok (.ireturn, 1) := by decide +kernel
theorem dX3_holding_39 : decode cX3_holding 39 = .ok (.iinc 2 1, 3) := by decide +kernel
theorem dX3_holding_42 : decode cX3_holding 42 = .ok (.goto (-40), 3) := by decide +kernel
theorem dX3_holding_45 : decode cX3_holding 45 = .ok (.bipush (-9), 2) := by decide +kernel
theorem dX3_holding_47 : decode cX3_holding 47 = .ok (.ireturn, 1) := by decide +kernel
theorem dX4_init_0 : decode cX4_init 0 = .ok (.aload_n 0, 1) := by decide +kernel
theorem dX4_init_1 : decode cX4_init 1 = .ok (.invokespecial 3, 3) := by decide +kernel
theorem dX4_init_4 : decode cX4_init 4 = .ok (.aload_n 0, 1) := by decide +kernel
theorem dX4_init_5 : decode cX4_init 5 = .ok (.bipush 6, 2) := by decide +kernel
theorem dX4_init_7 : decode cX4_init 7 = .ok (.newarray .int, 2) := by decide +kernel
theorem dX4_init_9 : decode cX4_init 9 = .ok (.putfield 9, 3) := by decide +kernel
theorem dX4_init_12 : decode cX4_init 12 = .ok (.aload_n 0, 1) := by decide +kernel
theorem dX4_init_13 : decode cX4_init 13 = .ok (.bipush 6, 2) := by decide +kernel
theorem dX4_init_15 : decode cX4_init 15 = .ok (.newarray .int, 2) := by decide +kernel
theorem dX4_init_17 : decode cX4_init 17 = .ok (.putfield 15, 3) := by decide +kernel
theorem dX4_init_20 : decode cX4_init 20 = .ok (.return_, 1) := by decide +kernel
theorem dX4_divide_0 : decode cX4_divide 0 = .ok (.aload_n 0, 1) := by decide +kernel
theorem dX4_divide_1 : decode cX4_divide 1 = .ok (.getfield 9, 3) := by decide +kernel
theorem dX4_divide_4 : decode cX4_divide 4 = .ok (.iconst 0, 1) := by decide +kernel
theorem dX4_divide_5 : decode cX4_divide 5 = .ok (.invokestatic 18, 3) := by decide +kernel
theorem dX4_divide_8 : decode cX4_divide 8 = .ok (.iload 4, 2) := by decide +kernel
theorem dX4_divide_10 : decode cX4_divide 10 = .ok (.aload_n 0, 1) := by decide +kernel
theorem dX4_divide_11 : decode cX4_divide 11 = .ok (.getfield 9, 3) := by decide +kernel
theorem dX4_divide_14 : decode cX4_divide 14 = .ok (.arraylength, 1) := by decide +kernel
theorem dX4_divide_15 : decode cX4_divide 15 = .ok (.aload_n 2, 1) := by decide +kernel
theorem dX4_divide_16 : decode cX4_divide 16 = .ok (.arraylength, 1) := by decide +kernel
theorem dX4_divide_17 : decode cX4_divide 17 = .ok (.invokestatic 24, 3) := by decide +kernel
theorem dX4_divide_20 : decode cX4_divide 20 = .ok (.invokestatic 24, 3) := by decide +kernel
theorem dX4_divide_23 : decode cX4_divide 23 = .ok (.istore 5, 2) := by decide +kernel
theorem dX4_divide_25 : decode cX4_divide 25 = .ok (.iconst 0, 1) := by decide +kernel
theorem dX4_divide_26 : decode cX4_divide 26 = .ok (.istore 6, 2) := by decide +kernel
theorem dX4_divide_28 : decode cX4_divide 28 = .ok (.iload_n 3, 1) := by decide +kernel
theorem dX4_divide_29 : decode cX4_divide 29 = .ok (.istore 7, 2) := by decide +kernel
theorem dX4_divide_31 : decode cX4_divide 31 = .ok (.iload 7, 2) := by decide +kernel
theorem dX4_divide_33 : decode cX4_divide 33 = .ok (.iload 5, 2) := by decide +kernel
theorem dX4_divide_35 : decode cX4_divide 35 = .ok (.if_icmp .ge 18, 3) := by decide +kernel
theorem dX4_divide_38 : decode cX4_divide 38 = .ok (.iload 6, 2) := by decide +kernel
theorem dX4_divide_40 : decode cX4_divide 40 = .ok (.aload_n 2, 1) := by decide +kernel
theorem dX4_divide_41 : decode cX4_divide 41 = .ok (.iload 7, 2) := by decide +kernel
theorem dX4_divide_43 : decode cX4_divide 43 = .ok (.iaload, 1) := by decide +kernel
theorem dX4_divide_44 : decode cX4_divide 44 = .ok (.iadd, 1) := by decide +kernel
theorem dX4_divide_45 : decode cX4_divide 45 = .ok (.istore 6, 2) := by decide +kernel
theorem dX4_divide_47 : decode cX4_divide 47 = .ok (.iinc 7 1, 3) := by decide +kernel
theorem dX4_divide_50 : decode cX4_divide 50 = .ok (.goto (-19), 3) := by decide +kernel
theorem dX4_divide_53 : decode cX4_divide 53 = .ok (.iload 6, 2) := by decide +kernel
theorem dX4_divide_55 : decode cX4_divide 55 = .ok (.iconst 1, 1) := by decide +kernel
theorem dX4_divide_56 : decode cX4_divide 56 = .ok (.if_icmp .lt 7, 3) := by decide +kernel
theorem dX4_divide_59 : decode cX4_divide 59 = .ok (.iload_n 3, 1) := by decide +kernel
theorem dX4_divide_60 : decode cX4_divide 60 = .ok (.ifCond .ge 4, 3) := by decide +kernel
theorem dX4_divide_63 : decode cX4_divide 63 = .ok (.return_, 1) := by decide +kernel
theorem dX4_divide_64 : decode cX4_divide 64 = .ok (.iload_n 1, 1) := by decide +kernel
theorem dX4_divide_65 : decode cX4_divide 65 = .ok (.istore 7, 2) := by decide +kernel
theorem dX4_divide_67 : decode cX4_divide 67 = .ok (.iload_n 3, 1) := by decide +kernel
theorem dX4_divide_68 : decode cX4_divide 68 = .ok (.istore 8, 2) := by decide +kernel
theorem dX4_divide_70 : decode cX4_divide 70 = .ok (.iload 8, 2) := by decide +kernel
theorem dX4_divide_72 : decode cX4_divide 72 = .ok (.iload 5, 2) := by decide +kernel
theorem dX4_divide_74 : decode cX4_divide 74 = .ok (.if_icmp .ge 53, 3) := by decide +kernel
theorem dX4_divide_77 : decode cX4_divide 77 = .ok (.aload_n 0, 1) := by decide +kernel
theorem dX4_divide_78 : decode cX4_divide 78 = .ok (.getfield 9, 3) := by decide +kernel
theorem dX4_divide_81 : decode cX4_divide 81 = .ok (.iload 8, 2) := by decide +kernel
theorem dX4_divide_83 : decode cX4_divide 83 = .ok (.iload_n 1, 1) := by decide +kernel
theorem dX4_divide_84 : decode cX4_divide 84 = .ok (.aload_n 2, 1) := by decide +kernel
theorem dX4_divide_85 : decode cX4_divide 85 = .ok (.iload 8, 2) := by decide +kernel
theorem dX4_divide_87 : decode cX4_divide 87 = .ok (.iaload, 1) := by decide +kernel
theorem dX4_divide_88 : decode cX4_divide 88 = .ok (.imul, 1) := by decide +kernel
theorem dX4_divide_89 : decode cX4_divide 89 = .ok (.iload 6, 2) := by decide +kernel
theorem dX4_divide_91 : decode cX4_divide 91 = .ok (.idiv, 1) := by decide +kernel
theorem dX4_divide_92 : decode cX4_divide 92 = .ok (.iastore, 1) := by decide +kernel
theorem dX4_divide_93 : decode cX4_divide 93 = .ok (.aload_n 0, 1) := by decide +kernel
theorem dX4_divide_94 : decode cX4_divide 94 = .ok (.getfield 15, 3) := by decide +kernel
theorem dX4_divide_97 : decode cX4_divide 97 = .ok (.iload 8, 2) := by decide +kernel
theorem dX4_divide_99 : decode cX4_divide 99 = .ok (.iload_n 1, 1) := by decide +kernel
theorem dX4_divide_100 : decode cX4_divide 100 = .ok (.aload_n 2, 1) := by decide +kernel
theorem dX4_divide_101 : decode cX4_divide 101 = .ok (.iload 8, 2) := by decide +kernel
theorem dX4_divide_103 : decode cX4_divide 103 = .ok (.iaload, 1) := by decide +kernel
theorem dX4_divide_104 : decode cX4_divide 104 = .ok (.imul, 1) := by decide +kernel
theorem dX4_divide_105 : decode cX4_divide 105 = .ok (.iload 6, 2) := by decide +kernel
theorem dX4_divide_107 : decode cX4_divide 107 = .ok (.irem, 1) := by decide +kernel
theorem dX4_divide_108 : decode cX4_divide 108 = .ok (.iastore, 1) := by decide +kernel
theorem dX4_divide_109 : decode cX4_divide 109 = .ok (.iload 7, 2) := by decide +kernel
theorem dX4_divide_111 : decode cX4_divide 111 = .ok (.aload_n 0, 1) := by decide +kernel
theorem dX4_divide_112 : decode cX4_divide 112 = .ok (.getfield 9, 3) := by decide +kernel
theorem dX4_divide_115 : decode cX4_divide 115 = .ok (.iload 8, 2) := by decide +kernel
theorem dX4_divide_117 : decode cX4_divide 117 = .ok (.iaload, 1) := by decide +kernel
theorem dX4_divide_118 : decode cX4_divide 118 = .ok (.isub, 1) := by decide +kernel
theorem dX4_divide_119 : decode cX4_divide 119 = .ok (.istore 7, 2) := by decide +kernel
theorem dX4_divide_121 : decode cX4_divide 121 = .ok (.iinc 8 1, 3) := by decide +kernel
theorem dX4_divide_124 : decode cX4_divide 124 = .ok (.goto (-54), 3) := by decide +kernel
theorem dX4_divide_127 : decode cX4_divide 127 = .ok (.iconst 0, 1) := by decide +kernel
theorem dX4_divide_128 : decode cX4_divide 128 = .ok (.istore 8, 2) := by decide +kernel
theorem dX4_divide_130 : decode cX4_divide 130 = .ok (.iload 8, 2) := by decide +kernel
theorem dX4_divide_132 : decode cX4_divide 132 = .ok (.iload 7, 2) := by decide +kernel
theorem dX4_divide_134 : decode cX4_divide 134 = .ok (.if_icmp .ge 23, 3) := by decide +kernel
theorem dX4_divide_137 : decode cX4_divide 137 = .ok (.iload 8, 2) := by decide +kernel
theorem dX4_divide_139 : decode cX4_divide 139 = .ok (.bipush 6, 2) := by decide +kernel
theorem dX4_divide_141 : decode cX4_divide 141 = .ok (.if_icmp .ge 16, 3) := by decide +kernel
theorem dX4_divide_144 : decode cX4_divide 144 = .ok (.aload_n 0, 1) := by decide +kernel
theorem dX4_divide_145 : decode cX4_divide 145 = .ok (.iload_n 3, 1) := by decide +kernel
theorem dX4_divide_146 : decode cX4_divide 146 = .ok (.iload 5, 2) := by decide +kernel
theorem dX4_divide_148 : decode cX4_divide 148 = .ok (.invokevirtual 30, 3) := by decide +kernel
theorem dX4_divide_151 : decode cX4_divide 151 = .ok (.iinc 8 1, 3) := by decide +kernel
theorem dX4_divide_154 : decode cX4_divide 154 = .ok (.goto (-24), 3) := by decide +kernel
theorem dX4_divide_157 : decode cX4_divide 157 = .ok (.return_, 1) := by decide +kernel
theorem dX4_giveOne_0 : decode cX4_giveOne 0 = .ok (.iload_n 1, 1) := by decide +kernel
theorem dX4_giveOne_1 : decode cX4_giveOne 1 = .ok (.istore_n 3, 1) := by decide +kernel
theorem dX4_giveOne_2 : decode cX4_giveOne 2 = .ok (.iload_n 1, 1) := by decide +kernel
theorem dX4_giveOne_3 : decode cX4_giveOne 3 = .ok (.istore 4, 2) := by decide +kernel
theorem dX4_giveOne_5 : decode cX4_giveOne 5 = .ok (.iload 4, 2) := by decide +kernel
theorem dX4_giveOne_7 : decode cX4_giveOne 7 = .ok (.iload_n 2, 1) := by decide +kernel
theorem dX4_giveOne_8 : decode cX4_giveOne 8 = .ok (.if_icmp .ge 28, 3) := by decide +kernel
theorem dX4_giveOne_11 : decode cX4_giveOne 11 = .ok (.aload_n 0, 1) := by decide +kernel
theorem dX4_giveOne_12 : decode cX4_giveOne 12 = .ok (.getfield 15, 3) := by decide +kernel
theorem dX4_giveOne_15 : decode cX4_giveOne 15 = .ok (.iload 4, 2) := by decide +kernel
theorem dX4_giveOne_17 : decode cX4_giveOne 17 = .ok (.iaload, 1) := by decide +kernel
theorem dX4_giveOne_18 : decode cX4_giveOne 18 = .ok (.aload_n 0, 1) := by decide +kernel
theorem dX4_giveOne_19 : decode cX4_giveOne 19 = .ok (.getfield 15, 3) := by decide +kernel
theorem dX4_giveOne_22 : decode cX4_giveOne 22 = .ok (.iload_n 3, 1) := by decide +kernel
theorem dX4_giveOne_23 : decode cX4_giveOne 23 = .ok (.iaload, 1) := by decide +kernel
theorem dX4_giveOne_24 : decode cX4_giveOne 24 = .ok (.if_icmp .le 6, 3) := by decide +kernel
theorem dX4_giveOne_27 : decode cX4_giveOne 27 = .ok (.iload 4, 2) := by decide +kernel
theorem dX4_giveOne_29 : decode cX4_giveOne 29 = .ok (.istore_n 3, 1) := by decide +kernel
theorem dX4_giveOne_30 : decode cX4_giveOne 30 = .ok (.iinc 4 1, 3) := by decide +kernel
theorem dX4_giveOne_33 : decode cX4_giveOne 33 = .ok (.goto (-28), 3) := by decide +kernel
theorem dX4_giveOne_36 : decode cX4_giveOne 36 = .ok (.aload_n 0, 1) := by decide +kernel
theorem dX4_giveOne_37 : decode cX4_giveOne 37 = .ok (.getfield 9, 3) := by decide +kernel
theorem dX4_giveOne_40 : decode cX4_giveOne 40 = .ok (.iload_n 3, 1) := by decide +kernel
theorem dX4_giveOne_41 : decode cX4_giveOne 41 = .ok (.dup2, 1) := by decide +kernel
theorem dX4_giveOne_42 : decode cX4_giveOne 42 = .ok (.iaload, 1) := by decide +kernel
theorem dX4_giveOne_43 : decode cX4_giveOne 43 = .ok (.iconst 1, 1) := by decide +kernel
theorem dX4_giveOne_44 : decode cX4_giveOne 44 = .ok (.iadd, 1) := by decide +kernel
theorem dX4_giveOne_45 : decode cX4_giveOne 45 = .ok (.iastore, 1) := by decide +kernel
theorem dX4_giveOne_46 : decode cX4_giveOne 46 = .ok (.aload_n 0, 1) := by decide +kernel
theorem dX4_giveOne_47 : decode cX4_giveOne 47 = .ok (.getfield 15, 3) := by decide +kernel
theorem dX4_giveOne_50 : decode cX4_giveOne 50 = .ok (.iload_n 3, 1) := by decide +kernel
theorem dX4_giveOne_51 : decode cX4_giveOne 51 = .ok (.iconst (-1), 1) := by decide +kernel
theorem dX4_giveOne_52 : decode cX4_giveOne 52 = .ok (.iastore, 1) := by decide +kernel
theorem dX4_giveOne_53 : decode cX4_giveOne 53 = .ok (.return_, 1) := by decide +kernel
theorem dX5_init_0 : decode cX5_init 0 = .ok (.aload_n 0, 1) := by decide +kernel
theorem dX5_init_1 : decode cX5_init 1 = .ok (.invokespecial 3, 3) := by decide +kernel
theorem dX5_init_4 : decode cX5_init 4 = .ok (.aload_n 0, 1) := by decide +kernel
theorem dX5_init_5 : decode cX5_init 5 = .ok (.bipush 6, 2) := by decide +kernel
theorem dX5_init_7 : decode cX5_init 7 = .ok (.newarray .int, 2) := by decide +kernel
theorem dX5_init_9 : decode cX5_init 9 = .ok (.putfield 9, 3) := by decide +kernel
theorem dX5_init_12 : decode cX5_init 12 = .ok (.aload_n 0, 1) := by decide +kernel
theorem dX5_init_13 : decode cX5_init 13 = .ok (.bipush 6, 2) := by decide +kernel
theorem dX5_init_15 : decode cX5_init 15 = .ok (.newarray .int, 2) := by decide +kernel
theorem dX5_init_17 : decode cX5_init 17 = .ok (.putfield 15, 3) := by decide +kernel
theorem dX5_init_20 : decode cX5_init 20 = .ok (.aload_n 0, 1) := by decide +kernel
theorem dX5_init_21 : decode cX5_init 21 = .ok (.bipush 6, 2) := by decide +kernel
theorem dX5_init_23 : decode cX5_init 23 = .ok (.newarray .int, 2) := by decide +kernel
theorem dX5_init_25 : decode cX5_init 25 = .ok (.putfield 18, 3) := by decide +kernel
theorem dX5_init_28 : decode cX5_init 28 = .ok (.aload_n 0, 1) := by decide +kernel
theorem dX5_init_29 : decode cX5_init 29 = .ok (.new 21, 3) := by decide +kernel
theorem dX5_init_32 : decode cX5_init 32 = .ok (.dup, 1) := by decide +kernel
theorem dX5_init_33 : decode cX5_init 33 = .ok (.invokespecial 23, 3) := by decide +kernel
theorem dX5_init_36 : decode cX5_init 36 = .ok (.putfield 24, 3) := by decide +kernel
theorem dX5_init_39 : decode cX5_init 39 = .ok (.aload_n 0, 1) := by decide +kernel
theorem dX5_init_40 : decode cX5_init 40 = .ok (.bipush 6, 2) := by decide +kernel
theorem dX5_init_42 : decode cX5_init 42 = .ok (.newarray .int, 2) := by decide +kernel
theorem dX5_init_44 : decode cX5_init 44 = .ok (.putfield 28, 3) := by decide +kernel
theorem dX5_init_47 : decode cX5_init 47 = .ok (.aload_n 0, 1) := by decide +kernel
theorem dX5_init_48 : decode cX5_init 48 = .ok (.bipush 6, 2) := by decide +kernel
theorem dX5_init_50 : decode cX5_init 50 = .ok (.newarray .int, 2) := by decide +kernel
theorem dX5_init_52 : decode cX5_init 52 = .ok (.putfield 31, 3) := by decide +kernel
theorem dX5_init_55 : decode cX5_init 55 = .ok (.aload_n 0, 1) := by decide +kernel
theorem dX5_init_56 : decode cX5_init 56 = .ok (.bipush 6, 2) := by decide +kernel
theorem dX5_init_58 : decode cX5_init 58 = .ok (.newarray .int, 2) := by decide +kernel
theorem dX5_init_60 : decode cX5_init 60 = .ok (.putfield 34, 3) := by decide +kernel
theorem dX5_init_63 : decode cX5_init 63 = .ok (.aload_n 0, 1) := by decide +kernel
theorem dX5_init_64 : decode cX5_init 64 = .ok (.aload_n 1, 1) := by decide +kernel
theorem dX5_init_65 : decode cX5_init 65 = .ok (.putfield 37, 3) := by decide +kernel
theorem dX5_init_68 : decode cX5_init 68 = .ok (.aload_n 0, 1) := by decide +kernel
theorem dX5_init_69 : decode cX5_init 69 = .ok (.aload_n 2, 1) := by decide +kernel
theorem dX5_init_70 : decode cX5_init 70 = .ok (.putfield 41, 3) := by decide +kernel
theorem dX5_init_73 : decode cX5_init 73 = .ok (.return_, 1) := by decide +kernel
theorem dX5_forget_0 : decode cX5_forget 0 = .ok (.aload_n 0, 1) := by decide +kernel
theorem dX5_forget_1 : decode cX5_forget 1 = .ok (.getfield 9, 3) := by decide +kernel
theorem dX5_forget_4 : decode cX5_forget 4 = .ok (.iconst 0, 1) := by decide +kernel
theorem dX5_forget_5 : decode cX5_forget 5 = .ok (.invokestatic 45, 3) := by decide +kernel
theorem dX5_forget_8 : decode cX5_forget 8 = .ok (.return_, 1) := by decide +kernel
theorem dX5_measure_0 : decode cX5_measure 0 = .ok (.aload_n 0, 1) := by decide +kernel
theorem dX5_measure_1 : decode cX5_measure 1 = .ok (.iconst 0, 1) := by decide +kernel
theorem dX5_measure_2 : decode cX5_measure 2 = .ok (.aload_n 0, 1) := by decide +kernel
theorem dX5_measure_3 : decode cX5_measure 3 = .ok (.getfield 15, 3) := by decide +kernel
theorem dX5_measure_6 : decode cX5_measure 6 = .ok (.invokevirtual 51, 3) := by decide +kernel
theorem dX5_measure_9 : decode cX5_measure 9 = .ok (.aload_n 0, 1) := by decide +kernel
theorem dX5_measure_10 : decode cX5_measure 10 = .ok (.iconst 1, 1) := by decide +kernel
theorem dX5_measure_11 : decode cX5_measure 11 = .ok (.aload_n 0, 1) := by decide +kernel
theorem dX5_measure_12 : decode cX5_measure 12 = .ok (.getfield 18, 3) := by decide +kernel
theorem dX5_measure_15 : decode cX5_measure 15 = .ok (.invokevirtual 51, 3) := by decide +kernel
theorem dX5_measure_18 : decode cX5_measure 18 = .ok (.iconst 0, 1) := by decide +kernel
theorem dX5_measure_19 : decode cX5_measure 19 = .ok (.istore_n 1, 1) := by decide +kernel
theorem dX5_measure_20 : decode cX5_measure 20 = .ok (.iload_n 1, 1) := by decide +kernel
theorem dX5_measure_21 : decode cX5_measure 21 = .ok (.bipush 6, 2) := by decide +kernel
theorem dX5_measure_23 : decode cX5_measure 23 = .ok (.if_icmp .ge 30, 3) := by decide +kernel
theorem dX5_measure_26 : decode cX5_measure 26 = .ok (.aload_n 0, 1) := by decide +kernel
theorem dX5_measure_27 : decode cX5_measure 27 = .ok (.getfield 18, 3) := by decide +kernel
theorem dX5_measure_30 : decode cX5_measure 30 = .ok (.iload_n 1, 1) := by decide +kernel
theorem dX5_measure_31 : decode cX5_measure 31 = .ok (.aload_n 0, 1) := by decide +kernel
theorem dX5_measure_32 : decode cX5_measure 32 = .ok (.getfield 18, 3) := by decide +kernel
theorem dX5_measure_35 : decode cX5_measure 35 = .ok (.iload_n 1, 1) := by decide +kernel
theorem dX5_measure_36 : decode cX5_measure 36 = .ok (.iaload, 1) := by decide +kernel
theorem dX5_measure_37 : decode cX5_measure 37 = .ok (.aload_n 0, 1) := by decide +kernel
theorem dX5_measure_38 : decode cX5_measure 38 = .ok (.getfield 15, 3) := by decide +kernel
theorem dX5_measure_41 : decode cX5_measure 41 = .ok (.iload_n 1, 1) := by decide +kernel
theorem dX5_measure_42 : decode cX5_measure 42 = .ok (.iaload, 1) := by decide +kernel
theorem dX5_measure_43 : decode cX5_measure 43 = .ok (.invokestatic 55, 3) := by decide +kernel
theorem dX5_measure_46 : decode cX5_measure 46 = .ok (.iastore, 1) := by decide +kernel
theorem dX5_measure_47 : decode cX5_measure 47 = .ok (.iinc 1 1, 3) := by decide +kernel
theorem dX5_measure_50 : decode cX5_measure 50 = .ok (.goto (-30), 3) := by decide +kernel
theorem dX5_measure_53 : decode cX5_measure 53 = .ok (.return_, 1) := by decide +kernel
theorem dX5_measureFor_0 : decode cX5_measureFor 0 = .ok (.aload_n 2, 1) := by decide +kernel
theorem dX5_measureFor_1 : decode cX5_measureFor 1 = .ok (.iconst 0, 1) := by decide +kernel
theorem dX5_measureFor_2 : decode cX5_measureFor 2 = .ok (.invokestatic 45, 3) := by decide +kernel
theorem dX5_measureFor_5 : decode cX5_measureFor 5 = .ok (.iconst 1, 1) := by decide +kernel
theorem dX5_measureFor_6 : decode cX5_measureFor 6 = .ok (.istore_n 3, 1) := by decide +kernel
theorem dX5_measureFor_7 : decode cX5_measureFor 7 = .ok (.iload_n 3, 1) := by decide +kernel
theorem dX5_measureFor_8 : decode cX5_measureFor 8 = .ok (.aload_n 0, 1) := by decide +kernel
theorem dX5_measureFor_9 : decode cX5_measureFor 9 = .ok (.getfield 37, 3) := by decide +kernel
theorem dX5_measureFor_12 : decode cX5_measureFor 12 = .ok (.getfield 61, 3) := by decide +kernel
theorem dX5_measureFor_15 : decode cX5_measureFor 15 = .ok (.if_icmp .gt 95, 3) := by decide +kernel
theorem dX5_measureFor_18 : decode cX5_measureFor 18 = .ok (.aload_n 0, 1) := by decide +kernel
theorem dX5_measureFor_19 : decode cX5_measureFor 19 = .ok (.getfield 28, 3) := by decide +kernel
theorem dX5_measureFor_22 : decode cX5_measureFor 22 = .ok (.iconst 0, 1) := by decide +kernel
theorem dX5_measureFor_23 : decode cX5_measureFor 23 = .ok (.invokestatic 45, 3) := by decide +kernel
theorem dX5_measureFor_26 : decode cX5_measureFor 26 = .ok (.iconst 0, 1) := by decide +kernel
theorem dX5_measureFor_27 : decode cX5_measureFor 27 = .ok (.istore 4, 2) := by decide +kernel
theorem dX5_measureFor_29 : decode cX5_measureFor 29 = .ok (.iload 4, 2) := by decide +kernel
theorem dX5_measureFor_31 : decode cX5_measureFor 31 = .ok (.aload_n 0, 1) := by decide +kernel
theorem dX5_measureFor_32 : decode cX5_measureFor 32 = .ok (.getfield 37, 3) := by decide +kernel
theorem dX5_measureFor_35 : decode cX5_measureFor 35 = .ok (.getfield 67, 3) := by decide +kernel
theorem dX5_measureFor_38 : decode cX5_measureFor 38 = .ok (.if_icmp .ge 57, 3) := by decide +kernel
theorem dX5_measureFor_41 : decode cX5_measureFor 41 = .ok (.aload_n 0, 1) := by decide +kernel
theorem dX5_measureFor_42 : decode cX5_measureFor 42 = .ok (.getfield 37, 3) := by decide +kernel
theorem dX5_measureFor_45 : decode cX5_measureFor 45 = .ok (.iload 4, 2) := by decide +kernel
theorem dX5_measureFor_47 : decode cX5_measureFor 47 = .ok (.invokevirtual 70, 3) := by decide +kernel
theorem dX5_measureFor_50 : decode cX5_measureFor 50 = .ok (.astore 5, 2) := by decide +kernel
theorem dX5_measureFor_52 : decode cX5_measureFor 52 = .ok (.aload 5, 2) := by decide +kernel
theorem dX5_measureFor_54 : decode cX5_measureFor 54 = .ok (.ifnull 35, 3) := by decide +kernel
theorem dX5_measureFor_57 : decode cX5_measureFor 57 = .ok (.aload 5, 2) := by decide +kernel
theorem dX5_measureFor_59 : decode cX5_measureFor 59 = .ok (.getfield 74, 3) := by decide +kernel
theorem dX5_measureFor_62 : decode cX5_measureFor 62 = .ok (.iload_n 3, 1) := by decide +kernel
theorem dX5_measureFor_63 : decode cX5_measureFor 63 = .ok (.if_icmp .ne 26, 3) := by decide +kernel
theorem dX5_measureFor_66 : decode cX5_measureFor 66 = .ok (.aload_n 0, 1) := by decide +kernel
theorem dX5_measureFor_67 : decode cX5_measureFor 67 = .ok (.aload 5, 2) := by decide +kernel
theorem dX5_measureFor_69 : decode cX5_measureFor 69 = .ok (.aload 5, 2) := by decide +kernel
theorem dX5_measureFor_71 : decode cX5_measureFor 71 = .ok (.iload_n 1, 1) := by decide +kernel
theorem dX5_measureFor_72 : decode cX5_measureFor 72 = .ok (.invokevirtual 79, 3) := by decide +kernel
theorem dX5_measureFor_75 : decode cX5_measureFor 75 = .ok (.aload_n 0, 1) := by decide +kernel
theorem dX5_measureFor_76 : decode cX5_measureFor 76 = .ok (.getfield 37, 3) := by decide +kernel
theorem dX5_measureFor_79 : decode cX5_measureFor 79 = .ok (.aload 5, 2) := by decide +kernel
theorem dX5_measureFor_81 : decode cX5_measureFor 81 = .ok (.aload_n 2, 1) := by decide +kernel
theorem dX5_measureFor_82 : decode cX5_measureFor 82 = .ok (.invokevirtual 83, 3) := by decide +kernel
theorem dX5_measureFor_85 : decode cX5_measureFor 85 = .ok (.isub, 1) := by decide +kernel
theorem dX5_measureFor_86 : decode cX5_measureFor 86 = .ok (.invokevirtual 87, 3) := by decide +kernel
theorem dX5_measureFor_89 : decode cX5_measureFor 89 = .ok (.iinc 4 1, 3) := by decide +kernel
theorem dX5_measureFor_92 : decode cX5_measureFor 92 = .ok (.goto (-63), 3) := by decide +kernel
theorem dX5_measureFor_95 : decode cX5_measureFor 95 = .ok (.aload_n 0, 1) := by decide +kernel
theorem dX5_measureFor_96 : decode cX5_measureFor 96 = .ok (.aload_n 2, 1) := by decide +kernel
theorem dX5_measureFor_97 : decode cX5_measureFor 97 = .ok (.aload_n 0, 1) := by decide +kernel
theorem dX5_measureFor_98 : decode cX5_measureFor 98 = .ok (.getfield 28, 3) := by decide +kernel
theorem dX5_measureFor_101 : decode cX5_measureFor 101 = .ok (.invokevirtual 91, 3) := by decide +kernel
theorem dX5_measureFor_104 : decode cX5_measureFor 104 = .ok (.iinc 3 1, 3) := by decide +kernel
theorem dX5_measureFor_107 : decode cX5_measureFor 107 = .ok (.goto (-100), 3) := by decide +kernel
theorem dX5_measureFor_110 : decode cX5_measureFor 110 = .ok (.return_, 1) := by decide +kernel
theorem dX5_noteLack_0 : decode cX5_noteLack 0 = .ok (.iload_n 2, 1) := by decide +kernel
theorem dX5_noteLack_1 : decode cX5_noteLack 1 = .ok (.ifCond .gt 4, 3) := by decide +kernel
theorem dX5_noteLack_4 : decode cX5_noteLack 4 = .ok (.return_, 1) := by decide +kernel
theorem dX5_noteLack_5 : decode cX5_noteLack 5 = .ok (.aload_n 0, 1) := by decide +kernel
theorem dX5_noteLack_6 : decode cX5_noteLack 6 = .ok (.getfield 24, 3) := by decide +kernel
theorem dX5_noteLack_9 : decode cX5_noteLack 9 = .ok (.iload_n 2, 1) := by decide +kernel
theorem dX5_noteLack_10 : decode cX5_noteLack 10 = .ok (.aload_n 0, 1) := by decide +kernel
theorem dX5_noteLack_11 : decode cX5_noteLack 11 = .ok (.getfield 37, 3) := by decide +kernel
theorem dX5_noteLack_14 : decode cX5_noteLack 14 = .ok (.getfield 95, 3) := by decide +kernel
theorem dX5_noteLack_17 : decode cX5_noteLack 17 = .ok (.aload_n 1, 1) := by decide +kernel
theorem dX5_noteLack_18 : decode cX5_noteLack 18 = .ok (.getfield 98, 3) := by decide +kernel
theorem dX5_noteLack_21 : decode cX5_noteLack 21 = .ok (.aload_n 1, 1) := by decide +kernel
theorem dX5_noteLack_22 : decode cX5_noteLack 22 = .ok (.getfield 98, 3) := by decide +kernel
theorem dX5_noteLack_25 : decode cX5_noteLack 25 = .ok (.aload_n 1, 1) := by decide +kernel
theorem dX5_noteLack_26 : decode cX5_noteLack 26 = .ok (.getfield 74, 3) := by decide +kernel
theorem dX5_noteLack_29 : decode cX5_noteLack 29 = .ok (.iadd, 1) := by decide +kernel
theorem dX5_noteLack_30 : decode cX5_noteLack 30 = .ok (.invokevirtual 101, 3) := by decide +kernel
theorem dX5_noteLack_33 : decode cX5_noteLack 33 = .ok (.iconst 0, 1) := by decide +kernel
theorem dX5_noteLack_34 : decode cX5_noteLack 34 = .ok (.istore_n 3, 1) := by decide +kernel
theorem dX5_noteLack_35 : decode cX5_noteLack 35 = .ok (.iload_n 3, 1) := by decide +kernel
theorem dX5_noteLack_36 : decode cX5_noteLack 36 = .ok (.bipush 6, 2) := by decide +kernel
theorem dX5_noteLack_38 : decode cX5_noteLack 38 = .ok (.if_icmp .ge 33, 3) := by decide +kernel
theorem dX5_noteLack_41 : decode cX5_noteLack 41 = .ok (.aload_n 0, 1) := by decide +kernel
theorem dX5_noteLack_42 : decode cX5_noteLack 42 = .ok (.getfield 28, 3) := by decide +kernel
theorem dX5_noteLack_45 : decode cX5_noteLack 45 = .ok (.iload_n 3, 1) := by decide +kernel
theorem dX5_noteLack_46 : decode cX5_noteLack 46 = .ok (.aload_n 0, 1) := by decide +kernel
theorem dX5_noteLack_47 : decode cX5_noteLack 47 = .ok (.getfield 28, 3) := by decide +kernel
theorem dX5_noteLack_50 : decode cX5_noteLack 50 = .ok (.iload_n 3, 1) := by decide +kernel
theorem dX5_noteLack_51 : decode cX5_noteLack 51 = .ok (.iaload, 1) := by decide +kernel
theorem dX5_noteLack_52 : decode cX5_noteLack 52 = .ok (.aload_n 0, 1) := by decide +kernel
theorem dX5_noteLack_53 : decode cX5_noteLack 53 = .ok (.getfield 24, 3) := by decide +kernel
theorem dX5_noteLack_56 : decode cX5_noteLack 56 = .ok (.getfield 105, 3) := by decide +kernel
theorem dX5_noteLack_59 : decode cX5_noteLack 59 = .ok (.iload_n 3, 1) := by decide +kernel
theorem dX5_noteLack_60 : decode cX5_noteLack 60 = .ok (.iaload, 1) := by decide +kernel
theorem dX5_noteLack_61 : decode cX5_noteLack 61 = .ok (.invokestatic 55, 3) := by decide +kernel
theorem dX5_noteLack_64 : decode cX5_noteLack 64 = .ok (.iastore, 1) := by decide +kernel
theorem dX5_noteLack_65 : decode cX5_noteLack 65 = .ok (.iinc 3 1, 3) := by decide +kernel
theorem dX5_noteLack_68 : decode cX5_noteLack 68 = .ok (.goto (-33), 3) := by decide +kernel
theorem dX5_noteLack_71 : decode cX5_noteLack 71 = .ok (.return_, 1) := by decide +kernel
theorem dX5_addTo_0 : decode cX5_addTo 0 = .ok (.iconst 0, 1) := by decide +kernel
theorem dX5_addTo_1 : decode cX5_addTo 1 = .ok (.istore_n 3, 1) := by decide +kernel
theorem dX5_addTo_2 : decode cX5_addTo 2 = .ok (.iload_n 3, 1) := by decide +kernel
theorem dX5_addTo_3 : decode cX5_addTo 3 = .ok (.aload_n 0, 1) := by decide +kernel
theorem dX5_addTo_4 : decode cX5_addTo 4 = .ok (.getfield 37, 3) := by decide +kernel
theorem dX5_addTo_7 : decode cX5_addTo 7 = .ok (.getfield 61, 3) := by decide +kernel
theorem dX5_addTo_10 : decode cX5_addTo 10 = .ok (.if_icmp .ge 30, 3) := by decide +kernel
theorem dX5_addTo_13 : decode cX5_addTo 13 = .ok (.iload_n 3, 1) := by decide +kernel
theorem dX5_addTo_14 : decode cX5_addTo 14 = .ok (.aload_n 1, 1) := by decide +kernel
theorem dX5_addTo_15 : decode cX5_addTo 15 = .ok (.arraylength, 1) := by decide +kernel
theorem dX5_addTo_16 : decode cX5_addTo 16 = .ok (.if_icmp .ge 24, 3) := by decide +kernel
theorem dX5_addTo_19 : decode cX5_addTo 19 = .ok (.iload_n 3, 1) := by decide +kernel
theorem dX5_addTo_20 : decode cX5_addTo 20 = .ok (.aload_n 2, 1) := by decide +kernel
theorem dX5_addTo_21 : decode cX5_addTo 21 = .ok (.arraylength, 1) := by decide +kernel
theorem dX5_addTo_22 : decode cX5_addTo 22 = .ok (.if_icmp .ge 18, 3) := by decide +kernel
theorem dX5_addTo_25 : decode cX5_addTo 25 = .ok (.aload_n 1, 1) := by decide +kernel
theorem dX5_addTo_26 : decode cX5_addTo 26 = .ok (.iload_n 3, 1) := by decide +kernel
theorem dX5_addTo_27 : decode cX5_addTo 27 = .ok (.dup2, 1) := by decide +kernel
theorem dX5_addTo_28 : decode cX5_addTo 28 = .ok (.iaload, 1) := by decide +kernel
theorem dX5_addTo_29 : decode cX5_addTo 29 = .ok (.aload_n 2, 1) := by decide +kernel
theorem dX5_addTo_30 : decode cX5_addTo 30 = .ok (.iload_n 3, 1) := by decide +kernel
theorem dX5_addTo_31 : decode cX5_addTo 31 = .ok (.iaload, 1) := by decide +kernel
theorem dX5_addTo_32 : decode cX5_addTo 32 = .ok (.iadd, 1) := by decide +kernel
theorem dX5_addTo_33 : decode cX5_addTo 33 = .ok (.iastore, 1) := by decide +kernel
theorem dX5_addTo_34 : decode cX5_addTo 34 = .ok (.iinc 3 1, 3) := by decide +kernel
theorem dX5_addTo_37 : decode cX5_addTo 37 = .ok (.goto (-35), 3) := by decide +kernel
theorem dX5_addTo_40 : decode cX5_addTo 40 = .ok (.return_, 1) := by decide +kernel
theorem dX5_spareOf_0 : decode cX5_spareOf 0 = .ok (.iload_n 1, 1) := by decide +kernel
theorem dX5_spareOf_1 : decode cX5_spareOf 1 = .ok (.aload_n 0, 1) := by decide +kernel
theorem dX5_spareOf_2 : decode cX5_spareOf 2 = .ok (.getfield 37, 3) := by decide +kernel
theorem dX5_spareOf_5 : decode cX5_spareOf 5 = .ok (.invokevirtual 108, 3) := by decide +kernel
theorem dX5_spareOf_8 : decode cX5_spareOf 8 = .ok (.isub, 1) := by decide +kernel
theorem dX5_spareOf_9 : decode cX5_spareOf 9 = .ok (.aload_n 0, 1) := by decide +kernel
theorem dX5_spareOf_10 : decode cX5_spareOf 10 = .ok (.aload_n 0, 1) := by decide +kernel
theorem dX5_spareOf_11 : decode cX5_spareOf 11 = .ok (.getfield 15, 3) := by decide +kernel
theorem dX5_spareOf_14 : decode cX5_spareOf 14 = .ok (.invokevirtual 112, 3) := by decide +kernel
theorem dX5_spareOf_17 : decode cX5_spareOf 17 = .ok (.isub, 1) := by decide +kernel
theorem dX5_spareOf_18 : decode cX5_spareOf 18 = .ok (.ireturn, 1) := by decide +kernel
theorem dX5_sumOf_0 : decode cX5_sumOf 0 = .ok (.iconst 0, 1) := by decide +kernel
theorem dX5_sumOf_1 : decode cX5_sumOf 1 = .ok (.istore_n 2, 1) := by decide +kernel
theorem dX5_sumOf_2 : decode cX5_sumOf 2 = .ok (.iconst 0, 1) := by decide +kernel
theorem dX5_sumOf_3 : decode cX5_sumOf 3 = .ok (.istore_n 3, 1) := by decide +kernel
theorem dX5_sumOf_4 : decode cX5_sumOf 4 = .ok (.iload_n 3, 1) := by decide +kernel
theorem dX5_sumOf_5 : decode cX5_sumOf 5 = .ok (.aload_n 0, 1) := by decide +kernel
theorem dX5_sumOf_6 : decode cX5_sumOf 6 = .ok (.getfield 37, 3) := by decide +kernel
theorem dX5_sumOf_9 : decode cX5_sumOf 9 = .ok (.getfield 61, 3) := by decide +kernel
theorem dX5_sumOf_12 : decode cX5_sumOf 12 = .ok (.if_icmp .ge 21, 3) := by decide +kernel
theorem dX5_sumOf_15 : decode cX5_sumOf 15 = .ok (.iload_n 3, 1) := by decide +kernel
theorem dX5_sumOf_16 : decode cX5_sumOf 16 = .ok (.aload_n 1, 1) := by decide +kernel
theorem dX5_sumOf_17 : decode cX5_sumOf 17 = .ok (.arraylength, 1) := by decide +kernel
theorem dX5_sumOf_18 : decode cX5_sumOf 18 = .ok (.if_icmp .ge 15, 3) := by decide +kernel
theorem dX5_sumOf_21 : decode cX5_sumOf 21 = .ok (.iload_n 2, 1) := by decide +kernel
theorem dX5_sumOf_22 : decode cX5_sumOf 22 = .ok (.aload_n 1, 1) := by decide +kernel
theorem dX5_sumOf_23 : decode cX5_sumOf 23 = .ok (.iload_n 3, 1) := by decide +kernel
theorem dX5_sumOf_24 : decode cX5_sumOf 24 = .ok (.iaload, 1) := by decide +kernel
theorem dX5_sumOf_25 : decode cX5_sumOf 25 = .ok (.iadd, 1) := by decide +kernel
theorem dX5_sumOf_26 : decode cX5_sumOf 26 = .ok (.istore_n 2, 1) := by decide +kernel
theorem dX5_sumOf_27 : decode cX5_sumOf 27 = .ok (.iinc 3 1, 3) := by decide +kernel
theorem dX5_sumOf_30 : decode cX5_sumOf 30 = .ok (.goto (-26), 3) := by decide +kernel
theorem dX5_sumOf_33 : decode cX5_sumOf 33 = .ok (.iload_n 2, 1) := by decide +kernel
theorem dX5_sumOf_34 : decode cX5_sumOf 34 = .ok (.ireturn, 1) := by decide +kernel
theorem dX5_spread_0 : decode cX5_spread 0 = .ok (.iload_n 1, 1) := by decide +kernel
theorem dX5_spread_1 : decode cX5_spread 1 = .ok (.aload_n 0, 1) := by decide +kernel
theorem dX5_spread_2 : decode cX5_spread 2 = .ok (.aload_n 0, 1) := by decide +kernel
theorem dX5_spread_3 : decode cX5_spread 3 = .ok (.getfield 18, 3) := by decide +kernel
theorem dX5_spread_6 : decode cX5_spread 6 = .ok (.invokevirtual 112, 3) := by decide +kernel
theorem dX5_spread_9 : decode cX5_spread 9 = .ok (.aload_n 0, 1) := by decide +kernel
theorem dX5_spread_10 : decode cX5_spread 10 = .ok (.aload_n 0, 1) := by decide +kernel
theorem dX5_spread_11 : decode cX5_spread 11 = .ok (.getfield 15, 3) := by decide +kernel
theorem dX5_spread_14 : decode cX5_spread 14 = .ok (.invokevirtual 112, 3) := by decide +kernel
theorem dX5_spread_17 : decode cX5_spread 17 = .ok (.isub, 1) := by decide +kernel
theorem dX5_spread_18 : decode cX5_spread 18 = .ok (.isub, 1) := by decide +kernel
theorem dX5_spread_19 : decode cX5_spread 19 = .ok (.istore_n 2, 1) := by decide +kernel
theorem dX5_spread_20 : decode cX5_spread 20 = .ok (.iload_n 2, 1) := by decide +kernel
theorem dX5_spread_21 : decode cX5_spread 21 = .ok (.ifCond .le 44, 3) := by decide +kernel
theorem dX5_spread_24 : decode cX5_spread 24 = .ok (.aload_n 0, 1) := by decide +kernel
theorem dX5_spread_25 : decode cX5_spread 25 = .ok (.getfield 24, 3) := by decide +kernel
theorem dX5_spread_28 : decode cX5_spread 28 = .ok (.iload_n 2, 1) := by decide +kernel
theorem dX5_spread_29 : decode cX5_spread 29 = .ok (.aload_n 0, 1) := by decide +kernel
theorem dX5_spread_30 : decode cX5_spread 30 = .ok (.getfield 37, 3) := by decide +kernel
theorem dX5_spread_33 : decode cX5_spread 33 = .ok (.getfield 95, 3) := by decide +kernel
theorem dX5_spread_36 : decode cX5_spread 36 = .ok (.iconst 0, 1) := by decide +kernel
theorem dX5_spread_37 : decode cX5_spread 37 = .ok (.aload_n 0, 1) := by decide +kernel
theorem dX5_spread_38 : decode cX5_spread 38 = .ok (.getfield 37, 3) := by decide +kernel
theorem dX5_spread_41 : decode cX5_spread 41 = .ok (.getfield 61, 3) := by decide +kernel
theorem dX5_spread_44 : decode cX5_spread 44 = .ok (.invokevirtual 101, 3) := by decide +kernel
theorem dX5_spread_47 : decode cX5_spread 47 = .ok (.aload_n 0, 1) := by decide +kernel
theorem dX5_spread_48 : decode cX5_spread 48 = .ok (.getfield 18, 3) := by decide +kernel
theorem dX5_spread_51 : decode cX5_spread 51 = .ok (.iconst 0, 1) := by decide +kernel
theorem dX5_spread_52 : decode cX5_spread 52 = .ok (.aload_n 0, 1) := by decide +kernel
theorem dX5_spread_53 : decode cX5_spread 53 = .ok (.getfield 9, 3) := by decide +kernel
theorem dX5_spread_56 : decode cX5_spread 56 = .ok (.iconst 0, 1) := by decide +kernel
theorem dX5_spread_57 : decode cX5_spread 57 = .ok (.bipush 6, 2) := by decide +kernel
theorem dX5_spread_59 : decode cX5_spread 59 = .ok (.invokestatic 116, 3) := by decide +kernel
theorem dX5_spread_62 : decode cX5_spread 62 = .ok (.goto 92, 3) := by decide +kernel
theorem dX5_spread_65 : decode cX5_spread 65 = .ok (.iconst 0, 1) := by decide +kernel
theorem dX5_spread_66 : decode cX5_spread 66 = .ok (.istore_n 3, 1) := by decide +kernel
theorem dX5_spread_67 : decode cX5_spread 67 = .ok (.iload_n 3, 1) := by decide +kernel
theorem dX5_spread_68 : decode cX5_spread 68 = .ok (.bipush 6, 2) := by decide +kernel
theorem dX5_spread_70 : decode cX5_spread 70 = .ok (.if_icmp .ge 28, 3) := by decide +kernel
theorem dX5_spread_73 : decode cX5_spread 73 = .ok (.aload_n 0, 1) := by decide +kernel
theorem dX5_spread_74 : decode cX5_spread 74 = .ok (.getfield 31, 3) := by decide +kernel
theorem dX5_spread_77 : decode cX5_spread 77 = .ok (.iload_n 3, 1) := by decide +kernel
theorem dX5_spread_78 : decode cX5_spread 78 = .ok (.aload_n 0, 1) := by decide +kernel
theorem dX5_spread_79 : decode cX5_spread 79 = .ok (.getfield 18, 3) := by decide +kernel
theorem dX5_spread_82 : decode cX5_spread 82 = .ok (.iload_n 3, 1) := by decide +kernel
theorem dX5_spread_83 : decode cX5_spread 83 = .ok (.iaload, 1) := by decide +kernel
theorem dX5_spread_84 : decode cX5_spread 84 = .ok (.aload_n 0, 1) := by decide +kernel
theorem dX5_spread_85 : decode cX5_spread 85 = .ok (.getfield 15, 3) := by decide +kernel
theorem dX5_spread_88 : decode cX5_spread 88 = .ok (.iload_n 3, 1) := by decide +kernel
theorem dX5_spread_89 : decode cX5_spread 89 = .ok (.iaload, 1) := by decide +kernel
theorem dX5_spread_90 : decode cX5_spread 90 = .ok (.isub, 1) := by decide +kernel
theorem dX5_spread_91 : decode cX5_spread 91 = .ok (.iastore, 1) := by decide +kernel
theorem dX5_spread_92 : decode cX5_spread 92 = .ok (.iinc 3 1, 3) := by decide +kernel
theorem dX5_spread_95 : decode cX5_spread 95 = .ok (.goto (-28), 3) := by decide +kernel
theorem dX5_spread_98 : decode cX5_spread 98 = .ok (.aload_n 0, 1) := by decide +kernel
theorem dX5_spread_99 : decode cX5_spread 99 = .ok (.getfield 24, 3) := by decide +kernel
theorem dX5_spread_102 : decode cX5_spread 102 = .ok (.iload_n 1, 1) := by decide +kernel
theorem dX5_spread_103 : decode cX5_spread 103 = .ok (.aload_n 0, 1) := by decide +kernel
theorem dX5_spread_104 : decode cX5_spread 104 = .ok (.aload_n 0, 1) := by decide +kernel
theorem dX5_spread_105 : decode cX5_spread 105 = .ok (.getfield 31, 3) := by decide +kernel
theorem dX5_spread_108 : decode cX5_spread 108 = .ok (.invokevirtual 112, 3) := by decide +kernel
theorem dX5_spread_111 : decode cX5_spread 111 = .ok (.ifCond .le 10, 3) := by decide +kernel
theorem dX5_spread_114 : decode cX5_spread 114 = .ok (.aload_n 0, 1) := by decide +kernel
theorem dX5_spread_115 : decode cX5_spread 115 = .ok (.getfield 31, 3) := by decide +kernel
theorem dX5_spread_118 : decode cX5_spread 118 = .ok (.goto 10, 3) := by decide +kernel
theorem dX5_spread_121 : decode cX5_spread 121 = .ok (.aload_n 0, 1) := by decide +kernel
theorem dX5_spread_122 : decode cX5_spread 122 = .ok (.getfield 37, 3) := by decide +kernel
theorem dX5_spread_125 : decode cX5_spread 125 = .ok (.getfield 95, 3) := by decide +kernel
theorem dX5_spread_128 : decode cX5_spread 128 = .ok (.iconst 0, 1) := by decide +kernel
theorem dX5_spread_129 : decode cX5_spread 129 = .ok (.aload_n 0, 1) := by decide +kernel
theorem dX5_spread_130 : decode cX5_spread 130 = .ok (.getfield 37, 3) := by decide +kernel
theorem dX5_spread_133 : decode cX5_spread 133 = .ok (.getfield 61, 3) := by decide +kernel
theorem dX5_spread_136 : decode cX5_spread 136 = .ok (.invokevirtual 101, 3) := by decide +kernel
theorem dX5_spread_139 : decode cX5_spread 139 = .ok (.aload_n 0, 1) := by decide +kernel
theorem dX5_spread_140 : decode cX5_spread 140 = .ok (.getfield 15, 3) := by decide +kernel
theorem dX5_spread_143 : decode cX5_spread 143 = .ok (.iconst 0, 1) := by decide +kernel
theorem dX5_spread_144 : decode cX5_spread 144 = .ok (.aload_n 0, 1) := by decide +kernel
theorem dX5_spread_145 : decode cX5_spread 145 = .ok (.getfield 9, 3) := by decide +kernel
theorem dX5_spread_148 : decode cX5_spread 148 = .ok (.iconst 0, 1) := by decide +kernel
theorem dX5_spread_149 : decode cX5_spread 149 = .ok (.bipush 6, 2) := by decide +kernel
theorem dX5_spread_151 : decode cX5_spread 151 = .ok (.invokestatic 116, 3) := by decide +kernel
theorem dX5_spread_154 : decode cX5_spread 154 = .ok (.aload_n 0, 1) := by decide +kernel
theorem dX5_spread_155 : decode cX5_spread 155 = .ok (.aload_n 0, 1) := by decide +kernel
theorem dX5_spread_156 : decode cX5_spread 156 = .ok (.getfield 9, 3) := by decide +kernel
theorem dX5_spread_159 : decode cX5_spread 159 = .ok (.aload_n 0, 1) := by decide +kernel
theorem dX5_spread_160 : decode cX5_spread 160 = .ok (.getfield 24, 3) := by decide +kernel
theorem dX5_spread_163 : decode cX5_spread 163 = .ok (.getfield 105, 3) := by decide +kernel
theorem dX5_spread_166 : decode cX5_spread 166 = .ok (.invokevirtual 91, 3) := by decide +kernel
theorem dX5_spread_169 : decode cX5_spread 169 = .ok (.return_, 1) := by decide +kernel
theorem dX5_waysToSpread_0 : decode cX5_waysToSpread 0 = .ok (.lconst 1, 1) := by decide +kernel
theorem dX5_waysToSpread_1 : decode cX5_waysToSpread 1 = .ok (.lstore_n 2, 1) := by decide +kernel
theorem dX5_waysToSpread_2 : decode cX5_waysToSpread 2 = .ok (.iconst 1, 1) := by decide +kernel
theorem dX5_waysToSpread_3 : decode cX5_waysToSpread 3 = .ok (.istore 4, 2) := by decide +kernel
theorem dX5_waysToSpread_5 : decode cX5_waysToSpread 5 = .ok (.iload 4, 2) := by decide +kernel
theorem dX5_waysToSpread_7 : decode cX5_waysToSpread 7 = .ok (.aload_n 0, 1) := by decide +kernel
theorem dX5_waysToSpread_8 : decode cX5_waysToSpread 8 = .ok (.getfield 37, 3) := by decide +kernel
theorem dX5_waysToSpread_11 : decode cX5_waysToSpread 11 = .ok (.getfield 61, 3) := by decide +kernel
theorem dX5_waysToSpread_14 : decode cX5_waysToSpread 14 = .ok (.if_icmp .ge 21, 3) := by decide +kernel
theorem dX5_waysToSpread_17 : decode cX5_waysToSpread 17 = .ok (.lload_n 2, 1) := by decide +kernel
theorem dX5_waysToSpread_18 : decode cX5_waysToSpread 18 = .ok (.iload_n 1, 1) := by decide +kernel
theorem dX5_waysToSpread_19 : decode cX5_waysToSpread 19 = .ok (.iload 4, 2) := by decide +kernel
theorem dX5_waysToSpread_21 : decode cX5_waysToSpread 21 = .ok (.iadd, 1) := by decide +kernel
theorem dX5_waysToSpread_22 : decode cX5_waysToSpread 22 = .ok (.i2l, 1) := by decide +kernel
theorem dX5_waysToSpread_23 : decode cX5_waysToSpread 23 = .ok (.lmul, 1) := by decide +kernel
theorem dX5_waysToSpread_24 : decode cX5_waysToSpread 24 = .ok (.iload 4, 2) := by decide +kernel
theorem dX5_waysToSpread_26 : decode cX5_waysToSpread 26 = .ok (.i2l, 1) := by decide +kernel
theorem dX5_waysToSpread_27 : decode cX5_waysToSpread 27 = .ok (.ldiv, 1) := by decide +kernel
theorem dX5_waysToSpread_28 : decode cX5_waysToSpread 28 = .ok (.lstore_n 2, 1) := by decide +kernel
theorem dX5_waysToSpread_29 : decode cX5_waysToSpread 29 = .ok (.iinc 4 1, 3) := by decide +kernel
theorem dX5_waysToSpread_32 : decode cX5_waysToSpread 32 = .ok (.goto (-27), 3) := by decide +kernel
theorem dX5_waysToSpread_35 : decode cX5_waysToSpread 35 = .ok (.lload_n 2, 1) := by decide +kernel
theorem dX5_waysToSpread_36 : decode cX5_waysToSpread 36 = .ok (.lreturn, 1) := by decide +kernel
theorem dX5_tighten_0 : decode cX5_tighten 0 = .ok (.aload_n 0, 1) := by decide +kernel
theorem dX5_tighten_1 : decode cX5_tighten 1 = .ok (.getfield 15, 3) := by decide +kernel
theorem dX5_tighten_4 : decode cX5_tighten 4 = .ok (.iconst 0, 1) := by decide +kernel
theorem dX5_tighten_5 : decode cX5_tighten 5 = .ok (.aload_n 0, 1) := by decide +kernel
theorem dX5_tighten_6 : decode cX5_tighten 6 = .ok (.getfield 34, 3) := by decide +kernel
theorem dX5_tighten_9 : decode cX5_tighten 9 = .ok (.iconst 0, 1) := by decide +kernel
theorem dX5_tighten_10 : decode cX5_tighten 10 = .ok (.bipush 6, 2) := by decide +kernel
theorem dX5_tighten_12 : decode cX5_tighten 12 = .ok (.invokestatic 116, 3) := by decide +kernel
theorem dX5_tighten_15 : decode cX5_tighten 15 = .ok (.aload_n 0, 1) := by decide +kernel
theorem dX5_tighten_16 : decode cX5_tighten 16 = .ok (.iload_n 1, 1) := by decide +kernel
theorem dX5_tighten_17 : decode cX5_tighten 17 = .ok (.invokevirtual 122, 3) := by decide +kernel
theorem dX5_tighten_20 : decode cX5_tighten 20 = .ok (.aload_n 0, 1) := by decide +kernel
theorem dX5_tighten_21 : decode cX5_tighten 21 = .ok (.getfield 41, 3) := by decide +kernel
theorem dX5_tighten_24 : decode cX5_tighten 24 = .ok (.invokevirtual 126, 3) := by decide +kernel
theorem dX5_tighten_27 : decode cX5_tighten 27 = .ok (.iconst 0, 1) := by decide +kernel
theorem dX5_tighten_28 : decode cX5_tighten 28 = .ok (.istore_n 3, 1) := by decide +kernel
theorem dX5_tighten_29 : decode cX5_tighten 29 = .ok (.iconst 0, 1) := by decide +kernel
theorem dX5_tighten_30 : decode cX5_tighten 30 = .ok (.istore 4, 2) := by decide +kernel
theorem dX5_tighten_32 : decode cX5_tighten 32 = .ok (.iload 4, 2) := by decide +kernel
theorem dX5_tighten_34 : decode cX5_tighten 34 = .ok (.iload_n 2, 1) := by decide +kernel
theorem dX5_tighten_35 : decode cX5_tighten 35 = .ok (.if_icmp .ge 55, 3) := by decide +kernel
theorem dX5_tighten_38 : decode cX5_tighten 38 = .ok (.aload_n 0, 1) := by decide +kernel
theorem dX5_tighten_39 : decode cX5_tighten 39 = .ok (.getfield 41, 3) := by decide +kernel
theorem dX5_tighten_42 : decode cX5_tighten 42 = .ok (.aload_n 0, 1) := by decide +kernel
theorem dX5_tighten_43 : decode cX5_tighten 43 = .ok (.getfield 34, 3) := by decide +kernel
theorem dX5_tighten_46 : decode cX5_tighten 46 = .ok (.invokevirtual 131, 3) := by decide +kernel
theorem dX5_tighten_49 : decode cX5_tighten 49 = .ok (.istore 5, 2) := by decide +kernel
theorem dX5_tighten_51 : decode cX5_tighten 51 = .ok (.iload 4, 2) := by decide +kernel
theorem dX5_tighten_53 : decode cX5_tighten 53 = .ok (.ifCond .eq 9, 3) := by decide +kernel
theorem dX5_tighten_56 : decode cX5_tighten 56 = .ok (.iload 5, 2) := by decide +kernel
theorem dX5_tighten_58 : decode cX5_tighten 58 = .ok (.iload_n 3, 1) := by decide +kernel
theorem dX5_tighten_59 : decode cX5_tighten 59 = .ok (.if_icmp .ge 21, 3) := by decide +kernel
theorem dX5_tighten_62 : decode cX5_tighten 62 = .ok (.iload 5, 2) := by decide +kernel
theorem dX5_tighten_64 : decode cX5_tighten 64 = .ok (.istore_n 3, 1) := by decide +kernel
theorem dX5_tighten_65 : decode cX5_tighten 65 = .ok (.aload_n 0, 1) := by decide +kernel
theorem dX5_tighten_66 : decode cX5_tighten 66 = .ok (.getfield 34, 3) := by decide +kernel
theorem dX5_tighten_69 : decode cX5_tighten 69 = .ok (.iconst 0, 1) := by decide +kernel
theorem dX5_tighten_70 : decode cX5_tighten 70 = .ok (.aload_n 0, 1) := by decide +kernel
theorem dX5_tighten_71 : decode cX5_tighten 71 = .ok (.getfield 9, 3) := by decide +kernel
theorem dX5_tighten_74 : decode cX5_tighten 74 = .ok (.iconst 0, 1) := by decide +kernel
theorem dX5_tighten_75 : decode cX5_tighten 75 = .ok (.bipush 6, 2) := by decide +kernel
theorem dX5_tighten_77 : decode cX5_tighten 77 = .ok (.invokestatic 116, 3) := by decide +kernel
theorem dX5_tighten_80 : decode cX5_tighten 80 = .ok (.aload_n 0, 1) := by decide +kernel
theorem dX5_tighten_81 : decode cX5_tighten 81 = .ok (.invokevirtual 134, 3) := by decide +kernel
theorem dX5_tighten_84 : decode cX5_tighten 84 = .ok (.iinc 4 1, 3) := by decide +kernel
theorem dX5_tighten_87 : decode cX5_tighten 87 = .ok (.goto (-55), 3) := by decide +kernel
theorem dX5_tighten_90 : decode cX5_tighten 90 = .ok (.iload_n 3, 1) := by decide +kernel
theorem dX5_tighten_91 : decode cX5_tighten 91 = .ok (.ireturn, 1) := by decide +kernel
theorem dX5_tryNext_0 : decode cX5_tryNext 0 = .ok (.aload_n 0, 1) := by decide +kernel
theorem dX5_tryNext_1 : decode cX5_tryNext 1 = .ok (.getfield 37, 3) := by decide +kernel
theorem dX5_tryNext_4 : decode cX5_tryNext 4 = .ok (.getfield 61, 3) := by decide +kernel
theorem dX5_tryNext_7 : decode cX5_tryNext 7 = .ok (.bipush 6, 2) := by decide +kernel
theorem dX5_tryNext_9 : decode cX5_tryNext 9 = .ok (.invokestatic 137, 3) := by decide +kernel
theorem dX5_tryNext_12 : decode cX5_tryNext 12 = .ok (.iconst 1, 1) := by decide +kernel
theorem dX5_tryNext_13 : decode cX5_tryNext 13 = .ok (.isub, 1) := by decide +kernel
theorem dX5_tryNext_14 : decode cX5_tryNext 14 = .ok (.istore_n 1, 1) := by decide +kernel
theorem dX5_tryNext_15 : decode cX5_tryNext 15 = .ok (.iload_n 1, 1) := by decide +kernel
theorem dX5_tryNext_16 : decode cX5_tryNext 16 = .ok (.ifCond .le 24, 3) := by decide +kernel
theorem dX5_tryNext_19 : decode cX5_tryNext 19 = .ok (.aload_n 0, 1) := by decide +kernel
theorem dX5_tryNext_20 : decode cX5_tryNext 20 = .ok (.getfield 34, 3) := by decide +kernel
theorem dX5_tryNext_23 : decode cX5_tryNext 23 = .ok (.iload_n 1, 1) := by decide +kernel
theorem dX5_tryNext_24 : decode cX5_tryNext 24 = .ok (.iaload, 1) := by decide +kernel
theorem dX5_tryNext_25 : decode cX5_tryNext 25 = .ok (.aload_n 0, 1) := by decide +kernel
theorem dX5_tryNext_26 : decode cX5_tryNext 26 = .ok (.getfield 15, 3) := by decide +kernel
theorem dX5_tryNext_29 : decode cX5_tryNext 29 = .ok (.iload_n 1, 1) := by decide +kernel
theorem dX5_tryNext_30 : decode cX5_tryNext 30 = .ok (.iaload, 1) := by decide +kernel
theorem dX5_tryNext_31 : decode cX5_tryNext 31 = .ok (.if_icmp .ne 9, 3) := by decide +kernel
theorem dX5_tryNext_34 : decode cX5_tryNext 34 = .ok (.iinc 1 (-1), 3) := by decide +kernel
theorem dX5_tryNext_37 : decode cX5_tryNext 37 = .ok (.goto (-22), 3) := by decide +kernel
theorem dX5_tryNext_40 : decode cX5_tryNext 40 = .ok (.iload_n 1, 1) := by decide +kernel
theorem dX5_tryNext_41 : decode cX5_tryNext 41 = .ok (.iconst 1, 1) := by decide +kernel
theorem dX5_tryNext_42 : decode cX5_tryNext 42 = .ok (.if_icmp .ge 4, 3) := by decide +kernel
theorem dX5_tryNext_45 : decode cX5_tryNext 45 = .ok (.return_, 1) := by decide +kernel
theorem dX5_tryNext_46 : decode cX5_tryNext 46 = .ok (.aload_n 0, 1) := by decide +kernel
theorem dX5_tryNext_47 : decode cX5_tryNext 47 = .ok (.getfield 34, 3) := by decide +kernel
theorem dX5_tryNext_50 : decode cX5_tryNext 50 = .ok (.iload_n 1, 1) := by decide +kernel
theorem dX5_tryNext_51 : decode cX5_tryNext 51 = .ok (.iaload, 1) := by decide +kernel
theorem dX5_tryNext_52 : decode cX5_tryNext 52 = .ok (.aload_n 0, 1) := by decide +kernel
theorem dX5_tryNext_53 : decode cX5_tryNext 53 = .ok (.getfield 15, 3) := by decide +kernel
theorem dX5_tryNext_56 : decode cX5_tryNext 56 = .ok (.iload_n 1, 1) := by decide +kernel
theorem dX5_tryNext_57 : decode cX5_tryNext 57 = .ok (.iaload, 1) := by decide +kernel
theorem dX5_tryNext_58 : decode cX5_tryNext 58 = .ok (.isub, 1) := by decide +kernel
theorem dX5_tryNext_59 : decode cX5_tryNext 59 = .ok (.istore_n 2, 1) := by decide +kernel
theorem dX5_tryNext_60 : decode cX5_tryNext 60 = .ok (.aload_n 0, 1) := by decide +kernel
theorem dX5_tryNext_61 : decode cX5_tryNext 61 = .ok (.getfield 34, 3) := by decide +kernel
theorem dX5_tryNext_64 : decode cX5_tryNext 64 = .ok (.iload_n 1, 1) := by decide +kernel
theorem dX5_tryNext_65 : decode cX5_tryNext 65 = .ok (.aload_n 0, 1) := by decide +kernel
theorem dX5_tryNext_66 : decode cX5_tryNext 66 = .ok (.getfield 15, 3) := by decide +kernel
theorem dX5_tryNext_69 : decode cX5_tryNext 69 = .ok (.iload_n 1, 1) := by decide +kernel
theorem dX5_tryNext_70 : decode cX5_tryNext 70 = .ok (.iaload, 1) := by decide +kernel
theorem dX5_tryNext_71 : decode cX5_tryNext 71 = .ok (.iastore, 1) := by decide +kernel
theorem dX5_tryNext_72 : decode cX5_tryNext 72 = .ok (.aload_n 0, 1) := by decide +kernel
theorem dX5_tryNext_73 : decode cX5_tryNext 73 = .ok (.getfield 34, 3) := by decide +kernel
theorem dX5_tryNext_76 : decode cX5_tryNext 76 = .ok (.iload_n 1, 1) := by decide +kernel
theorem dX5_tryNext_77 : decode cX5_tryNext 77 = .ok (.iconst 1, 1) := by decide +kernel
theorem dX5_tryNext_78 : decode cX5_tryNext 78 = .ok (.isub, 1) := by decide +kernel
theorem dX5_tryNext_79 : decode cX5_tryNext 79 = .ok (.dup2, 1) := by decide +kernel
theorem dX5_tryNext_80 : decode cX5_tryNext 80 = .ok (.iaload, 1) := by decide +kernel
theorem dX5_tryNext_81 : decode cX5_tryNext 81 = .ok (.iconst 1, 1) := by decide +kernel
theorem dX5_tryNext_82 : decode cX5_tryNext 82 = .ok (.iadd, 1) := by decide +kernel
theorem dX5_tryNext_83 : decode cX5_tryNext 83 = .ok (.iastore, 1) := by decide +kernel
theorem dX5_tryNext_84 : decode cX5_tryNext 84 = .ok (.aload_n 0, 1) := by decide +kernel
theorem dX5_tryNext_85 : decode cX5_tryNext 85 = .ok (.iload_n 2, 1) := by decide +kernel
theorem dX5_tryNext_86 : decode cX5_tryNext 86 = .ok (.iconst 1, 1) := by decide +kernel
theorem dX5_tryNext_87 : decode cX5_tryNext 87 = .ok (.isub, 1) := by decide +kernel
theorem dX5_tryNext_88 : decode cX5_tryNext 88 = .ok (.invokevirtual 122, 3) := by decide +kernel
theorem dX5_tryNext_91 : decode cX5_tryNext 91 = .ok (.return_, 1) := by decide +kernel
theorem dX5_addToLast_0 : decode cX5_addToLast 0 = .ok (.aload_n 0, 1) := by decide +kernel
theorem dX5_addToLast_1 : decode cX5_addToLast 1 = .ok (.getfield 37, 3) := by decide +kernel
theorem dX5_addToLast_4 : decode cX5_addToLast 4 = .ok (.getfield 61, 3) := by decide +kernel
theorem dX5_addToLast_7 : decode cX5_addToLast 7 = .ok (.iconst 1, 1) := by decide +kernel
theorem dX5_addToLast_8 : decode cX5_addToLast 8 = .ok (.isub, 1) := by decide +kernel
theorem dX5_addToLast_9 : decode cX5_addToLast 9 = .ok (.istore_n 2, 1) := by decide +kernel
theorem dX5_addToLast_10 : decode cX5_addToLast 10 = .ok (.iload_n 2, 1) := by decide +kernel
theorem dX5_addToLast_11 : decode cX5_addToLast 11 = .ok (.ifCond .lt 22, 3) := by decide +kernel
theorem dX5_addToLast_14 : decode cX5_addToLast 14 = .ok (.iload_n 2, 1) := by decide +kernel
theorem dX5_addToLast_15 : decode cX5_addToLast 15 = .ok (.aload_n 0, 1) := by decide +kernel
theorem dX5_addToLast_16 : decode cX5_addToLast 16 = .ok (.getfield 34, 3) := by decide +kernel
theorem dX5_addToLast_19 : decode cX5_addToLast 19 = .ok (.arraylength, 1) := by decide +kernel
theorem dX5_addToLast_20 : decode cX5_addToLast 20 = .ok (.if_icmp .ge 13, 3) := by decide +kernel
theorem dX5_addToLast_23 : decode cX5_addToLast 23 = .ok (.aload_n 0, 1) := by decide +kernel
theorem dX5_addToLast_24 : decode cX5_addToLast 24 = .ok (.getfield 34, 3) := by decide +kernel
theorem dX5_addToLast_27 : decode cX5_addToLast 27 = .ok (.iload_n 2, 1) := by decide +kernel
theorem dX5_addToLast_28 : decode cX5_addToLast 28 = .ok (.dup2, 1) := by decide +kernel
theorem dX5_addToLast_29 : decode cX5_addToLast 29 = .ok (.iaload, 1) := by decide +kernel
theorem dX5_addToLast_30 : decode cX5_addToLast 30 = .ok (.iload_n 1, 1) := by decide +kernel
theorem dX5_addToLast_31 : decode cX5_addToLast 31 = .ok (.iadd, 1) := by decide +kernel
theorem dX5_addToLast_32 : decode cX5_addToLast 32 = .ok (.iastore, 1) := by decide +kernel
theorem dX5_addToLast_33 : decode cX5_addToLast 33 = .ok (.return_, 1) := by decide +kernel
