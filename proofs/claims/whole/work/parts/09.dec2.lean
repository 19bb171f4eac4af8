theorem dX6_init_0 : decode cX6_init 0 = .ok (.aload_n 0, 1) := by decide +kernel
theorem dX6_init_1 : decode cX6_init 1 = .ok (.invokespecial 1, 3) := by decide +kernel
theorem dX6_init_4 : decode cX6_init 4 = .ok (.aload_n 0, 1) := by decide +kernel
theorem dX6_init_5 : decode cX6_init 5 = .ok (.new 7, 3) := by decide +kernel
theorem dX6_init_8 : decode cX6_init 8 = .ok (.dup, 1) := by decide +kernel
theorem dX6_init_9 : decode cX6_init 9 = .ok (.invokespecial 9, 3) := by decide +kernel
theorem dX6_init_12 : decode cX6_init 12 = .ok (.putfield 10, 3) := by decide +kernel
theorem dX6_init_15 : decode cX6_init 15 = .ok (.aload_n 0, 1) := by decide +kernel
theorem dX6_init_16 : decode cX6_init 16 = .ok (.new 16, 3) := by decide +kernel
theorem dX6_init_19 : decode cX6_init 19 = .ok (.dup, 1) := by decide +kernel
theorem dX6_init_20 : decode cX6_init 20 = .ok (.aload_n 0, 1) := by decide +kernel
theorem dX6_init_21 : decode cX6_init 21 = .ok (.getfield 10, 3) := by decide +kernel
theorem dX6_init_24 : decode cX6_init 24 = .ok (.invokespecial 18, 3) := by decide +kernel
theorem dX6_init_27 : decode cX6_init 27 = .ok (.putfield 21, 3) := by decide +kernel
theorem dX6_init_30 : decode cX6_init 30 = .ok (.aload_n 0, 1) := by decide +kernel
theorem dX6_init_31 : decode cX6_init 31 = .ok (.new 25, 3) := by decide +kernel
theorem dX6_init_34 : decode cX6_init 34 = .ok (.dup, 1) := by decide +kernel
theorem dX6_init_35 : decode cX6_init 35 = .ok (.aload_n 0, 1) := by decide +kernel
theorem dX6_init_36 : decode cX6_init 36 = .ok (.getfield 10, 3) := by decide +kernel
theorem dX6_init_39 : decode cX6_init 39 = .ok (.aload_n 0, 1) := by decide +kernel
theorem dX6_init_40 : decode cX6_init 40 = .ok (.getfield 21, 3) := by decide +kernel
theorem dX6_init_43 : decode cX6_init 43 = .ok (.invokespecial 27, 3) := by decide +kernel
theorem dX6_init_46 : decode cX6_init 46 = .ok (.putfield 30, 3) := by decide +kernel
theorem dX6_init_49 : decode cX6_init 49 = .ok (.aload_n 0, 1) := by decide +kernel
theorem dX6_init_50 : decode cX6_init 50 = .ok (.new 34, 3) := by decide +kernel
theorem dX6_init_53 : decode cX6_init 53 = .ok (.dup, 1) := by decide +kernel
theorem dX6_init_54 : decode cX6_init 54 = .ok (.aload_n 0, 1) := by decide +kernel
theorem dX6_init_55 : decode cX6_init 55 = .ok (.getfield 10, 3) := by decide +kernel
theorem dX6_init_58 : decode cX6_init 58 = .ok (.aload_n 0, 1) := by decide +kernel
theorem dX6_init_59 : decode cX6_init 59 = .ok (.getfield 21, 3) := by decide +kernel
theorem dX6_init_62 : decode cX6_init 62 = .ok (.invokespecial 36, 3) := by decide +kernel
theorem dX6_init_65 : decode cX6_init 65 = .ok (.putfield 37, 3) := by decide +kernel
theorem dX6_init_68 : decode cX6_init 68 = .ok (.aload_n 0, 1) := by decide +kernel
theorem dX6_init_69 : decode cX6_init 69 = .ok (.bipush 7, 2) := by decide +kernel
theorem dX6_init_71 : decode cX6_init 71 = .ok (.newarray .int, 2) := by decide +kernel
theorem dX6_init_73 : decode cX6_init 73 = .ok (.putfield 41, 3) := by decide +kernel
theorem dX6_init_76 : decode cX6_init 76 = .ok (.aload_n 0, 1) := by decide +kernel
theorem dX6_init_77 : decode cX6_init 77 = .ok (.iconst 0, 1) := by decide +kernel
theorem dX6_init_78 : decode cX6_init 78 = .ok (.putfield 45, 3) := by decide +kernel
theorem dX6_init_81 : decode cX6_init 81 = .ok (.aload_n 0, 1) := by decide +kernel
theorem dX6_init_82 : decode cX6_init 82 = .ok (.bipush (-9), 2) := by decide +kernel
theorem dX6_init_84 : decode cX6_init 84 = .ok (.putfield 49, 3) := by decide +kernel
theorem dX6_init_87 : decode cX6_init 87 = .ok (.aload_n 0, 1) := by decide +kernel
theorem dX6_init_88 : decode cX6_init 88 = .ok (.iconst 0, 1) := by decide +kernel
theorem dX6_init_89 : decode cX6_init 89 = .ok (.putfield 52, 3) := by decide +kernel
theorem dX6_init_92 : decode cX6_init 92 = .ok (.return_, 1) := by decide +kernel
theorem dX6_table_0 : decode cX6_table 0 = .ok (.iload_n 1, 1) := by decide +kernel
theorem dX6_table_1 : decode cX6_table 1 = .ok (.iconst 1, 1) := by decide +kernel
theorem dX6_table_2 : decode cX6_table 2 = .ok (.bipush 16, 2) := by decide +kernel
theorem dX6_table_4 : decode cX6_table 4 = .ok (.invokestatic 55, 3) := by decide +kernel
theorem dX6_table_7 : decode cX6_table 7 = .ok (.ifCond .eq 22, 3) := by decide +kernel
theorem dX6_table_10 : decode cX6_table 10 = .ok (.iload_n 2, 1) := by decide +kernel
theorem dX6_table_11 : decode cX6_table 11 = .ok (.iconst 1, 1) := by decide +kernel
theorem dX6_table_12 : decode cX6_table 12 = .ok (.bipush 6, 2) := by decide +kernel
theorem dX6_table_14 : decode cX6_table 14 = .ok (.invokestatic 55, 3) := by decide +kernel
theorem dX6_table_17 : decode cX6_table 17 = .ok (.ifCond .eq 12, 3) := by decide +kernel
theorem dX6_table_20 : decode cX6_table 20 = .ok (.iload_n 3, 1) := by decide +kernel
theorem dX6_table_21 : decode cX6_table 21 = .ok (.iconst 0, 1) := by decide +kernel
theorem dX6_table_22 : decode cX6_table 22 = .ok (.iconst 3, 1) := by decide +kernel
theorem dX6_table_23 : decode cX6_table 23 = .ok (.invokestatic 55, 3) := by decide +kernel
theorem dX6_table_26 : decode cX6_table 26 = .ok (.ifCond .ne 5, 3) := by decide +kernel
theorem dX6_table_29 : decode cX6_table 29 = .ok (.iconst (-1), 1) := by decide +kernel
theorem dX6_table_30 : decode cX6_table 30 = .ok (.ireturn, 1) := by decide +kernel
theorem dX6_table_31 : decode cX6_table 31 = .ok (.aload_n 0, 1) := by decide +kernel
theorem dX6_table_32 : decode cX6_table 32 = .ok (.getfield 10, 3) := by decide +kernel
theorem dX6_table_35 : decode cX6_table 35 = .ok (.iload_n 1, 1) := by decide +kernel
theorem dX6_table_36 : decode cX6_table 36 = .ok (.iload_n 2, 1) := by decide +kernel
theorem dX6_table_37 : decode cX6_table 37 = .ok (.iload_n 3, 1) := by decide +kernel
theorem dX6_table_38 : decode cX6_table 38 = .ok (.invokevirtual 59, 3) := by decide +kernel
theorem dX6_table_41 : decode cX6_table 41 = .ok (.aload_n 0, 1) := by decide +kernel
theorem dX6_table_42 : decode cX6_table 42 = .ok (.getfield 30, 3) := by decide +kernel
theorem dX6_table_45 : decode cX6_table 45 = .ok (.invokevirtual 63, 3) := by decide +kernel
theorem dX6_table_48 : decode cX6_table 48 = .ok (.aload_n 0, 1) := by decide +kernel
theorem dX6_table_49 : decode cX6_table 49 = .ok (.getfield 37, 3) := by decide +kernel
theorem dX6_table_52 : decode cX6_table 52 = .ok (.invokevirtual 66, 3) := by decide +kernel
theorem dX6_table_55 : decode cX6_table 55 = .ok (.aload_n 0, 1) := by decide +kernel
theorem dX6_table_56 : decode cX6_table 56 = .ok (.bipush (-9), 2) := by decide +kernel
theorem dX6_table_58 : decode cX6_table 58 = .ok (.putfield 49, 3) := by decide +kernel
theorem dX6_table_61 : decode cX6_table 61 = .ok (.iload_n 1, 1) := by decide +kernel
theorem dX6_table_62 : decode cX6_table 62 = .ok (.iload_n 2, 1) := by decide +kernel
theorem dX6_table_63 : decode cX6_table 63 = .ok (.imul, 1) := by decide +kernel
theorem dX6_table_64 : decode cX6_table 64 = .ok (.ireturn, 1) := by decide +kernel
theorem dX6_weight_0 : decode cX6_weight 0 = .ok (.iload_n 1, 1) := by decide +kernel
theorem dX6_weight_1 : decode cX6_weight 1 = .ok (.iconst 0, 1) := by decide +kernel
theorem dX6_weight_2 : decode cX6_weight 2 = .ok (.aload_n 0, 1) := by decide +kernel
theorem dX6_weight_3 : decode cX6_weight 3 = .ok (.getfield 10, 3) := by decide +kernel
theorem dX6_weight_6 : decode cX6_weight 6 = .ok (.getfield 67, 3) := by decide +kernel
theorem dX6_weight_9 : decode cX6_weight 9 = .ok (.iconst 1, 1) := by decide +kernel
theorem dX6_weight_10 : decode cX6_weight 10 = .ok (.isub, 1) := by decide +kernel
theorem dX6_weight_11 : decode cX6_weight 11 = .ok (.invokestatic 55, 3) := by decide +kernel
theorem dX6_weight_14 : decode cX6_weight 14 = .ok (.ifCond .eq 13, 3) := by decide +kernel
theorem dX6_weight_17 : decode cX6_weight 17 = .ok (.iload_n 2, 1) := by decide +kernel
theorem dX6_weight_18 : decode cX6_weight 18 = .ok (.iconst 1, 1) := by decide +kernel
theorem dX6_weight_19 : decode cX6_weight 19 = .ok (.bipush 9, 2) := by decide +kernel
theorem dX6_weight_21 : decode cX6_weight 21 = .ok (.invokestatic 55, 3) := by decide +kernel
theorem dX6_weight_24 : decode cX6_weight 24 = .ok (.ifCond .ne 5, 3) := by decide +kernel
theorem dX6_weight_27 : decode cX6_weight 27 = .ok (.iconst (-1), 1) := by decide +kernel
theorem dX6_weight_28 : decode cX6_weight 28 = .ok (.ireturn, 1) := by decide +kernel
theorem dX6_weight_29 : decode cX6_weight 29 = .ok (.aload_n 0, 1) := by decide +kernel
theorem dX6_weight_30 : decode cX6_weight 30 = .ok (.getfield 10, 3) := by decide +kernel
theorem dX6_weight_33 : decode cX6_weight 33 = .ok (.getfield 70, 3) := by decide +kernel
theorem dX6_weight_36 : decode cX6_weight 36 = .ok (.iload_n 1, 1) := by decide +kernel
theorem dX6_weight_37 : decode cX6_weight 37 = .ok (.iaload, 1) := by decide +kernel
theorem dX6_weight_38 : decode cX6_weight 38 = .ok (.istore_n 3, 1) := by decide +kernel
theorem dX6_weight_39 : decode cX6_weight 39 = .ok (.aload_n 0, 1) := by decide +kernel
theorem dX6_weight_40 : decode cX6_weight 40 = .ok (.getfield 10, 3) := by decide +kernel
theorem dX6_weight_43 : decode cX6_weight 43 = .ok (.getfield 70, 3) := by decide +kernel
theorem dX6_weight_46 : decode cX6_weight 46 = .ok (.iload_n 1, 1) := by decide +kernel
theorem dX6_weight_47 : decode cX6_weight 47 = .ok (.iload_n 2, 1) := by decide +kernel
theorem dX6_weight_48 : decode cX6_weight 48 = .ok (.iastore, 1) := by decide +kernel
theorem dX6_weight_49 : decode cX6_weight 49 = .ok (.iload_n 3, 1) := by decide +kernel
theorem dX6_weight_50 : decode cX6_weight 50 = .ok (.ireturn, 1) := by decide +kernel
theorem dX6_note_0 : decode cX6_note 0 = .ok (.iload_n 1, 1) := by decide +kernel
theorem dX6_note_1 : decode cX6_note 1 = .ok (.iconst 0, 1) := by decide +kernel
theorem dX6_note_2 : decode cX6_note 2 = .ok (.bipush 9, 2) := by decide +kernel
theorem dX6_note_4 : decode cX6_note 4 = .ok (.invokestatic 55, 3) := by decide +kernel
theorem dX6_note_7 : decode cX6_note 7 = .ok (.ifCond .eq 13, 3) := by decide +kernel
theorem dX6_note_10 : decode cX6_note 10 = .ok (.iload_n 2, 1) := by decide +kernel
theorem dX6_note_11 : decode cX6_note 11 = .ok (.iconst 1, 1) := by decide +kernel
theorem dX6_note_12 : decode cX6_note 12 = .ok (.bipush 6, 2) := by decide +kernel
theorem dX6_note_14 : decode cX6_note 14 = .ok (.invokestatic 55, 3) := by decide +kernel
theorem dX6_note_17 : decode cX6_note 17 = .ok (.ifCond .ne 5, 3) := by decide +kernel
theorem dX6_note_20 : decode cX6_note 20 = .ok (.iconst (-1), 1) := by decide +kernel
theorem dX6_note_21 : decode cX6_note 21 = .ok (.ireturn, 1) := by decide +kernel
theorem dX6_note_22 : decode cX6_note 22 = .ok (.aload_n 0, 1) := by decide +kernel
theorem dX6_note_23 : decode cX6_note 23 = .ok (.getfield 10, 3) := by decide +kernel
theorem dX6_note_26 : decode cX6_note 26 = .ok (.getfield 73, 3) := by decide +kernel
theorem dX6_note_29 : decode cX6_note 29 = .ok (.iload_n 1, 1) := by decide +kernel
theorem dX6_note_30 : decode cX6_note 30 = .ok (.iaload, 1) := by decide +kernel
theorem dX6_note_31 : decode cX6_note 31 = .ok (.istore_n 3, 1) := by decide +kernel
theorem dX6_note_32 : decode cX6_note 32 = .ok (.aload_n 0, 1) := by decide +kernel
theorem dX6_note_33 : decode cX6_note 33 = .ok (.getfield 10, 3) := by decide +kernel
theorem dX6_note_36 : decode cX6_note 36 = .ok (.getfield 73, 3) := by decide +kernel
theorem dX6_note_39 : decode cX6_note 39 = .ok (.iload_n 1, 1) := by decide +kernel
theorem dX6_note_40 : decode cX6_note 40 = .ok (.iload_n 2, 1) := by decide +kernel
theorem dX6_note_41 : decode cX6_note 41 = .ok (.iastore, 1) := by decide +kernel
theorem dX6_note_42 : decode cX6_note 42 = .ok (.iload_n 3, 1) := by decide +kernel
theorem dX6_note_43 : decode cX6_note 43 = .ok (.ireturn, 1) := by decide +kernel
theorem dX6_cell_0 : decode cX6_cell 0 = .ok (.iload_n 1, 1) := by decide +kernel
theorem dX6_cell_1 : decode cX6_cell 1 = .ok (.iconst 0, 1) := by decide +kernel
theorem dX6_cell_2 : decode cX6_cell 2 = .ok (.iconst 3, 1) := by decide +kernel
theorem dX6_cell_3 : decode cX6_cell 3 = .ok (.invokestatic 55, 3) := by decide +kernel
theorem dX6_cell_6 : decode cX6_cell 6 = .ok (.ifCond .eq 24, 3) := by decide +kernel
theorem dX6_cell_9 : decode cX6_cell 9 = .ok (.aload_n 0, 1) := by decide +kernel
theorem dX6_cell_10 : decode cX6_cell 10 = .ok (.iload_n 2, 1) := by decide +kernel
theorem dX6_cell_11 : decode cX6_cell 11 = .ok (.iload_n 3, 1) := by decide +kernel
theorem dX6_cell_12 : decode cX6_cell 12 = .ok (.invokevirtual 76, 3) := by decide +kernel
theorem dX6_cell_15 : decode cX6_cell 15 = .ok (.ifCond .eq 15, 3) := by decide +kernel
theorem dX6_cell_18 : decode cX6_cell 18 = .ok (.iload 4, 2) := by decide +kernel
theorem dX6_cell_20 : decode cX6_cell 20 = .ok (.iconst 1, 1) := by decide +kernel
theorem dX6_cell_21 : decode cX6_cell 21 = .ok (.if_icmp .lt 9, 3) := by decide +kernel
theorem dX6_cell_24 : decode cX6_cell 24 = .ok (.iload 5, 2) := by decide +kernel
theorem dX6_cell_26 : decode cX6_cell 26 = .ok (.iconst 1, 1) := by decide +kernel
theorem dX6_cell_27 : decode cX6_cell 27 = .ok (.if_icmp .ge 5, 3) := by decide +kernel
theorem dX6_cell_30 : decode cX6_cell 30 = .ok (.iconst (-1), 1) := by decide +kernel
theorem dX6_cell_31 : decode cX6_cell 31 = .ok (.ireturn, 1) := by decide +kernel
theorem dX6_cell_32 : decode cX6_cell 32 = .ok (.aload_n 0, 1) := by decide +kernel
theorem dX6_cell_33 : decode cX6_cell 33 = .ok (.getfield 10, 3) := by decide +kernel
theorem dX6_cell_36 : decode cX6_cell 36 = .ok (.getfield 80, 3) := by decide +kernel
theorem dX6_cell_39 : decode cX6_cell 39 = .ok (.bipush 40, 2) := by decide +kernel
theorem dX6_cell_41 : decode cX6_cell 41 = .ok (.if_icmp .lt 6, 3) := by decide +kernel
theorem dX6_cell_44 : decode cX6_cell 44 = .ok (.bipush (-2), 2) := by decide +kernel
theorem dX6_cell_46 : decode cX6_cell 46 = .ok (.ireturn, 1) := by decide +kernel
theorem dX6_cell_47 : decode cX6_cell 47 = .ok (.iload 4, 2) := by decide +kernel
theorem dX6_cell_49 : decode cX6_cell 49 = .ok (.aload_n 0, 1) := by decide +kernel
theorem dX6_cell_50 : decode cX6_cell 50 = .ok (.getfield 10, 3) := by decide +kernel
theorem dX6_cell_53 : decode cX6_cell 53 = .ok (.getfield 83, 3) := by decide +kernel
theorem dX6_cell_56 : decode cX6_cell 56 = .ok (.iload_n 2, 1) := by decide +kernel
theorem dX6_cell_57 : decode cX6_cell 57 = .ok (.isub, 1) := by decide +kernel
theorem dX6_cell_58 : decode cX6_cell 58 = .ok (.if_icmp .gt 17, 3) := by decide +kernel
theorem dX6_cell_61 : decode cX6_cell 61 = .ok (.iload 5, 2) := by decide +kernel
theorem dX6_cell_63 : decode cX6_cell 63 = .ok (.aload_n 0, 1) := by decide +kernel
theorem dX6_cell_64 : decode cX6_cell 64 = .ok (.getfield 10, 3) := by decide +kernel
theorem dX6_cell_67 : decode cX6_cell 67 = .ok (.getfield 67, 3) := by decide +kernel
theorem dX6_cell_70 : decode cX6_cell 70 = .ok (.iload_n 3, 1) := by decide +kernel
theorem dX6_cell_71 : decode cX6_cell 71 = .ok (.isub, 1) := by decide +kernel
theorem dX6_cell_72 : decode cX6_cell 72 = .ok (.if_icmp .le 9, 3) := by decide +kernel
theorem dX6_cell_75 : decode cX6_cell 75 = .ok (.aload_n 0, 1) := by decide +kernel
theorem dX6_cell_76 : decode cX6_cell 76 = .ok (.iconst 2, 1) := by decide +kernel
theorem dX6_cell_77 : decode cX6_cell 77 = .ok (.invokevirtual 86, 3) := by decide +kernel
theorem dX6_cell_80 : decode cX6_cell 80 = .ok (.ireturn, 1) := by decide +kernel
theorem dX6_cell_81 : decode cX6_cell 81 = .ok (.aload_n 0, 1) := by decide +kernel
theorem dX6_cell_82 : decode cX6_cell 82 = .ok (.getfield 10, 3) := by decide +kernel
theorem dX6_cell_85 : decode cX6_cell 85 = .ok (.iload_n 2, 1) := by decide +kernel
theorem dX6_cell_86 : decode cX6_cell 86 = .ok (.iload_n 3, 1) := by decide +kernel
theorem dX6_cell_87 : decode cX6_cell 87 = .ok (.iload 4, 2) := by decide +kernel
theorem dX6_cell_89 : decode cX6_cell 89 = .ok (.iload 5, 2) := by decide +kernel
theorem dX6_cell_91 : decode cX6_cell 91 = .ok (.invokevirtual 90, 3) := by decide +kernel
theorem dX6_cell_94 : decode cX6_cell 94 = .ok (.istore 6, 2) := by decide +kernel
theorem dX6_cell_96 : decode cX6_cell 96 = .ok (.iload 6, 2) := by decide +kernel
theorem dX6_cell_98 : decode cX6_cell 98 = .ok (.bipush (-9), 2) := by decide +kernel
theorem dX6_cell_100 : decode cX6_cell 100 = .ok (.if_icmp .eq 16, 3) := by decide +kernel
theorem dX6_cell_103 : decode cX6_cell 103 = .ok (.aload_n 0, 1) := by decide +kernel
theorem dX6_cell_104 : decode cX6_cell 104 = .ok (.iload 6, 2) := by decide +kernel
theorem dX6_cell_106 : decode cX6_cell 106 = .ok (.putfield 49, 3) := by decide +kernel
theorem dX6_cell_109 : decode cX6_cell 109 = .ok (.aload_n 0, 1) := by decide +kernel
theorem dX6_cell_110 : decode cX6_cell 110 = .ok (.bipush 6, 2) := by decide +kernel
theorem dX6_cell_112 : decode cX6_cell 112 = .ok (.invokevirtual 86, 3) := by decide +kernel
theorem dX6_cell_115 : decode cX6_cell 115 = .ok (.ireturn, 1) := by decide +kernel
theorem dX6_cell_116 : decode cX6_cell 116 = .ok (.aload_n 0, 1) := by decide +kernel
theorem dX6_cell_117 : decode cX6_cell 117 = .ok (.getfield 10, 3) := by decide +kernel
theorem dX6_cell_120 : decode cX6_cell 120 = .ok (.iload_n 1, 1) := by decide +kernel
theorem dX6_cell_121 : decode cX6_cell 121 = .ok (.iload_n 2, 1) := by decide +kernel
theorem dX6_cell_122 : decode cX6_cell 122 = .ok (.iload_n 3, 1) := by decide +kernel
theorem dX6_cell_123 : decode cX6_cell 123 = .ok (.iload 4, 2) := by decide +kernel
theorem dX6_cell_125 : decode cX6_cell 125 = .ok (.iload 5, 2) := by decide +kernel
theorem dX6_cell_127 : decode cX6_cell 127 = .ok (.invokevirtual 94, 3) := by decide +kernel
theorem dX6_cell_130 : decode cX6_cell 130 = .ok (.ireturn, 1) := by decide +kernel
theorem dX6_clash_0 : decode cX6_clash 0 = .ok (.aload_n 0, 1) := by decide +kernel
theorem dX6_clash_1 : decode cX6_clash 1 = .ok (.getfield 49, 3) := by decide +kernel
theorem dX6_clash_4 : decode cX6_clash 4 = .ok (.ireturn, 1) := by decide +kernel
theorem dX6_drop_0 : decode cX6_drop 0 = .ok (.aload_n 0, 1) := by decide +kernel
theorem dX6_drop_1 : decode cX6_drop 1 = .ok (.getfield 10, 3) := by decide +kernel
theorem dX6_drop_4 : decode cX6_drop 4 = .ok (.iload_n 1, 1) := by decide +kernel
theorem dX6_drop_5 : decode cX6_drop 5 = .ok (.invokevirtual 98, 3) := by decide +kernel
theorem dX6_drop_8 : decode cX6_drop 8 = .ok (.astore_n 2, 1) := by decide +kernel
theorem dX6_drop_9 : decode cX6_drop 9 = .ok (.aload_n 2, 1) := by decide +kernel
theorem dX6_drop_10 : decode cX6_drop 10 = .ok (.ifnonnull 5, 3) := by decide +kernel
theorem dX6_drop_13 : decode cX6_drop 13 = .ok (.iconst (-1), 1) := by decide +kernel
theorem dX6_drop_14 : decode cX6_drop 14 = .ok (.ireturn, 1) := by decide +kernel
theorem dX6_drop_15 : decode cX6_drop 15 = .ok (.aload_n 2, 1) := by decide +kernel
theorem dX6_drop_16 : decode cX6_drop 16 = .ok (.getfield 102, 3) := by decide +kernel
theorem dX6_drop_19 : decode cX6_drop 19 = .ok (.ifCond .eq 9, 3) := by decide +kernel
theorem dX6_drop_22 : decode cX6_drop 22 = .ok (.aload_n 0, 1) := by decide +kernel
theorem dX6_drop_23 : decode cX6_drop 23 = .ok (.iconst 1, 1) := by decide +kernel
theorem dX6_drop_24 : decode cX6_drop 24 = .ok (.invokevirtual 86, 3) := by decide +kernel
theorem dX6_drop_27 : decode cX6_drop 27 = .ok (.ireturn, 1) := by decide +kernel
theorem dX6_drop_28 : decode cX6_drop 28 = .ok (.aload_n 2, 1) := by decide +kernel
theorem dX6_drop_29 : decode cX6_drop 29 = .ok (.iconst 1, 1) := by decide +kernel
theorem dX6_drop_30 : decode cX6_drop 30 = .ok (.putfield 102, 3) := by decide +kernel
theorem dX6_drop_33 : decode cX6_drop 33 = .ok (.iconst 1, 1) := by decide +kernel
theorem dX6_drop_34 : decode cX6_drop 34 = .ok (.ireturn, 1) := by decide +kernel
theorem dX6_told_0 : decode cX6_told 0 = .ok (.aload_n 0, 1) := by decide +kernel
theorem dX6_told_1 : decode cX6_told 1 = .ok (.getfield 10, 3) := by decide +kernel
theorem dX6_told_4 : decode cX6_told 4 = .ok (.iload_n 1, 1) := by decide +kernel
theorem dX6_told_5 : decode cX6_told 5 = .ok (.invokevirtual 98, 3) := by decide +kernel
theorem dX6_told_8 : decode cX6_told 8 = .ok (.astore_n 3, 1) := by decide +kernel
theorem dX6_told_9 : decode cX6_told 9 = .ok (.aload_n 3, 1) := by decide +kernel
theorem dX6_told_10 : decode cX6_told 10 = .ok (.ifnull 13, 3) := by decide +kernel
theorem dX6_told_13 : decode cX6_told 13 = .ok (.iload_n 2, 1) := by decide +kernel
theorem dX6_told_14 : decode cX6_told 14 = .ok (.iconst 0, 1) := by decide +kernel
theorem dX6_told_15 : decode cX6_told 15 = .ok (.bipush 6, 2) := by decide +kernel
theorem dX6_told_17 : decode cX6_told 17 = .ok (.invokestatic 55, 3) := by decide +kernel
theorem dX6_told_20 : decode cX6_told 20 = .ok (.ifCond .ne 5, 3) := by decide +kernel
theorem dX6_told_23 : decode cX6_told 23 = .ok (.iconst (-1), 1) := by decide +kernel
theorem dX6_told_24 : decode cX6_told 24 = .ok (.ireturn, 1) := by decide +kernel
theorem dX6_told_25 : decode cX6_told 25 = .ok (.aload_n 3, 1) := by decide +kernel
theorem dX6_told_26 : decode cX6_told 26 = .ok (.getfield 102, 3) := by decide +kernel
theorem dX6_told_29 : decode cX6_told 29 = .ok (.ifCond .eq 9, 3) := by decide +kernel
theorem dX6_told_32 : decode cX6_told 32 = .ok (.aload_n 0, 1) := by decide +kernel
theorem dX6_told_33 : decode cX6_told 33 = .ok (.iconst 1, 1) := by decide +kernel
theorem dX6_told_34 : decode cX6_told 34 = .ok (.invokevirtual 86, 3) := by decide +kernel
theorem dX6_told_37 : decode cX6_told 37 = .ok (.ireturn, 1) := by decide +kernel
theorem dX6_told_38 : decode cX6_told 38 = .ok (.aload_n 3, 1) := by decide +kernel
theorem dX6_told_39 : decode cX6_told 39 = .ok (.iload_n 2, 1) := by decide +kernel
theorem dX6_told_40 : decode cX6_told 40 = .ok (.invokevirtual 108, 3) := by decide +kernel
theorem dX6_told_43 : decode cX6_told 43 = .ok (.ireturn, 1) := by decide +kernel
theorem dX6_is_0 : decode cX6_is 0 = .ok (.aload_n 0, 1) := by decide +kernel
theorem dX6_is_1 : decode cX6_is 1 = .ok (.getfield 10, 3) := by decide +kernel
theorem dX6_is_4 : decode cX6_is 4 = .ok (.iload_n 1, 1) := by decide +kernel
theorem dX6_is_5 : decode cX6_is 5 = .ok (.invokevirtual 98, 3) := by decide +kernel
theorem dX6_is_8 : decode cX6_is 8 = .ok (.astore_n 3, 1) := by decide +kernel
theorem dX6_is_9 : decode cX6_is 9 = .ok (.aload_n 3, 1) := by decide +kernel
theorem dX6_is_10 : decode cX6_is 10 = .ok (.ifnull 12, 3) := by decide +kernel
theorem dX6_is_13 : decode cX6_is 13 = .ok (.iload_n 2, 1) := by decide +kernel
theorem dX6_is_14 : decode cX6_is 14 = .ok (.iconst 0, 1) := by decide +kernel
theorem dX6_is_15 : decode cX6_is 15 = .ok (.iconst 3, 1) := by decide +kernel
theorem dX6_is_16 : decode cX6_is 16 = .ok (.invokestatic 55, 3) := by decide +kernel
theorem dX6_is_19 : decode cX6_is 19 = .ok (.ifCond .ne 5, 3) := by decide +kernel
theorem dX6_is_22 : decode cX6_is 22 = .ok (.iconst (-1), 1) := by decide +kernel
theorem dX6_is_23 : decode cX6_is 23 = .ok (.ireturn, 1) := by decide +kernel
theorem dX6_is_24 : decode cX6_is 24 = .ok (.aload_n 3, 1) := by decide +kernel
theorem dX6_is_25 : decode cX6_is 25 = .ok (.getfield 102, 3) := by decide +kernel
theorem dX6_is_28 : decode cX6_is 28 = .ok (.ifCond .eq 9, 3) := by decide +kernel
theorem dX6_is_31 : decode cX6_is 31 = .ok (.aload_n 0, 1) := by decide +kernel
theorem dX6_is_32 : decode cX6_is 32 = .ok (.iconst 1, 1) := by decide +kernel
theorem dX6_is_33 : decode cX6_is 33 = .ok (.invokevirtual 86, 3) := by decide +kernel
theorem dX6_is_36 : decode cX6_is 36 = .ok (.ireturn, 1) := by decide +kernel
theorem dX6_is_37 : decode cX6_is 37 = .ok (.iload_n 2, 1) := by decide +kernel
theorem dX6_is_38 : decode cX6_is 38 = .ok (.ifCond .eq 11, 3) := by decide +kernel
theorem dX6_is_41 : decode cX6_is 41 = .ok (.aload_n 3, 1) := by decide +kernel
theorem dX6_is_42 : decode cX6_is 42 = .ok (.getfield 111, 3) := by decide +kernel
theorem dX6_is_45 : decode cX6_is 45 = .ok (.iload_n 2, 1) := by decide +kernel
theorem dX6_is_46 : decode cX6_is 46 = .ok (.if_icmp .ne 7, 3) := by decide +kernel
theorem dX6_is_49 : decode cX6_is 49 = .ok (.iconst 1, 1) := by decide +kernel
theorem dX6_is_50 : decode cX6_is 50 = .ok (.goto 4, 3) := by decide +kernel
theorem dX6_is_53 : decode cX6_is 53 = .ok (.iconst 0, 1) := by decide +kernel
theorem dX6_is_54 : decode cX6_is 54 = .ok (.ireturn, 1) := by decide +kernel
theorem dX6_on_0 : decode cX6_on 0 = .ok (.aload_n 0, 1) := by decide +kernel
theorem dX6_on_1 : decode cX6_on 1 = .ok (.iload_n 1, 1) := by decide +kernel
theorem dX6_on_2 : decode cX6_on 2 = .ok (.iload_n 2, 1) := by decide +kernel
theorem dX6_on_3 : decode cX6_on 3 = .ok (.invokevirtual 76, 3) := by decide +kernel
theorem dX6_on_6 : decode cX6_on 6 = .ok (.ifCond .ne 5, 3) := by decide +kernel
theorem dX6_on_9 : decode cX6_on 9 = .ok (.iconst (-1), 1) := by decide +kernel
theorem dX6_on_10 : decode cX6_on 10 = .ok (.ireturn, 1) := by decide +kernel
theorem dX6_on_11 : decode cX6_on 11 = .ok (.aload_n 0, 1) := by decide +kernel
theorem dX6_on_12 : decode cX6_on 12 = .ok (.getfield 10, 3) := by decide +kernel
theorem dX6_on_15 : decode cX6_on 15 = .ok (.iload_n 1, 1) := by decide +kernel
theorem dX6_on_16 : decode cX6_on 16 = .ok (.iload_n 2, 1) := by decide +kernel
theorem dX6_on_17 : decode cX6_on 17 = .ok (.iconst 1, 1) := by decide +kernel
theorem dX6_on_18 : decode cX6_on 18 = .ok (.iconst 1, 1) := by decide +kernel
theorem dX6_on_19 : decode cX6_on 19 = .ok (.invokevirtual 90, 3) := by decide +kernel
theorem dX6_on_22 : decode cX6_on 22 = .ok (.ireturn, 1) := by decide +kernel
theorem dX6_words_0 : decode cX6_words 0 = .ok (.aload_n 0, 1) := by decide +kernel
theorem dX6_words_1 : decode cX6_words 1 = .ok (.getfield 10, 3) := by decide +kernel
theorem dX6_words_4 : decode cX6_words 4 = .ok (.iload_n 1, 1) := by decide +kernel
theorem dX6_words_5 : decode cX6_words 5 = .ok (.invokevirtual 98, 3) := by decide +kernel
theorem dX6_words_8 : decode cX6_words 8 = .ok (.astore_n 3, 1) := by decide +kernel
theorem dX6_words_9 : decode cX6_words 9 = .ok (.aload_n 3, 1) := by decide +kernel
theorem dX6_words_10 : decode cX6_words 10 = .ok (.ifnull 9, 3) := by decide +kernel
theorem dX6_words_13 : decode cX6_words 13 = .ok (.iload_n 2, 1) := by decide +kernel
theorem dX6_words_14 : decode cX6_words 14 = .ok (.bipush 12, 2) := by decide +kernel
theorem dX6_words_16 : decode cX6_words 16 = .ok (.if_icmp .le 5, 3) := by decide +kernel
theorem dX6_words_19 : decode cX6_words 19 = .ok (.iconst (-1), 1) := by decide +kernel
theorem dX6_words_20 : decode cX6_words 20 = .ok (.ireturn, 1) := by decide +kernel
theorem dX6_words_21 : decode cX6_words 21 = .ok (.aload_n 3, 1) := by decide +kernel
theorem dX6_words_22 : decode cX6_words 22 = .ok (.getfield 102, 3) := by decide +kernel
theorem dX6_words_25 : decode cX6_words 25 = .ok (.ifCond .eq 9, 3) := by decide +kernel
theorem dX6_words_28 : decode cX6_words 28 = .ok (.aload_n 0, 1) := by decide +kernel
theorem dX6_words_29 : decode cX6_words 29 = .ok (.iconst 1, 1) := by decide +kernel
theorem dX6_words_30 : decode cX6_words 30 = .ok (.invokevirtual 86, 3) := by decide +kernel
theorem dX6_words_33 : decode cX6_words 33 = .ok (.ireturn, 1) := by decide +kernel
theorem dX6_words_34 : decode cX6_words 34 = .ok (.iload_n 2, 1) := by decide +kernel
theorem dX6_words_35 : decode cX6_words 35 = .ok (.ifCond .ge 9, 3) := by decide +kernel
theorem dX6_words_38 : decode cX6_words 38 = .ok (.aload_n 0, 1) := by decide +kernel
theorem dX6_words_39 : decode cX6_words 39 = .ok (.iconst 5, 1) := by decide +kernel
theorem dX6_words_40 : decode cX6_words 40 = .ok (.invokevirtual 86, 3) := by decide +kernel
theorem dX6_words_43 : decode cX6_words 43 = .ok (.ireturn, 1) := by decide +kernel
theorem dX6_words_44 : decode cX6_words 44 = .ok (.aload_n 3, 1) := by decide +kernel
theorem dX6_words_45 : decode cX6_words 45 = .ok (.iload_n 2, 1) := by decide +kernel
theorem dX6_words_46 : decode cX6_words 46 = .ok (.invokevirtual 114, 3) := by decide +kernel
theorem dX6_words_49 : decode cX6_words 49 = .ok (.iload_n 2, 1) := by decide +kernel
theorem dX6_words_50 : decode cX6_words 50 = .ok (.ireturn, 1) := by decide +kernel
theorem dX6_word_0 : decode cX6_word 0 = .ok (.aload_n 0, 1) := by decide +kernel
theorem dX6_word_1 : decode cX6_word 1 = .ok (.getfield 10, 3) := by decide +kernel
theorem dX6_word_4 : decode cX6_word 4 = .ok (.iload_n 1, 1) := by decide +kernel
theorem dX6_word_5 : decode cX6_word 5 = .ok (.invokevirtual 98, 3) := by decide +kernel
theorem dX6_word_8 : decode cX6_word 8 = .ok (.astore 4, 2) := by decide +kernel
theorem dX6_word_10 : decode cX6_word 10 = .ok (.aload 4, 2) := by decide +kernel
theorem dX6_word_12 : decode cX6_word 12 = .ok (.ifnull 13, 3) := by decide +kernel
theorem dX6_word_15 : decode cX6_word 15 = .ok (.iload_n 3, 1) := by decide +kernel
theorem dX6_word_16 : decode cX6_word 16 = .ok (.iconst 1, 1) := by decide +kernel
theorem dX6_word_17 : decode cX6_word 17 = .ok (.bipush 20, 2) := by decide +kernel
theorem dX6_word_19 : decode cX6_word 19 = .ok (.invokestatic 55, 3) := by decide +kernel
theorem dX6_word_22 : decode cX6_word 22 = .ok (.ifCond .ne 5, 3) := by decide +kernel
theorem dX6_word_25 : decode cX6_word 25 = .ok (.iconst (-1), 1) := by decide +kernel
theorem dX6_word_26 : decode cX6_word 26 = .ok (.ireturn, 1) := by decide +kernel
theorem dX6_word_27 : decode cX6_word 27 = .ok (.aload 4, 2) := by decide +kernel
theorem dX6_word_29 : decode cX6_word 29 = .ok (.getfield 102, 3) := by decide +kernel
theorem dX6_word_32 : decode cX6_word 32 = .ok (.ifCond .eq 9, 3) := by decide +kernel
theorem dX6_word_35 : decode cX6_word 35 = .ok (.aload_n 0, 1) := by decide +kernel
theorem dX6_word_36 : decode cX6_word 36 = .ok (.iconst 1, 1) := by decide +kernel
theorem dX6_word_37 : decode cX6_word 37 = .ok (.invokevirtual 86, 3) := by decide +kernel
theorem dX6_word_40 : decode cX6_word 40 = .ok (.ireturn, 1) := by decide +kernel
theorem dX6_word_41 : decode cX6_word 41 = .ok (.aload 4, 2) := by decide +kernel
theorem dX6_word_43 : decode cX6_word 43 = .ok (.iload_n 2, 1) := by decide +kernel
theorem dX6_word_44 : decode cX6_word 44 = .ok (.iconst 1, 1) := by decide +kernel
theorem dX6_word_45 : decode cX6_word 45 = .ok (.invokevirtual 118, 3) := by decide +kernel
theorem dX6_word_48 : decode cX6_word 48 = .ok (.ifCond .ne 9, 3) := by decide +kernel
theorem dX6_word_51 : decode cX6_word 51 = .ok (.aload_n 0, 1) := by decide +kernel
theorem dX6_word_52 : decode cX6_word 52 = .ok (.iconst 2, 1) := by decide +kernel
theorem dX6_word_53 : decode cX6_word 53 = .ok (.invokevirtual 86, 3) := by decide +kernel
theorem dX6_word_56 : decode cX6_word 56 = .ok (.ireturn, 1) := by decide +kernel
theorem dX6_word_57 : decode cX6_word 57 = .ok (.aload 4, 2) := by decide +kernel
theorem dX6_word_59 : decode cX6_word 59 = .ok (.iload_n 2, 1) := by decide +kernel
theorem dX6_word_60 : decode cX6_word 60 = .ok (.iload_n 3, 1) := by decide +kernel
theorem dX6_word_61 : decode cX6_word 61 = .ok (.invokevirtual 121, 3) := by decide +kernel
theorem dX6_word_64 : decode cX6_word 64 = .ok (.ireturn, 1) := by decide +kernel
theorem dX6_copy_0 : decode cX6_copy 0 = .ok (.aload_n 0, 1) := by decide +kernel
theorem dX6_copy_1 : decode cX6_copy 1 = .ok (.getfield 10, 3) := by decide +kernel
theorem dX6_copy_4 : decode cX6_copy 4 = .ok (.iload_n 1, 1) := by decide +kernel
theorem dX6_copy_5 : decode cX6_copy 5 = .ok (.invokevirtual 98, 3) := by decide +kernel
theorem dX6_copy_8 : decode cX6_copy 8 = .ok (.astore 6, 2) := by decide +kernel
theorem dX6_copy_10 : decode cX6_copy 10 = .ok (.aload_n 0, 1) := by decide +kernel
theorem dX6_copy_11 : decode cX6_copy 11 = .ok (.getfield 10, 3) := by decide +kernel
theorem dX6_copy_14 : decode cX6_copy 14 = .ok (.iload_n 3, 1) := by decide +kernel
theorem dX6_copy_15 : decode cX6_copy 15 = .ok (.invokevirtual 98, 3) := by decide +kernel
theorem dX6_copy_18 : decode cX6_copy 18 = .ok (.astore 7, 2) := by decide +kernel
theorem dX6_copy_20 : decode cX6_copy 20 = .ok (.aload 6, 2) := by decide +kernel
theorem dX6_copy_22 : decode cX6_copy 22 = .ok (.ifnull 8, 3) := by decide +kernel
theorem dX6_copy_25 : decode cX6_copy 25 = .ok (.aload 7, 2) := by decide +kernel
theorem dX6_copy_27 : decode cX6_copy 27 = .ok (.ifnonnull 5, 3) := by decide +kernel
theorem dX6_copy_30 : decode cX6_copy 30 = .ok (.iconst (-1), 1) := by decide +kernel
theorem dX6_copy_31 : decode cX6_copy 31 = .ok (.ireturn, 1) := by decide +kernel
theorem dX6_copy_32 : decode cX6_copy 32 = .ok (.aload 6, 2) := by decide +kernel
theorem dX6_copy_34 : decode cX6_copy 34 = .ok (.getfield 102, 3) := by decide +kernel
theorem dX6_copy_37 : decode cX6_copy 37 = .ok (.ifCond .ne 11, 3) := by decide +kernel
theorem dX6_copy_40 : decode cX6_copy 40 = .ok (.aload 7, 2) := by decide +kernel
theorem dX6_copy_42 : decode cX6_copy 42 = .ok (.getfield 102, 3) := by decide +kernel
theorem dX6_copy_45 : decode cX6_copy 45 = .ok (.ifCond .eq 9, 3) := by decide +kernel
theorem dX6_copy_48 : decode cX6_copy 48 = .ok (.aload_n 0, 1) := by decide +kernel
theorem dX6_copy_49 : decode cX6_copy 49 = .ok (.iconst 1, 1) := by decide +kernel
theorem dX6_copy_50 : decode cX6_copy 50 = .ok (.invokevirtual 86, 3) := by decide +kernel
theorem dX6_copy_53 : decode cX6_copy 53 = .ok (.ireturn, 1) := by decide +kernel
theorem dX6_copy_54 : decode cX6_copy 54 = .ok (.aload 6, 2) := by decide +kernel
theorem dX6_copy_56 : decode cX6_copy 56 = .ok (.iload_n 2, 1) := by decide +kernel
theorem dX6_copy_57 : decode cX6_copy 57 = .ok (.iload 5, 2) := by decide +kernel
theorem dX6_copy_59 : decode cX6_copy 59 = .ok (.invokevirtual 118, 3) := by decide +kernel
theorem dX6_copy_62 : decode cX6_copy 62 = .ok (.ifCond .eq 15, 3) := by decide +kernel
theorem dX6_copy_65 : decode cX6_copy 65 = .ok (.aload 7, 2) := by decide +kernel
theorem dX6_copy_67 : decode cX6_copy 67 = .ok (.iload 4, 2) := by decide +kernel
theorem dX6_copy_69 : decode cX6_copy 69 = .ok (.iload 5, 2) := by decide +kernel
theorem dX6_copy_71 : decode cX6_copy 71 = .ok (.invokevirtual 118, 3) := by decide +kernel
theorem dX6_copy_74 : decode cX6_copy 74 = .ok (.ifCond .ne 9, 3) := by decide +kernel
theorem dX6_copy_77 : decode cX6_copy 77 = .ok (.aload_n 0, 1) := by decide +kernel
theorem dX6_copy_78 : decode cX6_copy 78 = .ok (.iconst 2, 1) := by decide +kernel
theorem dX6_copy_79 : decode cX6_copy 79 = .ok (.invokevirtual 86, 3) := by decide +kernel
theorem dX6_copy_82 : decode cX6_copy 82 = .ok (.ireturn, 1) := by decide +kernel
theorem dX6_copy_83 : decode cX6_copy 83 = .ok (.aload 7, 2) := by decide +kernel
theorem dX6_copy_85 : decode cX6_copy 85 = .ok (.aload 6, 2) := by decide +kernel
theorem dX6_copy_87 : decode cX6_copy 87 = .ok (.iload_n 2, 1) := by decide +kernel
theorem dX6_copy_88 : decode cX6_copy 88 = .ok (.iload 4, 2) := by decide +kernel
theorem dX6_copy_90 : decode cX6_copy 90 = .ok (.iload 5, 2) := by decide +kernel
theorem dX6_copy_92 : decode cX6_copy 92 = .ok (.invokevirtual 125, 3) := by decide +kernel
theorem dX6_copy_95 : decode cX6_copy 95 = .ok (.iconst 1, 1) := by decide +kernel
theorem dX6_copy_96 : decode cX6_copy 96 = .ok (.ireturn, 1) := by decide +kernel
theorem dX6_mean_0 : decode cX6_mean 0 = .ok (.aload_n 0, 1) := by decide +kernel
theorem dX6_mean_1 : decode cX6_mean 1 = .ok (.getfield 10, 3) := by decide +kernel
theorem dX6_mean_4 : decode cX6_mean 4 = .ok (.iload_n 1, 1) := by decide +kernel
theorem dX6_mean_5 : decode cX6_mean 5 = .ok (.invokevirtual 98, 3) := by decide +kernel
theorem dX6_mean_8 : decode cX6_mean 8 = .ok (.astore_n 2, 1) := by decide +kernel
theorem dX6_mean_9 : decode cX6_mean 9 = .ok (.aload_n 2, 1) := by decide +kernel
theorem dX6_mean_10 : decode cX6_mean 10 = .ok (.ifnonnull 5, 3) := by decide +kernel
theorem dX6_mean_13 : decode cX6_mean 13 = .ok (.iconst (-1), 1) := by decide +kernel
theorem dX6_mean_14 : decode cX6_mean 14 = .ok (.ireturn, 1) := by decide +kernel
theorem dX6_mean_15 : decode cX6_mean 15 = .ok (.aload_n 2, 1) := by decide +kernel
theorem dX6_mean_16 : decode cX6_mean 16 = .ok (.getfield 102, 3) := by decide +kernel
theorem dX6_mean_19 : decode cX6_mean 19 = .ok (.ifCond .eq 9, 3) := by decide +kernel
theorem dX6_mean_22 : decode cX6_mean 22 = .ok (.aload_n 0, 1) := by decide +kernel
theorem dX6_mean_23 : decode cX6_mean 23 = .ok (.iconst 1, 1) := by decide +kernel
theorem dX6_mean_24 : decode cX6_mean 24 = .ok (.invokevirtual 86, 3) := by decide +kernel
theorem dX6_mean_27 : decode cX6_mean 27 = .ok (.ireturn, 1) := by decide +kernel
theorem dX6_mean_28 : decode cX6_mean 28 = .ok (.aload_n 2, 1) := by decide +kernel
theorem dX6_mean_29 : decode cX6_mean 29 = .ok (.getfield 129, 3) := by decide +kernel
theorem dX6_mean_32 : decode cX6_mean 32 = .ok (.iconst 1, 1) := by decide +kernel
theorem dX6_mean_33 : decode cX6_mean 33 = .ok (.if_icmp .ge 9, 3) := by decide +kernel
theorem dX6_mean_36 : decode cX6_mean 36 = .ok (.aload_n 0, 1) := by decide +kernel
theorem dX6_mean_37 : decode cX6_mean 37 = .ok (.iconst 4, 1) := by decide +kernel
theorem dX6_mean_38 : decode cX6_mean 38 = .ok (.invokevirtual 86, 3) := by decide +kernel
theorem dX6_mean_41 : decode cX6_mean 41 = .ok (.ireturn, 1) := by decide +kernel
theorem dX6_mean_42 : decode cX6_mean 42 = .ok (.aload_n 2, 1) := by decide +kernel
theorem dX6_mean_43 : decode cX6_mean 43 = .ok (.invokevirtual 132, 3) := by decide +kernel
theorem dX6_mean_46 : decode cX6_mean 46 = .ok (.aload_n 2, 1) := by decide +kernel
theorem dX6_mean_47 : decode cX6_mean 47 = .ok (.getfield 129, 3) := by decide +kernel
theorem dX6_mean_50 : decode cX6_mean 50 = .ok (.idiv, 1) := by decide +kernel
theorem dX6_mean_51 : decode cX6_mean 51 = .ok (.ireturn, 1) := by decide +kernel
theorem dX6_calls_0 : decode cX6_calls 0 = .ok (.aload_n 0, 1) := by decide +kernel
theorem dX6_calls_1 : decode cX6_calls 1 = .ok (.getfield 10, 3) := by decide +kernel
theorem dX6_calls_4 : decode cX6_calls 4 = .ok (.iload_n 1, 1) := by decide +kernel
theorem dX6_calls_5 : decode cX6_calls 5 = .ok (.invokevirtual 98, 3) := by decide +kernel
theorem dX6_calls_8 : decode cX6_calls 8 = .ok (.astore_n 3, 1) := by decide +kernel
theorem dX6_calls_9 : decode cX6_calls 9 = .ok (.aload_n 3, 1) := by decide +kernel
theorem dX6_calls_10 : decode cX6_calls 10 = .ok (.ifnull 14, 3) := by decide +kernel
theorem dX6_calls_13 : decode cX6_calls 13 = .ok (.iload_n 2, 1) := by decide +kernel
theorem dX6_calls_14 : decode cX6_calls 14 = .ok (.iconst 0, 1) := by decide +kernel
theorem dX6_calls_15 : decode cX6_calls 15 = .ok (.sipush 1023, 3) := by decide +kernel
theorem dX6_calls_18 : decode cX6_calls 18 = .ok (.invokestatic 55, 3) := by decide +kernel
theorem dX6_calls_21 : decode cX6_calls 21 = .ok (.ifCond .ne 5, 3) := by decide +kernel
theorem dX6_calls_24 : decode cX6_calls 24 = .ok (.iconst (-1), 1) := by decide +kernel
theorem dX6_calls_25 : decode cX6_calls 25 = .ok (.ireturn, 1) := by decide +kernel
theorem dX6_calls_26 : decode cX6_calls 26 = .ok (.aload_n 3, 1) := by decide +kernel
theorem dX6_calls_27 : decode cX6_calls 27 = .ok (.getfield 102, 3) := by decide +kernel
theorem dX6_calls_30 : decode cX6_calls 30 = .ok (.ifCond .eq 9, 3) := by decide +kernel
theorem dX6_calls_33 : decode cX6_calls 33 = .ok (.aload_n 0, 1) := by decide +kernel
theorem dX6_calls_34 : decode cX6_calls 34 = .ok (.iconst 1, 1) := by decide +kernel
theorem dX6_calls_35 : decode cX6_calls 35 = .ok (.invokevirtual 86, 3) := by decide +kernel
theorem dX6_calls_38 : decode cX6_calls 38 = .ok (.ireturn, 1) := by decide +kernel
theorem dX6_calls_39 : decode cX6_calls 39 = .ok (.aload_n 3, 1) := by decide +kernel
theorem dX6_calls_40 : decode cX6_calls 40 = .ok (.getfield 136, 3) := by decide +kernel
theorem dX6_calls_43 : decode cX6_calls 43 = .ok (.istore 4, 2) := by decide +kernel
theorem dX6_calls_45 : decode cX6_calls 45 = .ok (.aload_n 3, 1) := by decide +kernel
theorem dX6_calls_46 : decode cX6_calls 46 = .ok (.iload_n 2, 1) := by decide +kernel
theorem dX6_calls_47 : decode cX6_calls 47 = .ok (.putfield 136, 3) := by decide +kernel
theorem dX6_calls_50 : decode cX6_calls 50 = .ok (.iload 4, 2) := by decide +kernel
theorem dX6_calls_52 : decode cX6_calls 52 = .ok (.ireturn, 1) := by decide +kernel
theorem dX6_fix_0 : decode cX6_fix 0 = .ok (.aload_n 0, 1) := by decide +kernel
theorem dX6_fix_1 : decode cX6_fix 1 = .ok (.getfield 10, 3) := by decide +kernel
theorem dX6_fix_4 : decode cX6_fix 4 = .ok (.iload_n 1, 1) := by decide +kernel
theorem dX6_fix_5 : decode cX6_fix 5 = .ok (.invokevirtual 98, 3) := by decide +kernel
theorem dX6_fix_8 : decode cX6_fix 8 = .ok (.astore_n 3, 1) := by decide +kernel
theorem dX6_fix_9 : decode cX6_fix 9 = .ok (.aload_n 3, 1) := by decide +kernel
theorem dX6_fix_10 : decode cX6_fix 10 = .ok (.ifnull 13, 3) := by decide +kernel
theorem dX6_fix_13 : decode cX6_fix 13 = .ok (.iload_n 2, 1) := by decide +kernel
theorem dX6_fix_14 : decode cX6_fix 14 = .ok (.iconst 1, 1) := by decide +kernel
theorem dX6_fix_15 : decode cX6_fix 15 = .ok (.bipush 60, 2) := by decide +kernel
theorem dX6_fix_17 : decode cX6_fix 17 = .ok (.invokestatic 55, 3) := by decide +kernel
theorem dX6_fix_20 : decode cX6_fix 20 = .ok (.ifCond .ne 5, 3) := by decide +kernel
theorem dX6_fix_23 : decode cX6_fix 23 = .ok (.iconst (-1), 1) := by decide +kernel
theorem dX6_fix_24 : decode cX6_fix 24 = .ok (.ireturn, 1) := by decide +kernel
theorem dX6_fix_25 : decode cX6_fix 25 = .ok (.aload_n 3, 1) := by decide +kernel
theorem dX6_fix_26 : decode cX6_fix 26 = .ok (.getfield 102, 3) := by decide +kernel
theorem dX6_fix_29 : decode cX6_fix 29 = .ok (.ifCond .eq 9, 3) := by decide +kernel
theorem dX6_fix_32 : decode cX6_fix 32 = .ok (.aload_n 0, 1) := by decide +kernel
theorem dX6_fix_33 : decode cX6_fix 33 = .ok (.iconst 1, 1) := by decide +kernel
theorem dX6_fix_34 : decode cX6_fix 34 = .ok (.invokevirtual 86, 3) := by decide +kernel
theorem dX6_fix_37 : decode cX6_fix 37 = .ok (.ireturn, 1) := by decide +kernel
theorem dX6_fix_38 : decode cX6_fix 38 = .ok (.aload_n 3, 1) := by decide +kernel
theorem dX6_fix_39 : decode cX6_fix 39 = .ok (.getfield 111, 3) := by decide +kernel
theorem dX6_fix_42 : decode cX6_fix 42 = .ok (.iconst 2, 1) := by decide +kernel
theorem dX6_fix_43 : decode cX6_fix 43 = .ok (.if_icmp .eq 9, 3) := by decide +kernel
theorem dX6_fix_46 : decode cX6_fix 46 = .ok (.aload_n 0, 1) := by decide +kernel
theorem dX6_fix_47 : decode cX6_fix 47 = .ok (.iconst 3, 1) := by decide +kernel
theorem dX6_fix_48 : decode cX6_fix 48 = .ok (.invokevirtual 86, 3) := by decide +kernel
theorem dX6_fix_51 : decode cX6_fix 51 = .ok (.ireturn, 1) := by decide +kernel
theorem dX6_fix_52 : decode cX6_fix 52 = .ok (.aload_n 3, 1) := by decide +kernel
theorem dX6_fix_53 : decode cX6_fix 53 = .ok (.getfield 139, 3) := by decide +kernel
theorem dX6_fix_56 : decode cX6_fix 56 = .ok (.istore 4, 2) := by decide +kernel
theorem dX6_fix_58 : decode cX6_fix 58 = .ok (.aload_n 3, 1) := by decide +kernel
theorem dX6_fix_59 : decode cX6_fix 59 = .ok (.iload_n 2, 1) := by decide +kernel
theorem dX6_fix_60 : decode cX6_fix 60 = .ok (.putfield 139, 3) := by decide +kernel
theorem dX6_fix_63 : decode cX6_fix 63 = .ok (.iload 4, 2) := by decide +kernel
theorem dX6_fix_65 : decode cX6_fix 65 = .ok (.ireturn, 1) := by decide +kernel
theorem dX6_lines_0 : decode cX6_lines 0 = .ok (.aload_n 0, 1) := by decide +kernel
theorem dX6_lines_1 : decode cX6_lines 1 = .ok (.getfield 10, 3) := by decide +kernel
theorem dX6_lines_4 : decode cX6_lines 4 = .ok (.iload_n 1, 1) := by decide +kernel
theorem dX6_lines_5 : decode cX6_lines 5 = .ok (.invokevirtual 98, 3) := by decide +kernel
theorem dX6_lines_8 : decode cX6_lines 8 = .ok (.astore_n 3, 1) := by decide +kernel
theorem dX6_lines_9 : decode cX6_lines 9 = .ok (.aload_n 3, 1) := by decide +kernel
theorem dX6_lines_10 : decode cX6_lines 10 = .ok (.ifnull 14, 3) := by decide +kernel
theorem dX6_lines_13 : decode cX6_lines 13 = .ok (.iload_n 2, 1) := by decide +kernel
theorem dX6_lines_14 : decode cX6_lines 14 = .ok (.iconst 1, 1) := by decide +kernel
theorem dX6_lines_15 : decode cX6_lines 15 = .ok (.sipush 400, 3) := by decide +kernel
theorem dX6_lines_18 : decode cX6_lines 18 = .ok (.invokestatic 55, 3) := by decide +kernel
theorem dX6_lines_21 : decode cX6_lines 21 = .ok (.ifCond .ne 5, 3) := by decide +kernel
theorem dX6_lines_24 : decode cX6_lines 24 = .ok (.iconst (-1), 1) := by decide +kernel
theorem dX6_lines_25 : decode cX6_lines 25 = .ok (.ireturn, 1) := by decide +kernel
theorem dX6_lines_26 : decode cX6_lines 26 = .ok (.aload_n 3, 1) := by decide +kernel
theorem dX6_lines_27 : decode cX6_lines 27 = .ok (.getfield 102, 3) := by decide +kernel
theorem dX6_lines_30 : decode cX6_lines 30 = .ok (.ifCond .eq 9, 3) := by decide +kernel
theorem dX6_lines_33 : decode cX6_lines 33 = .ok (.aload_n 0, 1) := by decide +kernel
theorem dX6_lines_34 : decode cX6_lines 34 = .ok (.iconst 1, 1) := by decide +kernel
theorem dX6_lines_35 : decode cX6_lines 35 = .ok (.invokevirtual 86, 3) := by decide +kernel
theorem dX6_lines_38 : decode cX6_lines 38 = .ok (.ireturn, 1) := by decide +kernel
theorem dX6_lines_39 : decode cX6_lines 39 = .ok (.aload_n 3, 1) := by decide +kernel
theorem dX6_lines_40 : decode cX6_lines 40 = .ok (.iload_n 2, 1) := by decide +kernel
theorem dX6_lines_41 : decode cX6_lines 41 = .ok (.invokevirtual 142, 3) := by decide +kernel
theorem dX6_lines_44 : decode cX6_lines 44 = .ok (.ireturn, 1) := by decide +kernel
theorem dX6_want_0 : decode cX6_want 0 = .ok (.aload_n 0, 1) := by decide +kernel
theorem dX6_want_1 : decode cX6_want 1 = .ok (.getfield 10, 3) := by decide +kernel
theorem dX6_want_4 : decode cX6_want 4 = .ok (.iload_n 1, 1) := by decide +kernel
theorem dX6_want_5 : decode cX6_want 5 = .ok (.invokevirtual 98, 3) := by decide +kernel
theorem dX6_want_8 : decode cX6_want 8 = .ok (.astore_n 3, 1) := by decide +kernel
theorem dX6_want_9 : decode cX6_want 9 = .ok (.aload_n 3, 1) := by decide +kernel
theorem dX6_want_10 : decode cX6_want 10 = .ok (.ifnull 12, 3) := by decide +kernel
theorem dX6_want_13 : decode cX6_want 13 = .ok (.iload_n 2, 1) := by decide +kernel
theorem dX6_want_14 : decode cX6_want 14 = .ok (.iconst 0, 1) := by decide +kernel
theorem dX6_want_15 : decode cX6_want 15 = .ok (.iconst 1, 1) := by decide +kernel
theorem dX6_want_16 : decode cX6_want 16 = .ok (.invokestatic 55, 3) := by decide +kernel
theorem dX6_want_19 : decode cX6_want 19 = .ok (.ifCond .ne 5, 3) := by decide +kernel
theorem dX6_want_22 : decode cX6_want 22 = .ok (.iconst (-1), 1) := by decide +kernel
theorem dX6_want_23 : decode cX6_want 23 = .ok (.ireturn, 1) := by decide +kernel
theorem dX6_want_24 : decode cX6_want 24 = .ok (.aload_n 3, 1) := by decide +kernel
theorem dX6_want_25 : decode cX6_want 25 = .ok (.getfield 102, 3) := by decide +kernel
theorem dX6_want_28 : decode cX6_want 28 = .ok (.ifCond .eq 9, 3) := by decide +kernel
theorem dX6_want_31 : decode cX6_want 31 = .ok (.aload_n 0, 1) := by decide +kernel
theorem dX6_want_32 : decode cX6_want 32 = .ok (.iconst 1, 1) := by decide +kernel
theorem dX6_want_33 : decode cX6_want 33 = .ok (.invokevirtual 86, 3) := by decide +kernel
theorem dX6_want_36 : decode cX6_want 36 = .ok (.ireturn, 1) := by decide +kernel
theorem dX6_want_37 : decode cX6_want 37 = .ok (.aload_n 3, 1) := by decide +kernel
theorem dX6_want_38 : decode cX6_want 38 = .ok (.iload_n 2, 1) := by decide +kernel
theorem dX6_want_39 : decode cX6_want 39 = .ok (.invokevirtual 145, 3) := by decide +kernel
theorem dX6_want_42 : decode cX6_want 42 = .ok (.ireturn, 1) := by decide +kernel
theorem dX6_natural_0 : decode cX6_natural 0 = .ok (.iload_n 1, 1) := by decide +kernel
theorem dX6_natural_1 : decode cX6_natural 1 = .ok (.iconst 0, 1) := by decide +kernel
theorem dX6_natural_2 : decode cX6_natural 2 = .ok (.aload_n 0, 1) := by decide +kernel
theorem dX6_natural_3 : decode cX6_natural 3 = .ok (.getfield 10, 3) := by decide +kernel
theorem dX6_natural_6 : decode cX6_natural 6 = .ok (.getfield 67, 3) := by decide +kernel
theorem dX6_natural_9 : decode cX6_natural 9 = .ok (.iconst 1, 1) := by decide +kernel
theorem dX6_natural_10 : decode cX6_natural 10 = .ok (.isub, 1) := by decide +kernel
theorem dX6_natural_11 : decode cX6_natural 11 = .ok (.invokestatic 55, 3) := by decide +kernel
theorem dX6_natural_14 : decode cX6_natural 14 = .ok (.ifCond .eq 12, 3) := by decide +kernel
theorem dX6_natural_17 : decode cX6_natural 17 = .ok (.iload_n 2, 1) := by decide +kernel
theorem dX6_natural_18 : decode cX6_natural 18 = .ok (.iconst 0, 1) := by decide +kernel
theorem dX6_natural_19 : decode cX6_natural 19 = .ok (.iconst 1, 1) := by decide +kernel
theorem dX6_natural_20 : decode cX6_natural 20 = .ok (.invokestatic 55, 3) := by decide +kernel
theorem dX6_natural_23 : decode cX6_natural 23 = .ok (.ifCond .ne 5, 3) := by decide +kernel
theorem dX6_natural_26 : decode cX6_natural 26 = .ok (.iconst (-1), 1) := by decide +kernel
theorem dX6_natural_27 : decode cX6_natural 27 = .ok (.ireturn, 1) := by decide +kernel
theorem dX6_natural_28 : decode cX6_natural 28 = .ok (.aload_n 0, 1) := by decide +kernel
theorem dX6_natural_29 : decode cX6_natural 29 = .ok (.getfield 30, 3) := by decide +kernel
theorem dX6_natural_32 : decode cX6_natural 32 = .ok (.invokevirtual 148, 3) := by decide +kernel
theorem dX6_natural_35 : decode cX6_natural 35 = .ok (.iload_n 2, 1) := by decide +kernel
theorem dX6_natural_36 : decode cX6_natural 36 = .ok (.ifCond .ne 15, 3) := by decide +kernel
theorem dX6_natural_39 : decode cX6_natural 39 = .ok (.aload_n 0, 1) := by decide +kernel
theorem dX6_natural_40 : decode cX6_natural 40 = .ok (.getfield 30, 3) := by decide +kernel
theorem dX6_natural_43 : decode cX6_natural 43 = .ok (.getfield 151, 3) := by decide +kernel
theorem dX6_natural_46 : decode cX6_natural 46 = .ok (.iload_n 1, 1) := by decide +kernel
theorem dX6_natural_47 : decode cX6_natural 47 = .ok (.iaload, 1) := by decide +kernel
theorem dX6_natural_48 : decode cX6_natural 48 = .ok (.goto 12, 3) := by decide +kernel
theorem dX6_natural_51 : decode cX6_natural 51 = .ok (.aload_n 0, 1) := by decide +kernel
theorem dX6_natural_52 : decode cX6_natural 52 = .ok (.getfield 30, 3) := by decide +kernel
theorem dX6_natural_55 : decode cX6_natural 55 = .ok (.getfield 154, 3) := by decide +kernel
theorem dX6_natural_58 : decode cX6_natural 58 = .ok (.iload_n 1, 1) := by decide +kernel
theorem dX6_natural_59 : decode cX6_natural 59 = .ok (.iaload, 1) := by decide +kernel
theorem dX6_natural_60 : decode cX6_natural 60 = .ok (.ireturn, 1) := by decide +kernel
theorem dX6_set_0 : decode cX6_set 0 = .ok (.iload_n 1, 1) := by decide +kernel
theorem dX6_set_1 : decode cX6_set 1 = .ok (.iconst 0, 1) := by decide +kernel
theorem dX6_set_2 : decode cX6_set 2 = .ok (.sipush 400, 3) := by decide +kernel
theorem dX6_set_5 : decode cX6_set 5 = .ok (.invokestatic 55, 3) := by decide +kernel
theorem dX6_set_8 : decode cX6_set 8 = .ok (.ifCond .ne 5, 3) := by decide +kernel
theorem dX6_set_11 : decode cX6_set 11 = .ok (.iconst (-1), 1) := by decide +kernel
theorem dX6_set_12 : decode cX6_set 12 = .ok (.ireturn, 1) := by decide +kernel
theorem dX6_set_13 : decode cX6_set 13 = .ok (.aload_n 0, 1) := by decide +kernel
theorem dX6_set_14 : decode cX6_set 14 = .ok (.getfield 30, 3) := by decide +kernel
theorem dX6_set_17 : decode cX6_set 17 = .ok (.invokevirtual 148, 3) := by decide +kernel
theorem dX6_set_20 : decode cX6_set 20 = .ok (.aload_n 0, 1) := by decide +kernel
theorem dX6_set_21 : decode cX6_set 21 = .ok (.getfield 30, 3) := by decide +kernel
theorem dX6_set_24 : decode cX6_set 24 = .ok (.iload_n 1, 1) := by decide +kernel
theorem dX6_set_25 : decode cX6_set 25 = .ok (.invokevirtual 157, 3) := by decide +kernel
theorem dX6_set_28 : decode cX6_set 28 = .ok (.istore_n 2, 1) := by decide +kernel
theorem dX6_set_29 : decode cX6_set 29 = .ok (.iload_n 2, 1) := by decide +kernel
theorem dX6_set_30 : decode cX6_set 30 = .ok (.ifCond .ge 6, 3) := by decide +kernel
theorem dX6_set_33 : decode cX6_set 33 = .ok (.bipush (-4), 2) := by decide +kernel
theorem dX6_set_35 : decode cX6_set 35 = .ok (.ireturn, 1) := by decide +kernel
theorem dX6_set_36 : decode cX6_set 36 = .ok (.aload_n 0, 1) := by decide +kernel
theorem dX6_set_37 : decode cX6_set 37 = .ok (.getfield 30, 3) := by decide +kernel
theorem dX6_set_40 : decode cX6_set 40 = .ok (.iload_n 2, 1) := by decide +kernel
theorem dX6_set_41 : decode cX6_set 41 = .ok (.invokevirtual 160, 3) := by decide +kernel
theorem dX6_set_44 : decode cX6_set 44 = .ok (.aload_n 0, 1) := by decide +kernel
theorem dX6_set_45 : decode cX6_set 45 = .ok (.invokevirtual 163, 3) := by decide +kernel
theorem dX6_set_48 : decode cX6_set 48 = .ok (.ireturn, 1) := by decide +kernel
theorem dX6_tight_0 : decode cX6_tight 0 = .ok (.iload_n 1, 1) := by decide +kernel
theorem dX6_tight_1 : decode cX6_tight 1 = .ok (.iconst 0, 1) := by decide +kernel
theorem dX6_tight_2 : decode cX6_tight 2 = .ok (.sipush 400, 3) := by decide +kernel
theorem dX6_tight_5 : decode cX6_tight 5 = .ok (.invokestatic 55, 3) := by decide +kernel
theorem dX6_tight_8 : decode cX6_tight 8 = .ok (.ifCond .eq 14, 3) := by decide +kernel
theorem dX6_tight_11 : decode cX6_tight 11 = .ok (.iload_n 2, 1) := by decide +kernel
theorem dX6_tight_12 : decode cX6_tight 12 = .ok (.iconst 1, 1) := by decide +kernel
theorem dX6_tight_13 : decode cX6_tight 13 = .ok (.sipush 20000, 3) := by decide +kernel
theorem dX6_tight_16 : decode cX6_tight 16 = .ok (.invokestatic 55, 3) := by decide +kernel
theorem dX6_tight_19 : decode cX6_tight 19 = .ok (.ifCond .ne 5, 3) := by decide +kernel
theorem dX6_tight_22 : decode cX6_tight 22 = .ok (.iconst (-1), 1) := by decide +kernel
theorem dX6_tight_23 : decode cX6_tight 23 = .ok (.ireturn, 1) := by decide +kernel
theorem dX6_tight_24 : decode cX6_tight 24 = .ok (.aload_n 0, 1) := by decide +kernel
theorem dX6_tight_25 : decode cX6_tight 25 = .ok (.getfield 30, 3) := by decide +kernel
theorem dX6_tight_28 : decode cX6_tight 28 = .ok (.invokevirtual 148, 3) := by decide +kernel
theorem dX6_tight_31 : decode cX6_tight 31 = .ok (.aload_n 0, 1) := by decide +kernel
theorem dX6_tight_32 : decode cX6_tight 32 = .ok (.getfield 30, 3) := by decide +kernel
theorem dX6_tight_35 : decode cX6_tight 35 = .ok (.iload_n 1, 1) := by decide +kernel
theorem dX6_tight_36 : decode cX6_tight 36 = .ok (.invokevirtual 157, 3) := by decide +kernel
theorem dX6_tight_39 : decode cX6_tight 39 = .ok (.istore_n 3, 1) := by decide +kernel
theorem dX6_tight_40 : decode cX6_tight 40 = .ok (.iload_n 3, 1) := by decide +kernel
theorem dX6_tight_41 : decode cX6_tight 41 = .ok (.ifCond .ge 6, 3) := by decide +kernel
theorem dX6_tight_44 : decode cX6_tight 44 = .ok (.bipush (-4), 2) := by decide +kernel
theorem dX6_tight_46 : decode cX6_tight 46 = .ok (.ireturn, 1) := by decide +kernel
theorem dX6_tight_47 : decode cX6_tight 47 = .ok (.aload_n 0, 1) := by decide +kernel
theorem dX6_tight_48 : decode cX6_tight 48 = .ok (.getfield 30, 3) := by decide +kernel
theorem dX6_tight_51 : decode cX6_tight 51 = .ok (.iload_n 3, 1) := by decide +kernel
theorem dX6_tight_52 : decode cX6_tight 52 = .ok (.invokevirtual 166, 3) := by decide +kernel
theorem dX6_tight_55 : decode cX6_tight 55 = .ok (.lstore 4, 2) := by decide +kernel
theorem dX6_tight_57 : decode cX6_tight 57 = .ok (.lload 4, 2) := by decide +kernel
theorem dX6_tight_59 : decode cX6_tight 59 = .ok (.iload_n 2, 1) := by decide +kernel
theorem dX6_tight_60 : decode cX6_tight 60 = .ok (.i2l, 1) := by decide +kernel
theorem dX6_tight_61 : decode cX6_tight 61 = .ok (.lcmp, 1) := by decide +kernel
theorem dX6_tight_62 : decode cX6_tight 62 = .ok (.ifCond .le 11, 3) := by decide +kernel
theorem dX6_tight_65 : decode cX6_tight 65 = .ok (.aload_n 0, 1) := by decide +kernel
theorem dX6_tight_66 : decode cX6_tight 66 = .ok (.iload_n 2, 1) := by decide +kernel
theorem dX6_tight_67 : decode cX6_tight 67 = .ok (.putfield 52, 3) := by decide +kernel
theorem dX6_tight_70 : decode cX6_tight 70 = .ok (.bipush (-6), 2) := by decide +kernel
theorem dX6_tight_72 : decode cX6_tight 72 = .ok (.ireturn, 1) := by decide +kernel
theorem dX6_tight_73 : decode cX6_tight 73 = .ok (.aload_n 0, 1) := by decide +kernel
theorem dX6_tight_74 : decode cX6_tight 74 = .ok (.lload 4, 2) := by decide +kernel
theorem dX6_tight_76 : decode cX6_tight 76 = .ok (.l2i, 1) := by decide +kernel
theorem dX6_tight_77 : decode cX6_tight 77 = .ok (.putfield 52, 3) := by decide +kernel
theorem dX6_tight_80 : decode cX6_tight 80 = .ok (.aload_n 0, 1) := by decide +kernel
theorem dX6_tight_81 : decode cX6_tight 81 = .ok (.getfield 30, 3) := by decide +kernel
theorem dX6_tight_84 : decode cX6_tight 84 = .ok (.iload_n 3, 1) := by decide +kernel
theorem dX6_tight_85 : decode cX6_tight 85 = .ok (.aload_n 0, 1) := by decide +kernel
theorem dX6_tight_86 : decode cX6_tight 86 = .ok (.getfield 52, 3) := by decide +kernel
theorem dX6_tight_89 : decode cX6_tight 89 = .ok (.invokevirtual 170, 3) := by decide +kernel
theorem dX6_tight_92 : decode cX6_tight 92 = .ok (.ireturn, 1) := by decide +kernel
theorem dX6_tries_0 : decode cX6_tries 0 = .ok (.aload_n 0, 1) := by decide +kernel
theorem dX6_tries_1 : decode cX6_tries 1 = .ok (.getfield 52, 3) := by decide +kernel
theorem dX6_tries_4 : decode cX6_tries 4 = .ok (.ireturn, 1) := by decide +kernel
theorem dX6_width_0 : decode cX6_width 0 = .ok (.iload_n 1, 1) := by decide +kernel
theorem dX6_width_1 : decode cX6_width 1 = .ok (.iconst 0, 1) := by decide +kernel
theorem dX6_width_2 : decode cX6_width 2 = .ok (.aload_n 0, 1) := by decide +kernel
theorem dX6_width_3 : decode cX6_width 3 = .ok (.getfield 10, 3) := by decide +kernel
theorem dX6_width_6 : decode cX6_width 6 = .ok (.getfield 67, 3) := by decide +kernel
theorem dX6_width_9 : decode cX6_width 9 = .ok (.iconst 1, 1) := by decide +kernel
theorem dX6_width_10 : decode cX6_width 10 = .ok (.isub, 1) := by decide +kernel
theorem dX6_width_11 : decode cX6_width 11 = .ok (.invokestatic 55, 3) := by decide +kernel
theorem dX6_width_14 : decode cX6_width 14 = .ok (.ifCond .ne 5, 3) := by decide +kernel
theorem dX6_width_17 : decode cX6_width 17 = .ok (.iconst (-1), 1) := by decide +kernel
theorem dX6_width_18 : decode cX6_width 18 = .ok (.ireturn, 1) := by decide +kernel
theorem dX6_width_19 : decode cX6_width 19 = .ok (.aload_n 0, 1) := by decide +kernel
theorem dX6_width_20 : decode cX6_width 20 = .ok (.getfield 30, 3) := by decide +kernel
theorem dX6_width_23 : decode cX6_width 23 = .ok (.getfield 173, 3) := by decide +kernel
theorem dX6_width_26 : decode cX6_width 26 = .ok (.iload_n 1, 1) := by decide +kernel
theorem dX6_width_27 : decode cX6_width 27 = .ok (.iaload, 1) := by decide +kernel
theorem dX6_width_28 : decode cX6_width 28 = .ok (.ireturn, 1) := by decide +kernel
theorem dX6_height_0 : decode cX6_height 0 = .ok (.iload_n 1, 1) := by decide +kernel
theorem dX6_height_1 : decode cX6_height 1 = .ok (.iconst 0, 1) := by decide +kernel
theorem dX6_height_2 : decode cX6_height 2 = .ok (.aload_n 0, 1) := by decide +kernel
theorem dX6_height_3 : decode cX6_height 3 = .ok (.getfield 10, 3) := by decide +kernel
theorem dX6_height_6 : decode cX6_height 6 = .ok (.getfield 83, 3) := by decide +kernel
theorem dX6_height_9 : decode cX6_height 9 = .ok (.iconst 1, 1) := by decide +kernel
theorem dX6_height_10 : decode cX6_height 10 = .ok (.isub, 1) := by decide +kernel
theorem dX6_height_11 : decode cX6_height 11 = .ok (.invokestatic 55, 3) := by decide +kernel
theorem dX6_height_14 : decode cX6_height 14 = .ok (.ifCond .ne 5, 3) := by decide +kernel
theorem dX6_height_17 : decode cX6_height 17 = .ok (.iconst (-1), 1) := by decide +kernel
theorem dX6_height_18 : decode cX6_height 18 = .ok (.ireturn, 1) := by decide +kernel
theorem dX6_height_19 : decode cX6_height 19 = .ok (.aload_n 0, 1) := by decide +kernel
theorem dX6_height_20 : decode cX6_height 20 = .ok (.invokevirtual 163, 3) := by decide +kernel
theorem dX6_height_23 : decode cX6_height 23 = .ok (.pop, 1) := by decide +kernel
theorem dX6_height_24 : decode cX6_height 24 = .ok (.aload_n 0, 1) := by decide +kernel
theorem dX6_height_25 : decode cX6_height 25 = .ok (.getfield 21, 3) := by decide +kernel
theorem dX6_height_28 : decode cX6_height 28 = .ok (.getfield 176, 3) := by decide +kernel
theorem dX6_height_31 : decode cX6_height 31 = .ok (.iload_n 1, 1) := by decide +kernel
theorem dX6_height_32 : decode cX6_height 32 = .ok (.iaload, 1) := by decide +kernel
theorem dX6_height_33 : decode cX6_height 33 = .ok (.ireturn, 1) := by decide +kernel
theorem dX6_pages_0 : decode cX6_pages 0 = .ok (.iload_n 1, 1) := by decide +kernel
theorem dX6_pages_1 : decode cX6_pages 1 = .ok (.iconst 1, 1) := by decide +kernel
theorem dX6_pages_2 : decode cX6_pages 2 = .ok (.sipush 200, 3) := by decide +kernel
theorem dX6_pages_5 : decode cX6_pages 5 = .ok (.invokestatic 55, 3) := by decide +kernel
theorem dX6_pages_8 : decode cX6_pages 8 = .ok (.ifCond .ne 5, 3) := by decide +kernel
theorem dX6_pages_11 : decode cX6_pages 11 = .ok (.iconst (-1), 1) := by decide +kernel
theorem dX6_pages_12 : decode cX6_pages 12 = .ok (.ireturn, 1) := by decide +kernel
theorem dX6_pages_13 : decode cX6_pages 13 = .ok (.aload_n 0, 1) := by decide +kernel
theorem dX6_pages_14 : decode cX6_pages 14 = .ok (.invokevirtual 163, 3) := by decide +kernel
theorem dX6_pages_17 : decode cX6_pages 17 = .ok (.pop, 1) := by decide +kernel
theorem dX6_pages_18 : decode cX6_pages 18 = .ok (.aload_n 0, 1) := by decide +kernel
theorem dX6_pages_19 : decode cX6_pages 19 = .ok (.getfield 37, 3) := by decide +kernel
theorem dX6_pages_22 : decode cX6_pages 22 = .ok (.iload_n 1, 1) := by decide +kernel
theorem dX6_pages_23 : decode cX6_pages 23 = .ok (.invokevirtual 177, 3) := by decide +kernel
theorem dX6_pages_26 : decode cX6_pages 26 = .ok (.ireturn, 1) := by decide +kernel
theorem dX6_page_0 : decode cX6_page 0 = .ok (.iload_n 2, 1) := by decide +kernel
theorem dX6_page_1 : decode cX6_page 1 = .ok (.iconst 0, 1) := by decide +kernel
theorem dX6_page_2 : decode cX6_page 2 = .ok (.iconst 3, 1) := by decide +kernel
theorem dX6_page_3 : decode cX6_page 3 = .ok (.invokestatic 55, 3) := by decide +kernel
theorem dX6_page_6 : decode cX6_page 6 = .ok (.ifCond .ne 5, 3) := by decide +kernel
theorem dX6_page_9 : decode cX6_page 9 = .ok (.iconst (-1), 1) := by decide +kernel
theorem dX6_page_10 : decode cX6_page 10 = .ok (.ireturn, 1) := by decide +kernel
theorem dX6_page_11 : decode cX6_page 11 = .ok (.iload_n 1, 1) := by decide +kernel
theorem dX6_page_12 : decode cX6_page 12 = .ok (.iconst 0, 1) := by decide +kernel
theorem dX6_page_13 : decode cX6_page 13 = .ok (.aload_n 0, 1) := by decide +kernel
theorem dX6_page_14 : decode cX6_page 14 = .ok (.getfield 37, 3) := by decide +kernel
theorem dX6_page_17 : decode cX6_page 17 = .ok (.getfield 180, 3) := by decide +kernel
theorem dX6_page_20 : decode cX6_page 20 = .ok (.iconst 1, 1) := by decide +kernel
theorem dX6_page_21 : decode cX6_page 21 = .ok (.isub, 1) := by decide +kernel
theorem dX6_page_22 : decode cX6_page 22 = .ok (.invokestatic 55, 3) := by decide +kernel
theorem dX6_page_25 : decode cX6_page 25 = .ok (.ifCond .eq 17, 3) := by decide +kernel
theorem dX6_page_28 : decode cX6_page 28 = .ok (.aload_n 0, 1) := by decide +kernel
theorem dX6_page_29 : decode cX6_page 29 = .ok (.getfield 37, 3) := by decide +kernel
theorem dX6_page_32 : decode cX6_page 32 = .ok (.getfield 183, 3) := by decide +kernel
theorem dX6_page_35 : decode cX6_page 35 = .ok (.iload_n 1, 1) := by decide +kernel
theorem dX6_page_36 : decode cX6_page 36 = .ok (.aaload, 1) := by decide +kernel
theorem dX6_page_37 : decode cX6_page 37 = .ok (.iload_n 2, 1) := by decide +kernel
theorem dX6_page_38 : decode cX6_page 38 = .ok (.iaload, 1) := by decide +kernel
theorem dX6_page_39 : decode cX6_page 39 = .ok (.goto 5, 3) := by decide +kernel
theorem dX6_page_42 : decode cX6_page 42 = .ok (.bipush (-9), 2) := by decide +kernel
theorem dX6_page_44 : decode cX6_page 44 = .ok (.ireturn, 1) := by decide +kernel
theorem dX6_pageOf_0 : decode cX6_pageOf 0 = .ok (.iload_n 1, 1) := by decide +kernel
theorem dX6_pageOf_1 : decode cX6_pageOf 1 = .ok (.iconst 0, 1) := by decide +kernel
theorem dX6_pageOf_2 : decode cX6_pageOf 2 = .ok (.aload_n 0, 1) := by decide +kernel
theorem dX6_pageOf_3 : decode cX6_pageOf 3 = .ok (.getfield 10, 3) := by decide +kernel
theorem dX6_pageOf_6 : decode cX6_pageOf 6 = .ok (.getfield 83, 3) := by decide +kernel
theorem dX6_pageOf_9 : decode cX6_pageOf 9 = .ok (.iconst 1, 1) := by decide +kernel
theorem dX6_pageOf_10 : decode cX6_pageOf 10 = .ok (.isub, 1) := by decide +kernel
theorem dX6_pageOf_11 : decode cX6_pageOf 11 = .ok (.invokestatic 55, 3) := by decide +kernel
theorem dX6_pageOf_14 : decode cX6_pageOf 14 = .ok (.ifCond .ne 5, 3) := by decide +kernel
theorem dX6_pageOf_17 : decode cX6_pageOf 17 = .ok (.iconst (-1), 1) := by decide +kernel
theorem dX6_pageOf_18 : decode cX6_pageOf 18 = .ok (.ireturn, 1) := by decide +kernel
theorem dX6_pageOf_19 : decode cX6_pageOf 19 = .ok (.aload_n 0, 1) := by decide +kernel
theorem dX6_pageOf_20 : decode cX6_pageOf 20 = .ok (.getfield 37, 3) := by decide +kernel
theorem dX6_pageOf_23 : decode cX6_pageOf 23 = .ok (.iload_n 1, 1) := by decide +kernel
theorem dX6_pageOf_24 : decode cX6_pageOf 24 = .ok (.invokevirtual 187, 3) := by decide +kernel
theorem dX6_pageOf_27 : decode cX6_pageOf 27 = .ok (.ireturn, 1) := by decide +kernel
theorem dX6_mayBreak_0 : decode cX6_mayBreak 0 = .ok (.iload_n 1, 1) := by decide +kernel
theorem dX6_mayBreak_1 : decode cX6_mayBreak 1 = .ok (.iconst 0, 1) := by decide +kernel
theorem dX6_mayBreak_2 : decode cX6_mayBreak 2 = .ok (.aload_n 0, 1) := by decide +kernel
theorem dX6_mayBreak_3 : decode cX6_mayBreak 3 = .ok (.getfield 10, 3) := by decide +kernel
theorem dX6_mayBreak_6 : decode cX6_mayBreak 6 = .ok (.getfield 83, 3) := by decide +kernel
theorem dX6_mayBreak_9 : decode cX6_mayBreak 9 = .ok (.iconst 1, 1) := by decide +kernel
theorem dX6_mayBreak_10 : decode cX6_mayBreak 10 = .ok (.isub, 1) := by decide +kernel
theorem dX6_mayBreak_11 : decode cX6_mayBreak 11 = .ok (.invokestatic 55, 3) := by decide +kernel
theorem dX6_mayBreak_14 : decode cX6_mayBreak 14 = .ok (.ifCond .ne 5, 3) := by decide +kernel
theorem dX6_mayBreak_17 : decode cX6_mayBreak 17 = .ok (.iconst (-1), 1) := by decide +kernel
theorem dX6_mayBreak_18 : decode cX6_mayBreak 18 = .ok (.ireturn, 1) := by decide +kernel
theorem dX6_mayBreak_19 : decode cX6_mayBreak 19 = .ok (.aload_n 0, 1) := by decide +kernel
theorem dX6_mayBreak_20 : decode cX6_mayBreak 20 = .ok (.getfield 10, 3) := by decide +kernel
theorem dX6_mayBreak_23 : decode cX6_mayBreak 23 = .ok (.iload_n 1, 1) := by decide +kernel
theorem dX6_mayBreak_24 : decode cX6_mayBreak 24 = .ok (.aload_n 0, 1) := by decide +kernel
theorem dX6_mayBreak_25 : decode cX6_mayBreak 25 = .ok (.getfield 10, 3) := by decide +kernel
theorem dX6_mayBreak_28 : decode cX6_mayBreak 28 = .ok (.invokevirtual 190, 3) := by decide +kernel
theorem dX6_mayBreak_31 : decode cX6_mayBreak 31 = .ok (.invokevirtual 193, 3) := by decide +kernel
theorem dX6_mayBreak_34 : decode cX6_mayBreak 34 = .ok (.ifCond .eq 7, 3) := by decide +kernel
theorem dX6_mayBreak_37 : decode cX6_mayBreak 37 = .ok (.iconst 1, 1) := by decide +kernel
theorem dX6_mayBreak_38 : decode cX6_mayBreak 38 = .ok (.goto 4, 3) := by decide +kernel
theorem dX6_mayBreak_41 : decode cX6_mayBreak 41 = .ok (.iconst 0, 1) := by decide +kernel
theorem dX6_mayBreak_42 : decode cX6_mayBreak 42 = .ok (.ireturn, 1) := by decide +kernel
theorem dX6_count_0 : decode cX6_count 0 = .ok (.iload_n 1, 1) := by decide +kernel
theorem dX6_count_1 : decode cX6_count 1 = .ok (.tableswitch 96 0 6 #[43, 51, 59, 67, 75, 83, 91], 43) := by decide +kernel
theorem dX6_count_44 : decode cX6_count 44 = .ok (.aload_n 0, 1) := by decide +kernel
theorem dX6_count_45 : decode cX6_count 45 = .ok (.getfield 10, 3) := by decide +kernel
theorem dX6_count_48 : decode cX6_count 48 = .ok (.getfield 83, 3) := by decide +kernel
theorem dX6_count_51 : decode cX6_count 51 = .ok (.ireturn, 1) := by decide +kernel
theorem dX6_count_52 : decode cX6_count 52 = .ok (.aload_n 0, 1) := by decide +kernel
theorem dX6_count_53 : decode cX6_count 53 = .ok (.getfield 10, 3) := by decide +kernel
theorem dX6_count_56 : decode cX6_count 56 = .ok (.getfield 67, 3) := by decide +kernel
theorem dX6_count_59 : decode cX6_count 59 = .ok (.ireturn, 1) := by decide +kernel
theorem dX6_count_60 : decode cX6_count 60 = .ok (.aload_n 0, 1) := by decide +kernel
theorem dX6_count_61 : decode cX6_count 61 = .ok (.getfield 10, 3) := by decide +kernel
theorem dX6_count_64 : decode cX6_count 64 = .ok (.getfield 80, 3) := by decide +kernel
theorem dX6_count_67 : decode cX6_count 67 = .ok (.ireturn, 1) := by decide +kernel
theorem dX6_count_68 : decode cX6_count 68 = .ok (.aload_n 0, 1) := by decide +kernel
theorem dX6_count_69 : decode cX6_count 69 = .ok (.getfield 10, 3) := by decide +kernel
theorem dX6_count_72 : decode cX6_count 72 = .ok (.invokevirtual 196, 3) := by decide +kernel
theorem dX6_count_75 : decode cX6_count 75 = .ok (.ireturn, 1) := by decide +kernel
theorem dX6_count_76 : decode cX6_count 76 = .ok (.aload_n 0, 1) := by decide +kernel
theorem dX6_count_77 : decode cX6_count 77 = .ok (.getfield 10, 3) := by decide +kernel
theorem dX6_count_80 : decode cX6_count 80 = .ok (.invokevirtual 190, 3) := by decide +kernel
theorem dX6_count_83 : decode cX6_count 83 = .ok (.ireturn, 1) := by decide +kernel
theorem dX6_count_84 : decode cX6_count 84 = .ok (.aload_n 0, 1) := by decide +kernel
theorem dX6_count_85 : decode cX6_count 85 = .ok (.getfield 37, 3) := by decide +kernel
theorem dX6_count_88 : decode cX6_count 88 = .ok (.getfield 180, 3) := by decide +kernel
theorem dX6_count_91 : decode cX6_count 91 = .ok (.ireturn, 1) := by decide +kernel
theorem dX6_count_92 : decode cX6_count 92 = .ok (.aload_n 0, 1) := by decide +kernel
theorem dX6_count_93 : decode cX6_count 93 = .ok (.invokevirtual 163, 3) := by decide +kernel
theorem dX6_count_96 : decode cX6_count 96 = .ok (.ireturn, 1) := by decide +kernel
theorem dX6_count_97 : decode cX6_count 97 = .ok (.iconst (-1), 1) := by decide +kernel
theorem dX6_count_98 : decode cX6_count 98 = .ok (.ireturn, 1) := by decide +kernel
theorem dX6_finding_0 : decode cX6_finding 0 = .ok (.aload_n 0, 1) := by decide +kernel
theorem dX6_finding_1 : decode cX6_finding 1 = .ok (.getfield 45, 3) := by decide +kernel
theorem dX6_finding_4 : decode cX6_finding 4 = .ok (.ireturn, 1) := by decide +kernel
theorem dX6_findings_0 : decode cX6_findings 0 = .ok (.iload_n 1, 1) := by decide +kernel
theorem dX6_findings_1 : decode cX6_findings 1 = .ok (.iconst 1, 1) := by decide +kernel
theorem dX6_findings_2 : decode cX6_findings 2 = .ok (.bipush 6, 2) := by decide +kernel
theorem dX6_findings_4 : decode cX6_findings 4 = .ok (.invokestatic 55, 3) := by decide +kernel
theorem dX6_findings_7 : decode cX6_findings 7 = .ok (.ifCond .eq 12, 3) := by decide +kernel
theorem dX6_findings_10 : decode cX6_findings 10 = .ok (.aload_n 0, 1) := by decide +kernel
theorem dX6_findings_11 : decode cX6_findings 11 = .ok (.getfield 41, 3) := by decide +kernel
theorem dX6_findings_14 : decode cX6_findings 14 = .ok (.iload_n 1, 1) := by decide +kernel
theorem dX6_findings_15 : decode cX6_findings 15 = .ok (.iaload, 1) := by decide +kernel
theorem dX6_findings_16 : decode cX6_findings 16 = .ok (.goto 4, 3) := by decide +kernel
theorem dX6_findings_19 : decode cX6_findings 19 = .ok (.iconst (-1), 1) := by decide +kernel
theorem dX6_findings_20 : decode cX6_findings 20 = .ok (.ireturn, 1) := by decide +kernel
theorem dX6_digest_0 : decode cX6_digest 0 = .ok (.ldc2_w 199, 3) := by decide +kernel
theorem dX6_digest_3 : decode cX6_digest 3 = .ok (.lstore_n 1, 1) := by decide +kernel
theorem dX6_digest_4 : decode cX6_digest 4 = .ok (.ldc2_w 201, 3) := by decide +kernel
theorem dX6_digest_7 : decode cX6_digest 7 = .ok (.lload_n 1, 1) := by decide +kernel
theorem dX6_digest_8 : decode cX6_digest 8 = .ok (.lmul, 1) := by decide +kernel
theorem dX6_digest_9 : decode cX6_digest 9 = .ok (.aload_n 0, 1) := by decide +kernel
theorem dX6_digest_10 : decode cX6_digest 10 = .ok (.getfield 10, 3) := by decide +kernel
theorem dX6_digest_13 : decode cX6_digest 13 = .ok (.getfield 83, 3) := by decide +kernel
theorem dX6_digest_16 : decode cX6_digest 16 = .ok (.i2l, 1) := by decide +kernel
theorem dX6_digest_17 : decode cX6_digest 17 = .ok (.ladd, 1) := by decide +kernel
theorem dX6_digest_18 : decode cX6_digest 18 = .ok (.lstore_n 1, 1) := by decide +kernel
theorem dX6_digest_19 : decode cX6_digest 19 = .ok (.ldc2_w 201, 3) := by decide +kernel
theorem dX6_digest_22 : decode cX6_digest 22 = .ok (.lload_n 1, 1) := by decide +kernel
theorem dX6_digest_23 : decode cX6_digest 23 = .ok (.lmul, 1) := by decide +kernel
theorem dX6_digest_24 : decode cX6_digest 24 = .ok (.aload_n 0, 1) := by decide +kernel
theorem dX6_digest_25 : decode cX6_digest 25 = .ok (.getfield 10, 3) := by decide +kernel
theorem dX6_digest_28 : decode cX6_digest 28 = .ok (.getfield 67, 3) := by decide +kernel
theorem dX6_digest_31 : decode cX6_digest 31 = .ok (.i2l, 1) := by decide +kernel
theorem dX6_digest_32 : decode cX6_digest 32 = .ok (.ladd, 1) := by decide +kernel
theorem dX6_digest_33 : decode cX6_digest 33 = .ok (.lstore_n 1, 1) := by decide +kernel
theorem dX6_digest_34 : decode cX6_digest 34 = .ok (.ldc2_w 201, 3) := by decide +kernel
theorem dX6_digest_37 : decode cX6_digest 37 = .ok (.lload_n 1, 1) := by decide +kernel
theorem dX6_digest_38 : decode cX6_digest 38 = .ok (.lmul, 1) := by decide +kernel
theorem dX6_digest_39 : decode cX6_digest 39 = .ok (.aload_n 0, 1) := by decide +kernel
theorem dX6_digest_40 : decode cX6_digest 40 = .ok (.getfield 10, 3) := by decide +kernel
theorem dX6_digest_43 : decode cX6_digest 43 = .ok (.getfield 203, 3) := by decide +kernel
theorem dX6_digest_46 : decode cX6_digest 46 = .ok (.i2l, 1) := by decide +kernel
theorem dX6_digest_47 : decode cX6_digest 47 = .ok (.ladd, 1) := by decide +kernel
theorem dX6_digest_48 : decode cX6_digest 48 = .ok (.lstore_n 1, 1) := by decide +kernel
theorem dX6_digest_49 : decode cX6_digest 49 = .ok (.lload_n 1, 1) := by decide +kernel
theorem dX6_digest_50 : decode cX6_digest 50 = .ok (.aload_n 0, 1) := by decide +kernel
theorem dX6_digest_51 : decode cX6_digest 51 = .ok (.getfield 10, 3) := by decide +kernel
theorem dX6_digest_54 : decode cX6_digest 54 = .ok (.getfield 70, 3) := by decide +kernel
theorem dX6_digest_57 : decode cX6_digest 57 = .ok (.aload_n 0, 1) := by decide +kernel
theorem dX6_digest_58 : decode cX6_digest 58 = .ok (.getfield 10, 3) := by decide +kernel
theorem dX6_digest_61 : decode cX6_digest 61 = .ok (.getfield 67, 3) := by decide +kernel
theorem dX6_digest_64 : decode cX6_digest 64 = .ok (.invokestatic 206, 3) := by decide +kernel
theorem dX6_digest_67 : decode cX6_digest 67 = .ok (.lstore_n 1, 1) := by decide +kernel
theorem dX6_digest_68 : decode cX6_digest 68 = .ok (.lload_n 1, 1) := by decide +kernel
theorem dX6_digest_69 : decode cX6_digest 69 = .ok (.aload_n 0, 1) := by decide +kernel
theorem dX6_digest_70 : decode cX6_digest 70 = .ok (.getfield 30, 3) := by decide +kernel
theorem dX6_digest_73 : decode cX6_digest 73 = .ok (.getfield 173, 3) := by decide +kernel
theorem dX6_digest_76 : decode cX6_digest 76 = .ok (.aload_n 0, 1) := by decide +kernel
theorem dX6_digest_77 : decode cX6_digest 77 = .ok (.getfield 10, 3) := by decide +kernel
theorem dX6_digest_80 : decode cX6_digest 80 = .ok (.getfield 67, 3) := by decide +kernel
theorem dX6_digest_83 : decode cX6_digest 83 = .ok (.invokestatic 206, 3) := by decide +kernel
theorem dX6_digest_86 : decode cX6_digest 86 = .ok (.lstore_n 1, 1) := by decide +kernel
theorem dX6_digest_87 : decode cX6_digest 87 = .ok (.lload_n 1, 1) := by decide +kernel
theorem dX6_digest_88 : decode cX6_digest 88 = .ok (.aload_n 0, 1) := by decide +kernel
theorem dX6_digest_89 : decode cX6_digest 89 = .ok (.getfield 10, 3) := by decide +kernel
theorem dX6_digest_92 : decode cX6_digest 92 = .ok (.getfield 73, 3) := by decide +kernel
theorem dX6_digest_95 : decode cX6_digest 95 = .ok (.bipush 10, 2) := by decide +kernel
theorem dX6_digest_97 : decode cX6_digest 97 = .ok (.invokestatic 206, 3) := by decide +kernel
theorem dX6_digest_100 : decode cX6_digest 100 = .ok (.lstore_n 1, 1) := by decide +kernel
theorem dX6_digest_101 : decode cX6_digest 101 = .ok (.iconst 0, 1) := by decide +kernel
theorem dX6_digest_102 : decode cX6_digest 102 = .ok (.istore_n 3, 1) := by decide +kernel
theorem dX6_digest_103 : decode cX6_digest 103 = .ok (.iload_n 3, 1) := by decide +kernel
theorem dX6_digest_104 : decode cX6_digest 104 = .ok (.aload_n 0, 1) := by decide +kernel
theorem dX6_digest_105 : decode cX6_digest 105 = .ok (.getfield 10, 3) := by decide +kernel
theorem dX6_digest_108 : decode cX6_digest 108 = .ok (.getfield 80, 3) := by decide +kernel
theorem dX6_digest_111 : decode cX6_digest 111 = .ok (.if_icmp .ge 41, 3) := by decide +kernel
theorem dX6_digest_114 : decode cX6_digest 114 = .ok (.aload_n 0, 1) := by decide +kernel
theorem dX6_digest_115 : decode cX6_digest 115 = .ok (.getfield 10, 3) := by decide +kernel
theorem dX6_digest_118 : decode cX6_digest 118 = .ok (.iload_n 3, 1) := by decide +kernel
theorem dX6_digest_119 : decode cX6_digest 119 = .ok (.invokevirtual 210, 3) := by decide +kernel
theorem dX6_digest_122 : decode cX6_digest 122 = .ok (.astore 4, 2) := by decide +kernel
theorem dX6_digest_124 : decode cX6_digest 124 = .ok (.aload 4, 2) := by decide +kernel
theorem dX6_digest_126 : decode cX6_digest 126 = .ok (.ifnonnull 13, 3) := by decide +kernel
theorem dX6_digest_129 : decode cX6_digest 129 = .ok (.ldc2_w 201, 3) := by decide +kernel
theorem dX6_digest_132 : decode cX6_digest 132 = .ok (.lload_n 1, 1) := by decide +kernel
theorem dX6_digest_133 : decode cX6_digest 133 = .ok (.lmul, 1) := by decide +kernel
theorem dX6_digest_134 : decode cX6_digest 134 = .ok (.lconst 1, 1) := by decide +kernel
theorem dX6_digest_135 : decode cX6_digest 135 = .ok (.lsub, 1) := by decide +kernel
theorem dX6_digest_136 : decode cX6_digest 136 = .ok (.goto 9, 3) := by decide +kernel
theorem dX6_digest_139 : decode cX6_digest 139 = .ok (.lload_n 1, 1) := by decide +kernel
theorem dX6_digest_140 : decode cX6_digest 140 = .ok (.aload 4, 2) := by decide +kernel
theorem dX6_digest_142 : decode cX6_digest 142 = .ok (.invokestatic 213, 3) := by decide +kernel
theorem dX6_digest_145 : decode cX6_digest 145 = .ok (.lstore_n 1, 1) := by decide +kernel
theorem dX6_digest_146 : decode cX6_digest 146 = .ok (.iinc 3 1, 3) := by decide +kernel
theorem dX6_digest_149 : decode cX6_digest 149 = .ok (.goto (-46), 3) := by decide +kernel
theorem dX6_digest_152 : decode cX6_digest 152 = .ok (.ldc2_w 201, 3) := by decide +kernel
theorem dX6_digest_155 : decode cX6_digest 155 = .ok (.lload_n 1, 1) := by decide +kernel
theorem dX6_digest_156 : decode cX6_digest 156 = .ok (.lmul, 1) := by decide +kernel
theorem dX6_digest_157 : decode cX6_digest 157 = .ok (.aload_n 0, 1) := by decide +kernel
theorem dX6_digest_158 : decode cX6_digest 158 = .ok (.getfield 37, 3) := by decide +kernel
theorem dX6_digest_161 : decode cX6_digest 161 = .ok (.getfield 180, 3) := by decide +kernel
theorem dX6_digest_164 : decode cX6_digest 164 = .ok (.i2l, 1) := by decide +kernel
theorem dX6_digest_165 : decode cX6_digest 165 = .ok (.ladd, 1) := by decide +kernel
theorem dX6_digest_166 : decode cX6_digest 166 = .ok (.lstore_n 1, 1) := by decide +kernel
theorem dX6_digest_167 : decode cX6_digest 167 = .ok (.iconst 0, 1) := by decide +kernel
theorem dX6_digest_168 : decode cX6_digest 168 = .ok (.istore_n 3, 1) := by decide +kernel
theorem dX6_digest_169 : decode cX6_digest 169 = .ok (.iload_n 3, 1) := by decide +kernel
theorem dX6_digest_170 : decode cX6_digest 170 = .ok (.aload_n 0, 1) := by decide +kernel
theorem dX6_digest_171 : decode cX6_digest 171 = .ok (.getfield 37, 3) := by decide +kernel
theorem dX6_digest_174 : decode cX6_digest 174 = .ok (.getfield 180, 3) := by decide +kernel
theorem dX6_digest_177 : decode cX6_digest 177 = .ok (.if_icmp .ge 30, 3) := by decide +kernel
theorem dX6_digest_180 : decode cX6_digest 180 = .ok (.iload_n 3, 1) := by decide +kernel
theorem dX6_digest_181 : decode cX6_digest 181 = .ok (.bipush 16, 2) := by decide +kernel
theorem dX6_digest_183 : decode cX6_digest 183 = .ok (.if_icmp .ge 24, 3) := by decide +kernel
theorem dX6_digest_186 : decode cX6_digest 186 = .ok (.lload_n 1, 1) := by decide +kernel
theorem dX6_digest_187 : decode cX6_digest 187 = .ok (.aload_n 0, 1) := by decide +kernel
theorem dX6_digest_188 : decode cX6_digest 188 = .ok (.getfield 37, 3) := by decide +kernel
theorem dX6_digest_191 : decode cX6_digest 191 = .ok (.getfield 183, 3) := by decide +kernel
theorem dX6_digest_194 : decode cX6_digest 194 = .ok (.iload_n 3, 1) := by decide +kernel
theorem dX6_digest_195 : decode cX6_digest 195 = .ok (.aaload, 1) := by decide +kernel
theorem dX6_digest_196 : decode cX6_digest 196 = .ok (.iconst 4, 1) := by decide +kernel
theorem dX6_digest_197 : decode cX6_digest 197 = .ok (.invokestatic 206, 3) := by decide +kernel
theorem dX6_digest_200 : decode cX6_digest 200 = .ok (.lstore_n 1, 1) := by decide +kernel
theorem dX6_digest_201 : decode cX6_digest 201 = .ok (.iinc 3 1, 3) := by decide +kernel
theorem dX6_digest_204 : decode cX6_digest 204 = .ok (.goto (-35), 3) := by decide +kernel
theorem dX6_digest_207 : decode cX6_digest 207 = .ok (.lload_n 1, 1) := by decide +kernel
theorem dX6_digest_208 : decode cX6_digest 208 = .ok (.lreturn, 1) := by decide +kernel
theorem dX6_mixed_0 : decode cX6_mixed 0 = .ok (.lload_n 0, 1) := by decide +kernel
theorem dX6_mixed_1 : decode cX6_mixed 1 = .ok (.lstore 4, 2) := by decide +kernel
theorem dX6_mixed_3 : decode cX6_mixed 3 = .ok (.iconst 0, 1) := by decide +kernel
theorem dX6_mixed_4 : decode cX6_mixed 4 = .ok (.istore 6, 2) := by decide +kernel
theorem dX6_mixed_6 : decode cX6_mixed 6 = .ok (.iload 6, 2) := by decide +kernel
theorem dX6_mixed_8 : decode cX6_mixed 8 = .ok (.iload_n 3, 1) := by decide +kernel
theorem dX6_mixed_9 : decode cX6_mixed 9 = .ok (.if_icmp .ge 30, 3) := by decide +kernel
theorem dX6_mixed_12 : decode cX6_mixed 12 = .ok (.iload 6, 2) := by decide +kernel
theorem dX6_mixed_14 : decode cX6_mixed 14 = .ok (.aload_n 2, 1) := by decide +kernel
theorem dX6_mixed_15 : decode cX6_mixed 15 = .ok (.arraylength, 1) := by decide +kernel
theorem dX6_mixed_16 : decode cX6_mixed 16 = .ok (.if_icmp .ge 23, 3) := by decide +kernel
theorem dX6_mixed_19 : decode cX6_mixed 19 = .ok (.ldc2_w 201, 3) := by decide +kernel
theorem dX6_mixed_22 : decode cX6_mixed 22 = .ok (.lload 4, 2) := by decide +kernel
theorem dX6_mixed_24 : decode cX6_mixed 24 = .ok (.lmul, 1) := by decide +kernel
theorem dX6_mixed_25 : decode cX6_mixed 25 = .ok (.aload_n 2, 1) := by decide +kernel
theorem dX6_mixed_26 : decode cX6_mixed 26 = .ok (.iload 6, 2) := by decide +kernel
theorem dX6_mixed_28 : decode cX6_mixed 28 = .ok (.iaload, 1) := by decide +kernel
theorem dX6_mixed_29 : decode cX6_mixed 29 = .ok (.i2l, 1) := by decide +kernel
theorem dX6_mixed_30 : decode cX6_mixed 30 = .ok (.ladd, 1) := by decide +kernel
theorem dX6_mixed_31 : decode cX6_mixed 31 = .ok (.lstore 4, 2) := by decide +kernel
theorem dX6_mixed_33 : decode cX6_mixed 33 = .ok (.iinc 6 1, 3) := by decide +kernel
theorem dX6_mixed_36 : decode cX6_mixed 36 = .ok (.goto (-30), 3) := by decide +kernel
theorem dX6_mixed_39 : decode cX6_mixed 39 = .ok (.lload 4, 2) := by decide +kernel
theorem dX6_mixed_41 : decode cX6_mixed 41 = .ok (.lreturn, 1) := by decide +kernel
theorem dX6_mixedCell_0 : decode cX6_mixedCell 0 = .ok (.lload_n 0, 1) := by decide +kernel
theorem dX6_mixedCell_1 : decode cX6_mixedCell 1 = .ok (.lstore_n 3, 1) := by decide +kernel
theorem dX6_mixedCell_2 : decode cX6_mixedCell 2 = .ok (.iconst 0, 1) := by decide +kernel
theorem dX6_mixedCell_3 : decode cX6_mixedCell 3 = .ok (.istore 5, 2) := by decide +kernel
theorem dX6_mixedCell_5 : decode cX6_mixedCell 5 = .ok (.iload 5, 2) := by decide +kernel
theorem dX6_mixedCell_7 : decode cX6_mixedCell 7 = .ok (.bipush 6, 2) := by decide +kernel
theorem dX6_mixedCell_9 : decode cX6_mixedCell 9 = .ok (.if_icmp .gt 23, 3) := by decide +kernel
theorem dX6_mixedCell_12 : decode cX6_mixedCell 12 = .ok (.ldc2_w 201, 3) := by decide +kernel
theorem dX6_mixedCell_15 : decode cX6_mixedCell 15 = .ok (.lload_n 3, 1) := by decide +kernel
theorem dX6_mixedCell_16 : decode cX6_mixedCell 16 = .ok (.lmul, 1) := by decide +kernel
theorem dX6_mixedCell_17 : decode cX6_mixedCell 17 = .ok (.aload_n 2, 1) := by decide +kernel
theorem dX6_mixedCell_18 : decode cX6_mixedCell 18 = .ok (.iload 5, 2) := by decide +kernel
theorem dX6_mixedCell_20 : decode cX6_mixedCell 20 = .ok (.invokevirtual 108, 3) := by decide +kernel
theorem dX6_mixedCell_23 : decode cX6_mixedCell 23 = .ok (.i2l, 1) := by decide +kernel
theorem dX6_mixedCell_24 : decode cX6_mixedCell 24 = .ok (.ladd, 1) := by decide +kernel
theorem dX6_mixedCell_25 : decode cX6_mixedCell 25 = .ok (.lstore_n 3, 1) := by decide +kernel
theorem dX6_mixedCell_26 : decode cX6_mixedCell 26 = .ok (.iinc 5 1, 3) := by decide +kernel
theorem dX6_mixedCell_29 : decode cX6_mixedCell 29 = .ok (.goto (-24), 3) := by decide +kernel
theorem dX6_mixedCell_32 : decode cX6_mixedCell 32 = .ok (.lload_n 3, 1) := by decide +kernel
theorem dX6_mixedCell_33 : decode cX6_mixedCell 33 = .ok (.aload_n 2, 1) := by decide +kernel
theorem dX6_mixedCell_34 : decode cX6_mixedCell 34 = .ok (.getfield 217, 3) := by decide +kernel
theorem dX6_mixedCell_37 : decode cX6_mixedCell 37 = .ok (.aload_n 2, 1) := by decide +kernel
theorem dX6_mixedCell_38 : decode cX6_mixedCell 38 = .ok (.getfield 129, 3) := by decide +kernel
theorem dX6_mixedCell_41 : decode cX6_mixedCell 41 = .ok (.invokestatic 206, 3) := by decide +kernel
theorem dX6_mixedCell_44 : decode cX6_mixedCell 44 = .ok (.lstore_n 3, 1) := by decide +kernel
theorem dX6_mixedCell_45 : decode cX6_mixedCell 45 = .ok (.aload_n 2, 1) := by decide +kernel
theorem dX6_mixedCell_46 : decode cX6_mixedCell 46 = .ok (.getfield 111, 3) := by decide +kernel
theorem dX6_mixedCell_49 : decode cX6_mixedCell 49 = .ok (.iconst 2, 1) := by decide +kernel
theorem dX6_mixedCell_50 : decode cX6_mixedCell 50 = .ok (.if_icmp .ne 17, 3) := by decide +kernel
theorem dX6_mixedCell_53 : decode cX6_mixedCell 53 = .ok (.ldc2_w 201, 3) := by decide +kernel
theorem dX6_mixedCell_56 : decode cX6_mixedCell 56 = .ok (.lload_n 3, 1) := by decide +kernel
theorem dX6_mixedCell_57 : decode cX6_mixedCell 57 = .ok (.lmul, 1) := by decide +kernel
theorem dX6_mixedCell_58 : decode cX6_mixedCell 58 = .ok (.aload_n 2, 1) := by decide +kernel
theorem dX6_mixedCell_59 : decode cX6_mixedCell 59 = .ok (.getfield 139, 3) := by decide +kernel
theorem dX6_mixedCell_62 : decode cX6_mixedCell 62 = .ok (.i2l, 1) := by decide +kernel
theorem dX6_mixedCell_63 : decode cX6_mixedCell 63 = .ok (.ladd, 1) := by decide +kernel
theorem dX6_mixedCell_64 : decode cX6_mixedCell 64 = .ok (.goto 4, 3) := by decide +kernel
theorem dX6_mixedCell_67 : decode cX6_mixedCell 67 = .ok (.lload_n 3, 1) := by decide +kernel
theorem dX6_mixedCell_68 : decode cX6_mixedCell 68 = .ok (.lreturn, 1) := by decide +kernel
theorem dX6_isWithin_0 : decode cX6_isWithin 0 = .ok (.iload_n 0, 1) := by decide +kernel
theorem dX6_isWithin_1 : decode cX6_isWithin 1 = .ok (.iload_n 1, 1) := by decide +kernel
theorem dX6_isWithin_2 : decode cX6_isWithin 2 = .ok (.if_icmp .lt 12, 3) := by decide +kernel
theorem dX6_isWithin_5 : decode cX6_isWithin 5 = .ok (.iload_n 0, 1) := by decide +kernel
theorem dX6_isWithin_6 : decode cX6_isWithin 6 = .ok (.iload_n 2, 1) := by decide +kernel
theorem dX6_isWithin_7 : decode cX6_isWithin 7 = .ok (.if_icmp .gt 7, 3) := by decide +kernel
theorem dX6_isWithin_10 : decode cX6_isWithin 10 = .ok (.iconst 1, 1) := by decide +kernel
theorem dX6_isWithin_11 : decode cX6_isWithin 11 = .ok (.goto 4, 3) := by decide +kernel
theorem dX6_isWithin_14 : decode cX6_isWithin 14 = .ok (.iconst 0, 1) := by decide +kernel
theorem dX6_isWithin_15 : decode cX6_isWithin 15 = .ok (.ireturn, 1) := by decide +kernel
theorem dX6_isPlace_0 : decode cX6_isPlace 0 = .ok (.iload_n 1, 1) := by decide +kernel
theorem dX6_isPlace_1 : decode cX6_isPlace 1 = .ok (.iconst 0, 1) := by decide +kernel
theorem dX6_isPlace_2 : decode cX6_isPlace 2 = .ok (.aload_n 0, 1) := by decide +kernel
theorem dX6_isPlace_3 : decode cX6_isPlace 3 = .ok (.getfield 10, 3) := by decide +kernel
theorem dX6_isPlace_6 : decode cX6_isPlace 6 = .ok (.getfield 83, 3) := by decide +kernel
theorem dX6_isPlace_9 : decode cX6_isPlace 9 = .ok (.iconst 1, 1) := by decide +kernel
theorem dX6_isPlace_10 : decode cX6_isPlace 10 = .ok (.isub, 1) := by decide +kernel
theorem dX6_isPlace_11 : decode cX6_isPlace 11 = .ok (.invokestatic 55, 3) := by decide +kernel
theorem dX6_isPlace_14 : decode cX6_isPlace 14 = .ok (.ifCond .eq 24, 3) := by decide +kernel
theorem dX6_isPlace_17 : decode cX6_isPlace 17 = .ok (.iload_n 2, 1) := by decide +kernel
theorem dX6_isPlace_18 : decode cX6_isPlace 18 = .ok (.iconst 0, 1) := by decide +kernel
theorem dX6_isPlace_19 : decode cX6_isPlace 19 = .ok (.aload_n 0, 1) := by decide +kernel
theorem dX6_isPlace_20 : decode cX6_isPlace 20 = .ok (.getfield 10, 3) := by decide +kernel
theorem dX6_isPlace_23 : decode cX6_isPlace 23 = .ok (.getfield 67, 3) := by decide +kernel
theorem dX6_isPlace_26 : decode cX6_isPlace 26 = .ok (.iconst 1, 1) := by decide +kernel
theorem dX6_isPlace_27 : decode cX6_isPlace 27 = .ok (.isub, 1) := by decide +kernel
theorem dX6_isPlace_28 : decode cX6_isPlace 28 = .ok (.invokestatic 55, 3) := by decide +kernel
theorem dX6_isPlace_31 : decode cX6_isPlace 31 = .ok (.ifCond .eq 7, 3) := by decide +kernel
theorem dX6_isPlace_34 : decode cX6_isPlace 34 = .ok (.iconst 1, 1) := by decide +kernel
theorem dX6_isPlace_35 : decode cX6_isPlace 35 = .ok (.goto 4, 3) := by decide +kernel
theorem dX6_isPlace_38 : decode cX6_isPlace 38 = .ok (.iconst 0, 1) := by decide +kernel
theorem dX6_isPlace_39 : decode cX6_isPlace 39 = .ok (.ireturn, 1) := by decide +kernel
theorem dX6_tell_0 : decode cX6_tell 0 = .ok (.aload_n 0, 1) := by decide +kernel
theorem dX6_tell_1 : decode cX6_tell 1 = .ok (.iload_n 1, 1) := by decide +kernel
theorem dX6_tell_2 : decode cX6_tell 2 = .ok (.putfield 45, 3) := by decide +kernel
theorem dX6_tell_5 : decode cX6_tell 5 = .ok (.iload_n 1, 1) := by decide +kernel
theorem dX6_tell_6 : decode cX6_tell 6 = .ok (.ifCond .lt 22, 3) := by decide +kernel
theorem dX6_tell_9 : decode cX6_tell 9 = .ok (.iload_n 1, 1) := by decide +kernel
theorem dX6_tell_10 : decode cX6_tell 10 = .ok (.aload_n 0, 1) := by decide +kernel
theorem dX6_tell_11 : decode cX6_tell 11 = .ok (.getfield 41, 3) := by decide +kernel
theorem dX6_tell_14 : decode cX6_tell 14 = .ok (.arraylength, 1) := by decide +kernel
theorem dX6_tell_15 : decode cX6_tell 15 = .ok (.if_icmp .ge 13, 3) := by decide +kernel
theorem dX6_tell_18 : decode cX6_tell 18 = .ok (.aload_n 0, 1) := by decide +kernel
theorem dX6_tell_19 : decode cX6_tell 19 = .ok (.getfield 41, 3) := by decide +kernel
theorem dX6_tell_22 : decode cX6_tell 22 = .ok (.iload_n 1, 1) := by decide +kernel
theorem dX6_tell_23 : decode cX6_tell 23 = .ok (.dup2, 1) := by decide +kernel
theorem dX6_tell_24 : decode cX6_tell 24 = .ok (.iaload, 1) := by decide +kernel
theorem dX6_tell_25 : decode cX6_tell 25 = .ok (.iconst 1, 1) := by decide +kernel
theorem dX6_tell_26 : decode cX6_tell 26 = .ok (.iadd, 1) := by decide +kernel
theorem dX6_tell_27 : decode cX6_tell 27 = .ok (.iastore, 1) := by decide +kernel
theorem dX6_tell_28 : decode cX6_tell 28 = .ok (.bipush (-3), 2) := by decide +kernel
theorem dX6_tell_30 : decode cX6_tell 30 = .ok (.ireturn, 1) := by decide +kernel
theorem dX6_heightOfTable_0 : decode cX6_heightOfTable 0 = .ok (.aload_n 0, 1) := by decide +kernel
theorem dX6_heightOfTable_1 : decode cX6_heightOfTable 1 = .ok (.getfield 21, 3) := by decide +kernel
theorem dX6_heightOfTable_4 : decode cX6_heightOfTable 4 = .ok (.invokevirtual 220, 3) := by decide +kernel
theorem dX6_heightOfTable_7 : decode cX6_heightOfTable 7 = .ok (.aload_n 0, 1) := by decide +kernel
theorem dX6_heightOfTable_8 : decode cX6_heightOfTable 8 = .ok (.getfield 21, 3) := by decide +kernel
theorem dX6_heightOfTable_11 : decode cX6_heightOfTable 11 = .ok (.aload_n 0, 1) := by decide +kernel
theorem dX6_heightOfTable_12 : decode cX6_heightOfTable 12 = .ok (.getfield 30, 3) := by decide +kernel
theorem dX6_heightOfTable_15 : decode cX6_heightOfTable 15 = .ok (.getfield 173, 3) := by decide +kernel
theorem dX6_heightOfTable_18 : decode cX6_heightOfTable 18 = .ok (.invokevirtual 223, 3) := by decide +kernel
theorem dX6_heightOfTable_21 : decode cX6_heightOfTable 21 = .ok (.ireturn, 1) := by decide +kernel
