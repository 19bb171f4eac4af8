theorem dX0_init_0 : decode cX0_init 0 = .ok (.aload_n 0, 1) := by decide +kernel
theorem dX0_init_1 : decode cX0_init 1 = .ok (.invokespecial 3, 3) := by decide +kernel
theorem dX0_init_4 : decode cX0_init 4 = .ok (.aload_n 0, 1) := by decide +kernel
theorem dX0_init_5 : decode cX0_init 5 = .ok (.bipush 12, 2) := by decide +kernel
theorem dX0_init_7 : decode cX0_init 7 = .ok (.newarray .int, 2) := by decide +kernel
theorem dX0_init_9 : decode cX0_init 9 = .ok (.putfield 9, 3) := by decide +kernel
theorem dX0_init_12 : decode cX0_init 12 = .ok (.aload_n 0, 1) := by decide +kernel
theorem dX0_init_13 : decode cX0_init 13 = .ok (.sipush 252, 3) := by decide +kernel
theorem dX0_init_16 : decode cX0_init 16 = .ok (.newarray .int, 2) := by decide +kernel
theorem dX0_init_18 : decode cX0_init 18 = .ok (.putfield 15, 3) := by decide +kernel
theorem dX0_init_21 : decode cX0_init 21 = .ok (.return_, 1) := by decide +kernel
theorem dX0_begin_0 : decode cX0_begin 0 = .ok (.aload_n 0, 1) := by decide +kernel
theorem dX0_begin_1 : decode cX0_begin 1 = .ok (.iload_n 1, 1) := by decide +kernel
theorem dX0_begin_2 : decode cX0_begin 2 = .ok (.putfield 18, 3) := by decide +kernel
theorem dX0_begin_5 : decode cX0_begin 5 = .ok (.aload_n 0, 1) := by decide +kernel
theorem dX0_begin_6 : decode cX0_begin 6 = .ok (.iload_n 2, 1) := by decide +kernel
theorem dX0_begin_7 : decode cX0_begin 7 = .ok (.putfield 22, 3) := by decide +kernel
theorem dX0_begin_10 : decode cX0_begin 10 = .ok (.aload_n 0, 1) := by decide +kernel
theorem dX0_begin_11 : decode cX0_begin 11 = .ok (.iload_n 3, 1) := by decide +kernel
theorem dX0_begin_12 : decode cX0_begin 12 = .ok (.putfield 25, 3) := by decide +kernel
theorem dX0_begin_15 : decode cX0_begin 15 = .ok (.aload_n 0, 1) := by decide +kernel
theorem dX0_begin_16 : decode cX0_begin 16 = .ok (.iload 4, 2) := by decide +kernel
theorem dX0_begin_18 : decode cX0_begin 18 = .ok (.putfield 28, 3) := by decide +kernel
theorem dX0_begin_21 : decode cX0_begin 21 = .ok (.aload_n 0, 1) := by decide +kernel
theorem dX0_begin_22 : decode cX0_begin 22 = .ok (.iload 5, 2) := by decide +kernel
theorem dX0_begin_24 : decode cX0_begin 24 = .ok (.putfield 31, 3) := by decide +kernel
theorem dX0_begin_27 : decode cX0_begin 27 = .ok (.aload_n 0, 1) := by decide +kernel
theorem dX0_begin_28 : decode cX0_begin 28 = .ok (.iconst 0, 1) := by decide +kernel
theorem dX0_begin_29 : decode cX0_begin 29 = .ok (.putfield 34, 3) := by decide +kernel
theorem dX0_begin_32 : decode cX0_begin 32 = .ok (.aload_n 0, 1) := by decide +kernel
theorem dX0_begin_33 : decode cX0_begin 33 = .ok (.iconst 1, 1) := by decide +kernel
theorem dX0_begin_34 : decode cX0_begin 34 = .ok (.putfield 37, 3) := by decide +kernel
theorem dX0_begin_37 : decode cX0_begin 37 = .ok (.aload_n 0, 1) := by decide +kernel
theorem dX0_begin_38 : decode cX0_begin 38 = .ok (.iconst 0, 1) := by decide +kernel
theorem dX0_begin_39 : decode cX0_begin 39 = .ok (.putfield 40, 3) := by decide +kernel
theorem dX0_begin_42 : decode cX0_begin 42 = .ok (.aload_n 0, 1) := by decide +kernel
theorem dX0_begin_43 : decode cX0_begin 43 = .ok (.iconst 0, 1) := by decide +kernel
theorem dX0_begin_44 : decode cX0_begin 44 = .ok (.invokevirtual 44, 3) := by decide +kernel
theorem dX0_begin_47 : decode cX0_begin 47 = .ok (.return_, 1) := by decide +kernel
theorem dX0_fact_0 : decode cX0_fact 0 = .ok (.iload_n 1, 1) := by decide +kernel
theorem dX0_fact_1 : decode cX0_fact 1 = .ok (.tableswitch 69 0 5 #[39, 44, 49, 54, 59, 64], 39) := by decide +kernel
theorem dX0_fact_40 : decode cX0_fact 40 = .ok (.aload_n 0, 1) := by decide +kernel
theorem dX0_fact_41 : decode cX0_fact 41 = .ok (.getfield 18, 3) := by decide +kernel
theorem dX0_fact_44 : decode cX0_fact 44 = .ok (.ireturn, 1) := by decide +kernel
theorem dX0_fact_45 : decode cX0_fact 45 = .ok (.aload_n 0, 1) := by decide +kernel
theorem dX0_fact_46 : decode cX0_fact 46 = .ok (.getfield 22, 3) := by decide +kernel
theorem dX0_fact_49 : decode cX0_fact 49 = .ok (.ireturn, 1) := by decide +kernel
theorem dX0_fact_50 : decode cX0_fact 50 = .ok (.aload_n 0, 1) := by decide +kernel
theorem dX0_fact_51 : decode cX0_fact 51 = .ok (.getfield 25, 3) := by decide +kernel
theorem dX0_fact_54 : decode cX0_fact 54 = .ok (.ireturn, 1) := by decide +kernel
theorem dX0_fact_55 : decode cX0_fact 55 = .ok (.aload_n 0, 1) := by decide +kernel
theorem dX0_fact_56 : decode cX0_fact 56 = .ok (.getfield 28, 3) := by decide +kernel
theorem dX0_fact_59 : decode cX0_fact 59 = .ok (.ireturn, 1) := by decide +kernel
theorem dX0_fact_60 : decode cX0_fact 60 = .ok (.aload_n 0, 1) := by decide +kernel
theorem dX0_fact_61 : decode cX0_fact 61 = .ok (.getfield 31, 3) := by decide +kernel
theorem dX0_fact_64 : decode cX0_fact 64 = .ok (.ireturn, 1) := by decide +kernel
theorem dX0_fact_65 : decode cX0_fact 65 = .ok (.aload_n 0, 1) := by decide +kernel
theorem dX0_fact_66 : decode cX0_fact 66 = .ok (.getfield 48, 3) := by decide +kernel
theorem dX0_fact_69 : decode cX0_fact 69 = .ok (.ireturn, 1) := by decide +kernel
theorem dX0_fact_70 : decode cX0_fact 70 = .ok (.aload_n 0, 1) := by decide +kernel
theorem dX0_fact_71 : decode cX0_fact 71 = .ok (.getfield 34, 3) := by decide +kernel
theorem dX0_fact_74 : decode cX0_fact 74 = .ok (.ireturn, 1) := by decide +kernel
theorem dX0_meets_0 : decode cX0_meets 0 = .ok (.iload_n 1, 1) := by decide +kernel
theorem dX0_meets_1 : decode cX0_meets 1 = .ok (.aload_n 0, 1) := by decide +kernel
theorem dX0_meets_2 : decode cX0_meets 2 = .ok (.getfield 22, 3) := by decide +kernel
theorem dX0_meets_5 : decode cX0_meets 5 = .ok (.aload_n 0, 1) := by decide +kernel
theorem dX0_meets_6 : decode cX0_meets 6 = .ok (.getfield 28, 3) := by decide +kernel
theorem dX0_meets_9 : decode cX0_meets 9 = .ok (.iadd, 1) := by decide +kernel
theorem dX0_meets_10 : decode cX0_meets 10 = .ok (.if_icmp .ge 41, 3) := by decide +kernel
theorem dX0_meets_13 : decode cX0_meets 13 = .ok (.aload_n 0, 1) := by decide +kernel
theorem dX0_meets_14 : decode cX0_meets 14 = .ok (.getfield 22, 3) := by decide +kernel
theorem dX0_meets_17 : decode cX0_meets 17 = .ok (.iload_n 1, 1) := by decide +kernel
theorem dX0_meets_18 : decode cX0_meets 18 = .ok (.iload_n 3, 1) := by decide +kernel
theorem dX0_meets_19 : decode cX0_meets 19 = .ok (.iadd, 1) := by decide +kernel
theorem dX0_meets_20 : decode cX0_meets 20 = .ok (.if_icmp .ge 31, 3) := by decide +kernel
theorem dX0_meets_23 : decode cX0_meets 23 = .ok (.iload_n 2, 1) := by decide +kernel
theorem dX0_meets_24 : decode cX0_meets 24 = .ok (.aload_n 0, 1) := by decide +kernel
theorem dX0_meets_25 : decode cX0_meets 25 = .ok (.getfield 25, 3) := by decide +kernel
theorem dX0_meets_28 : decode cX0_meets 28 = .ok (.aload_n 0, 1) := by decide +kernel
theorem dX0_meets_29 : decode cX0_meets 29 = .ok (.getfield 31, 3) := by decide +kernel
theorem dX0_meets_32 : decode cX0_meets 32 = .ok (.iadd, 1) := by decide +kernel
theorem dX0_meets_33 : decode cX0_meets 33 = .ok (.if_icmp .ge 18, 3) := by decide +kernel
theorem dX0_meets_36 : decode cX0_meets 36 = .ok (.aload_n 0, 1) := by decide +kernel
theorem dX0_meets_37 : decode cX0_meets 37 = .ok (.getfield 25, 3) := by decide +kernel
theorem dX0_meets_40 : decode cX0_meets 40 = .ok (.iload_n 2, 1) := by decide +kernel
theorem dX0_meets_41 : decode cX0_meets 41 = .ok (.iload 4, 2) := by decide +kernel
theorem dX0_meets_43 : decode cX0_meets 43 = .ok (.iadd, 1) := by decide +kernel
theorem dX0_meets_44 : decode cX0_meets 44 = .ok (.if_icmp .ge 7, 3) := by decide +kernel
theorem dX0_meets_47 : decode cX0_meets 47 = .ok (.iconst 1, 1) := by decide +kernel
theorem dX0_meets_48 : decode cX0_meets 48 = .ok (.goto 4, 3) := by decide +kernel
theorem dX0_meets_51 : decode cX0_meets 51 = .ok (.iconst 0, 1) := by decide +kernel
theorem dX0_meets_52 : decode cX0_meets 52 = .ok (.ireturn, 1) := by decide +kernel
theorem dX0_liesOnRow_0 : decode cX0_liesOnRow 0 = .ok (.iload_n 1, 1) := by decide +kernel
theorem dX0_liesOnRow_1 : decode cX0_liesOnRow 1 = .ok (.aload_n 0, 1) := by decide +kernel
theorem dX0_liesOnRow_2 : decode cX0_liesOnRow 2 = .ok (.getfield 22, 3) := by decide +kernel
theorem dX0_liesOnRow_5 : decode cX0_liesOnRow 5 = .ok (.if_icmp .lt 20, 3) := by decide +kernel
theorem dX0_liesOnRow_8 : decode cX0_liesOnRow 8 = .ok (.iload_n 1, 1) := by decide +kernel
theorem dX0_liesOnRow_9 : decode cX0_liesOnRow 9 = .ok (.aload_n 0, 1) := by decide +kernel
theorem dX0_liesOnRow_10 : decode cX0_liesOnRow 10 = .ok (.getfield 22, 3) := by decide +kernel
theorem dX0_liesOnRow_13 : decode cX0_liesOnRow 13 = .ok (.aload_n 0, 1) := by decide +kernel
theorem dX0_liesOnRow_14 : decode cX0_liesOnRow 14 = .ok (.getfield 28, 3) := by decide +kernel
theorem dX0_liesOnRow_17 : decode cX0_liesOnRow 17 = .ok (.iadd, 1) := by decide +kernel
theorem dX0_liesOnRow_18 : decode cX0_liesOnRow 18 = .ok (.if_icmp .ge 7, 3) := by decide +kernel
theorem dX0_liesOnRow_21 : decode cX0_liesOnRow 21 = .ok (.iconst 1, 1) := by decide +kernel
theorem dX0_liesOnRow_22 : decode cX0_liesOnRow 22 = .ok (.goto 4, 3) := by decide +kernel
theorem dX0_liesOnRow_25 : decode cX0_liesOnRow 25 = .ok (.iconst 0, 1) := by decide +kernel
theorem dX0_liesOnRow_26 : decode cX0_liesOnRow 26 = .ok (.ireturn, 1) := by decide +kernel
theorem dX0_fill_0 : decode cX0_fill 0 = .ok (.aload_n 0, 1) := by decide +kernel
theorem dX0_fill_1 : decode cX0_fill 1 = .ok (.iload_n 1, 1) := by decide +kernel
theorem dX0_fill_2 : decode cX0_fill 2 = .ok (.putfield 48, 3) := by decide +kernel
theorem dX0_fill_5 : decode cX0_fill 5 = .ok (.aload_n 0, 1) := by decide +kernel
theorem dX0_fill_6 : decode cX0_fill 6 = .ok (.getfield 9, 3) := by decide +kernel
theorem dX0_fill_9 : decode cX0_fill 9 = .ok (.iconst 1, 1) := by decide +kernel
theorem dX0_fill_10 : decode cX0_fill 10 = .ok (.invokestatic 51, 3) := by decide +kernel
theorem dX0_fill_13 : decode cX0_fill 13 = .ok (.aload_n 0, 1) := by decide +kernel
theorem dX0_fill_14 : decode cX0_fill 14 = .ok (.invokevirtual 56, 3) := by decide +kernel
theorem dX0_fill_17 : decode cX0_fill 17 = .ok (.return_, 1) := by decide +kernel
theorem dX0_holds_0 : decode cX0_holds 0 = .ok (.iload_n 1, 1) := by decide +kernel
theorem dX0_holds_1 : decode cX0_holds 1 = .ok (.ifCond .lt 29, 3) := by decide +kernel
theorem dX0_holds_4 : decode cX0_holds 4 = .ok (.iload_n 2, 1) := by decide +kernel
theorem dX0_holds_5 : decode cX0_holds 5 = .ok (.ifCond .lt 25, 3) := by decide +kernel
theorem dX0_holds_8 : decode cX0_holds 8 = .ok (.iload_n 2, 1) := by decide +kernel
theorem dX0_holds_9 : decode cX0_holds 9 = .ok (.aload_n 0, 1) := by decide +kernel
theorem dX0_holds_10 : decode cX0_holds 10 = .ok (.getfield 48, 3) := by decide +kernel
theorem dX0_holds_13 : decode cX0_holds 13 = .ok (.if_icmp .gt 17, 3) := by decide +kernel
theorem dX0_holds_16 : decode cX0_holds 16 = .ok (.iload_n 1, 1) := by decide +kernel
theorem dX0_holds_17 : decode cX0_holds 17 = .ok (.aload_n 0, 1) := by decide +kernel
theorem dX0_holds_18 : decode cX0_holds 18 = .ok (.getfield 48, 3) := by decide +kernel
theorem dX0_holds_21 : decode cX0_holds 21 = .ok (.iload_n 2, 1) := by decide +kernel
theorem dX0_holds_22 : decode cX0_holds 22 = .ok (.isub, 1) := by decide +kernel
theorem dX0_holds_23 : decode cX0_holds 23 = .ok (.if_icmp .gt 7, 3) := by decide +kernel
theorem dX0_holds_26 : decode cX0_holds 26 = .ok (.iconst 1, 1) := by decide +kernel
theorem dX0_holds_27 : decode cX0_holds 27 = .ok (.goto 4, 3) := by decide +kernel
theorem dX0_holds_30 : decode cX0_holds 30 = .ok (.iconst 0, 1) := by decide +kernel
theorem dX0_holds_31 : decode cX0_holds 31 = .ok (.ireturn, 1) := by decide +kernel
theorem dX0_exchange_0 : decode cX0_exchange 0 = .ok (.iload_n 1, 1) := by decide +kernel
theorem dX0_exchange_1 : decode cX0_exchange 1 = .ok (.ifCond .lt 12, 3) := by decide +kernel
theorem dX0_exchange_4 : decode cX0_exchange 4 = .ok (.iload_n 1, 1) := by decide +kernel
theorem dX0_exchange_5 : decode cX0_exchange 5 = .ok (.aload_n 0, 1) := by decide +kernel
theorem dX0_exchange_6 : decode cX0_exchange 6 = .ok (.getfield 9, 3) := by decide +kernel
theorem dX0_exchange_9 : decode cX0_exchange 9 = .ok (.arraylength, 1) := by decide +kernel
theorem dX0_exchange_10 : decode cX0_exchange 10 = .ok (.if_icmp .lt 5, 3) := by decide +kernel
theorem dX0_exchange_13 : decode cX0_exchange 13 = .ok (.iconst 0, 1) := by decide +kernel
theorem dX0_exchange_14 : decode cX0_exchange 14 = .ok (.ireturn, 1) := by decide +kernel
theorem dX0_exchange_15 : decode cX0_exchange 15 = .ok (.aload_n 0, 1) := by decide +kernel
theorem dX0_exchange_16 : decode cX0_exchange 16 = .ok (.getfield 9, 3) := by decide +kernel
theorem dX0_exchange_19 : decode cX0_exchange 19 = .ok (.iload_n 1, 1) := by decide +kernel
theorem dX0_exchange_20 : decode cX0_exchange 20 = .ok (.iaload, 1) := by decide +kernel
theorem dX0_exchange_21 : decode cX0_exchange 21 = .ok (.istore_n 3, 1) := by decide +kernel
theorem dX0_exchange_22 : decode cX0_exchange 22 = .ok (.aload_n 0, 1) := by decide +kernel
theorem dX0_exchange_23 : decode cX0_exchange 23 = .ok (.getfield 9, 3) := by decide +kernel
theorem dX0_exchange_26 : decode cX0_exchange 26 = .ok (.iload_n 1, 1) := by decide +kernel
theorem dX0_exchange_27 : decode cX0_exchange 27 = .ok (.iload_n 2, 1) := by decide +kernel
theorem dX0_exchange_28 : decode cX0_exchange 28 = .ok (.iastore, 1) := by decide +kernel
theorem dX0_exchange_29 : decode cX0_exchange 29 = .ok (.aload_n 0, 1) := by decide +kernel
theorem dX0_exchange_30 : decode cX0_exchange 30 = .ok (.invokevirtual 56, 3) := by decide +kernel
theorem dX0_exchange_33 : decode cX0_exchange 33 = .ok (.iload_n 3, 1) := by decide +kernel
theorem dX0_exchange_34 : decode cX0_exchange 34 = .ok (.ireturn, 1) := by decide +kernel
theorem dX0_take_0 : decode cX0_take 0 = .ok (.aload_n 1, 1) := by decide +kernel
theorem dX0_take_1 : decode cX0_take 1 = .ok (.ifnull 23, 3) := by decide +kernel
theorem dX0_take_4 : decode cX0_take 4 = .ok (.aload_n 1, 1) := by decide +kernel
theorem dX0_take_5 : decode cX0_take 5 = .ok (.iload_n 2, 1) := by decide +kernel
theorem dX0_take_6 : decode cX0_take 6 = .ok (.iload 4, 2) := by decide +kernel
theorem dX0_take_8 : decode cX0_take 8 = .ok (.invokevirtual 59, 3) := by decide +kernel
theorem dX0_take_11 : decode cX0_take 11 = .ok (.ifCond .eq 13, 3) := by decide +kernel
theorem dX0_take_14 : decode cX0_take 14 = .ok (.aload_n 0, 1) := by decide +kernel
theorem dX0_take_15 : decode cX0_take 15 = .ok (.iload_n 3, 1) := by decide +kernel
theorem dX0_take_16 : decode cX0_take 16 = .ok (.iload 4, 2) := by decide +kernel
theorem dX0_take_18 : decode cX0_take 18 = .ok (.invokevirtual 59, 3) := by decide +kernel
theorem dX0_take_21 : decode cX0_take 21 = .ok (.ifCond .ne 4, 3) := by decide +kernel
theorem dX0_take_24 : decode cX0_take 24 = .ok (.return_, 1) := by decide +kernel
theorem dX0_take_25 : decode cX0_take 25 = .ok (.aload_n 1, 1) := by decide +kernel
theorem dX0_take_26 : decode cX0_take 26 = .ok (.getfield 9, 3) := by decide +kernel
theorem dX0_take_29 : decode cX0_take 29 = .ok (.iload_n 2, 1) := by decide +kernel
theorem dX0_take_30 : decode cX0_take 30 = .ok (.aload_n 0, 1) := by decide +kernel
theorem dX0_take_31 : decode cX0_take 31 = .ok (.getfield 9, 3) := by decide +kernel
theorem dX0_take_34 : decode cX0_take 34 = .ok (.iload_n 3, 1) := by decide +kernel
theorem dX0_take_35 : decode cX0_take 35 = .ok (.iload 4, 2) := by decide +kernel
theorem dX0_take_37 : decode cX0_take 37 = .ok (.invokestatic 63, 3) := by decide +kernel
theorem dX0_take_40 : decode cX0_take 40 = .ok (.aload_n 0, 1) := by decide +kernel
theorem dX0_take_41 : decode cX0_take 41 = .ok (.invokevirtual 56, 3) := by decide +kernel
theorem dX0_take_44 : decode cX0_take 44 = .ok (.return_, 1) := by decide +kernel
theorem dX0_allLetters_0 : decode cX0_allLetters 0 = .ok (.iconst 0, 1) := by decide +kernel
theorem dX0_allLetters_1 : decode cX0_allLetters 1 = .ok (.istore_n 1, 1) := by decide +kernel
theorem dX0_allLetters_2 : decode cX0_allLetters 2 = .ok (.iconst 0, 1) := by decide +kernel
theorem dX0_allLetters_3 : decode cX0_allLetters 3 = .ok (.istore_n 2, 1) := by decide +kernel
theorem dX0_allLetters_4 : decode cX0_allLetters 4 = .ok (.iload_n 2, 1) := by decide +kernel
theorem dX0_allLetters_5 : decode cX0_allLetters 5 = .ok (.aload_n 0, 1) := by decide +kernel
theorem dX0_allLetters_6 : decode cX0_allLetters 6 = .ok (.getfield 48, 3) := by decide +kernel
theorem dX0_allLetters_9 : decode cX0_allLetters 9 = .ok (.if_icmp .ge 27, 3) := by decide +kernel
theorem dX0_allLetters_12 : decode cX0_allLetters 12 = .ok (.iload_n 2, 1) := by decide +kernel
theorem dX0_allLetters_13 : decode cX0_allLetters 13 = .ok (.aload_n 0, 1) := by decide +kernel
theorem dX0_allLetters_14 : decode cX0_allLetters 14 = .ok (.getfield 9, 3) := by decide +kernel
theorem dX0_allLetters_17 : decode cX0_allLetters 17 = .ok (.arraylength, 1) := by decide +kernel
theorem dX0_allLetters_18 : decode cX0_allLetters 18 = .ok (.if_icmp .ge 18, 3) := by decide +kernel
theorem dX0_allLetters_21 : decode cX0_allLetters 21 = .ok (.iload_n 1, 1) := by decide +kernel
theorem dX0_allLetters_22 : decode cX0_allLetters 22 = .ok (.aload_n 0, 1) := by decide +kernel
theorem dX0_allLetters_23 : decode cX0_allLetters 23 = .ok (.getfield 9, 3) := by decide +kernel
theorem dX0_allLetters_26 : decode cX0_allLetters 26 = .ok (.iload_n 2, 1) := by decide +kernel
theorem dX0_allLetters_27 : decode cX0_allLetters 27 = .ok (.iaload, 1) := by decide +kernel
theorem dX0_allLetters_28 : decode cX0_allLetters 28 = .ok (.iadd, 1) := by decide +kernel
theorem dX0_allLetters_29 : decode cX0_allLetters 29 = .ok (.istore_n 1, 1) := by decide +kernel
theorem dX0_allLetters_30 : decode cX0_allLetters 30 = .ok (.iinc 2 1, 3) := by decide +kernel
theorem dX0_allLetters_33 : decode cX0_allLetters 33 = .ok (.goto (-29), 3) := by decide +kernel
theorem dX0_allLetters_36 : decode cX0_allLetters 36 = .ok (.iload_n 1, 1) := by decide +kernel
theorem dX0_allLetters_37 : decode cX0_allLetters 37 = .ok (.ireturn, 1) := by decide +kernel
theorem dX0_wanted_0 : decode cX0_wanted 0 = .ok (.aload_n 0, 1) := by decide +kernel
theorem dX0_wanted_1 : decode cX0_wanted 1 = .ok (.getfield 18, 3) := by decide +kernel
theorem dX0_wanted_4 : decode cX0_wanted 4 = .ok (.iconst 2, 1) := by decide +kernel
theorem dX0_wanted_5 : decode cX0_wanted 5 = .ok (.if_icmp .ne 8, 3) := by decide +kernel
theorem dX0_wanted_8 : decode cX0_wanted 8 = .ok (.aload_n 0, 1) := by decide +kernel
theorem dX0_wanted_9 : decode cX0_wanted 9 = .ok (.getfield 37, 3) := by decide +kernel
theorem dX0_wanted_12 : decode cX0_wanted 12 = .ok (.ireturn, 1) := by decide +kernel
theorem dX0_wanted_13 : decode cX0_wanted 13 = .ok (.aload_n 0, 1) := by decide +kernel
theorem dX0_wanted_14 : decode cX0_wanted 14 = .ok (.getfield 48, 3) := by decide +kernel
theorem dX0_wanted_17 : decode cX0_wanted 17 = .ok (.iconst 1, 1) := by decide +kernel
theorem dX0_wanted_18 : decode cX0_wanted 18 = .ok (.if_icmp .ge 5, 3) := by decide +kernel
theorem dX0_wanted_21 : decode cX0_wanted 21 = .ok (.iconst 0, 1) := by decide +kernel
theorem dX0_wanted_22 : decode cX0_wanted 22 = .ok (.ireturn, 1) := by decide +kernel
theorem dX0_wanted_23 : decode cX0_wanted 23 = .ok (.iload_n 1, 1) := by decide +kernel
theorem dX0_wanted_24 : decode cX0_wanted 24 = .ok (.ifCond .ne 10, 3) := by decide +kernel
theorem dX0_wanted_27 : decode cX0_wanted 27 = .ok (.aload_n 0, 1) := by decide +kernel
theorem dX0_wanted_28 : decode cX0_wanted 28 = .ok (.invokevirtual 69, 3) := by decide +kernel
theorem dX0_wanted_31 : decode cX0_wanted 31 = .ok (.goto 14, 3) := by decide +kernel
theorem dX0_wanted_34 : decode cX0_wanted 34 = .ok (.aload_n 0, 1) := by decide +kernel
theorem dX0_wanted_35 : decode cX0_wanted 35 = .ok (.invokevirtual 73, 3) := by decide +kernel
theorem dX0_wanted_38 : decode cX0_wanted 38 = .ok (.aload_n 0, 1) := by decide +kernel
theorem dX0_wanted_39 : decode cX0_wanted 39 = .ok (.getfield 48, 3) := by decide +kernel
theorem dX0_wanted_42 : decode cX0_wanted 42 = .ok (.iadd, 1) := by decide +kernel
theorem dX0_wanted_43 : decode cX0_wanted 43 = .ok (.iconst 1, 1) := by decide +kernel
theorem dX0_wanted_44 : decode cX0_wanted 44 = .ok (.isub, 1) := by decide +kernel
theorem dX0_wanted_45 : decode cX0_wanted 45 = .ok (.ireturn, 1) := by decide +kernel
theorem dX0_longestPiece_0 : decode cX0_longestPiece 0 = .ok (.iconst 0, 1) := by decide +kernel
theorem dX0_longestPiece_1 : decode cX0_longestPiece 1 = .ok (.istore_n 1, 1) := by decide +kernel
theorem dX0_longestPiece_2 : decode cX0_longestPiece 2 = .ok (.iconst 0, 1) := by decide +kernel
theorem dX0_longestPiece_3 : decode cX0_longestPiece 3 = .ok (.istore_n 2, 1) := by decide +kernel
theorem dX0_longestPiece_4 : decode cX0_longestPiece 4 = .ok (.iload_n 2, 1) := by decide +kernel
theorem dX0_longestPiece_5 : decode cX0_longestPiece 5 = .ok (.aload_n 0, 1) := by decide +kernel
theorem dX0_longestPiece_6 : decode cX0_longestPiece 6 = .ok (.getfield 48, 3) := by decide +kernel
theorem dX0_longestPiece_9 : decode cX0_longestPiece 9 = .ok (.if_icmp .ge 29, 3) := by decide +kernel
theorem dX0_longestPiece_12 : decode cX0_longestPiece 12 = .ok (.iload_n 2, 1) := by decide +kernel
theorem dX0_longestPiece_13 : decode cX0_longestPiece 13 = .ok (.aload_n 0, 1) := by decide +kernel
theorem dX0_longestPiece_14 : decode cX0_longestPiece 14 = .ok (.getfield 9, 3) := by decide +kernel
theorem dX0_longestPiece_17 : decode cX0_longestPiece 17 = .ok (.arraylength, 1) := by decide +kernel
theorem dX0_longestPiece_18 : decode cX0_longestPiece 18 = .ok (.if_icmp .ge 20, 3) := by decide +kernel
theorem dX0_longestPiece_21 : decode cX0_longestPiece 21 = .ok (.iload_n 1, 1) := by decide +kernel
theorem dX0_longestPiece_22 : decode cX0_longestPiece 22 = .ok (.aload_n 0, 1) := by decide +kernel
theorem dX0_longestPiece_23 : decode cX0_longestPiece 23 = .ok (.getfield 9, 3) := by decide +kernel
theorem dX0_longestPiece_26 : decode cX0_longestPiece 26 = .ok (.iload_n 2, 1) := by decide +kernel
theorem dX0_longestPiece_27 : decode cX0_longestPiece 27 = .ok (.iaload, 1) := by decide +kernel
theorem dX0_longestPiece_28 : decode cX0_longestPiece 28 = .ok (.invokestatic 76, 3) := by decide +kernel
theorem dX0_longestPiece_31 : decode cX0_longestPiece 31 = .ok (.istore_n 1, 1) := by decide +kernel
theorem dX0_longestPiece_32 : decode cX0_longestPiece 32 = .ok (.iinc 2 1, 3) := by decide +kernel
theorem dX0_longestPiece_35 : decode cX0_longestPiece 35 = .ok (.goto (-31), 3) := by decide +kernel
theorem dX0_longestPiece_38 : decode cX0_longestPiece 38 = .ok (.iload_n 1, 1) := by decide +kernel
theorem dX0_longestPiece_39 : decode cX0_longestPiece 39 = .ok (.ireturn, 1) := by decide +kernel
theorem dX0_linesIn_0 : decode cX0_linesIn 0 = .ok (.iload_n 1, 1) := by decide +kernel
theorem dX0_linesIn_1 : decode cX0_linesIn 1 = .ok (.iconst 1, 1) := by decide +kernel
theorem dX0_linesIn_2 : decode cX0_linesIn 2 = .ok (.invokestatic 76, 3) := by decide +kernel
theorem dX0_linesIn_5 : decode cX0_linesIn 5 = .ok (.istore_n 2, 1) := by decide +kernel
theorem dX0_linesIn_6 : decode cX0_linesIn 6 = .ok (.iload_n 2, 1) := by decide +kernel
theorem dX0_linesIn_7 : decode cX0_linesIn 7 = .ok (.sipush 252, 3) := by decide +kernel
theorem dX0_linesIn_10 : decode cX0_linesIn 10 = .ok (.if_icmp .lt 9, 3) := by decide +kernel
theorem dX0_linesIn_13 : decode cX0_linesIn 13 = .ok (.aload_n 0, 1) := by decide +kernel
theorem dX0_linesIn_14 : decode cX0_linesIn 14 = .ok (.iload_n 2, 1) := by decide +kernel
theorem dX0_linesIn_15 : decode cX0_linesIn 15 = .ok (.invokevirtual 82, 3) := by decide +kernel
theorem dX0_linesIn_18 : decode cX0_linesIn 18 = .ok (.ireturn, 1) := by decide +kernel
theorem dX0_linesIn_19 : decode cX0_linesIn 19 = .ok (.aload_n 0, 1) := by decide +kernel
theorem dX0_linesIn_20 : decode cX0_linesIn 20 = .ok (.getfield 15, 3) := by decide +kernel
theorem dX0_linesIn_23 : decode cX0_linesIn 23 = .ok (.iload_n 2, 1) := by decide +kernel
theorem dX0_linesIn_24 : decode cX0_linesIn 24 = .ok (.iaload, 1) := by decide +kernel
theorem dX0_linesIn_25 : decode cX0_linesIn 25 = .ok (.iconst (-1), 1) := by decide +kernel
theorem dX0_linesIn_26 : decode cX0_linesIn 26 = .ok (.if_icmp .ne 14, 3) := by decide +kernel
theorem dX0_linesIn_29 : decode cX0_linesIn 29 = .ok (.aload_n 0, 1) := by decide +kernel
theorem dX0_linesIn_30 : decode cX0_linesIn 30 = .ok (.getfield 15, 3) := by decide +kernel
theorem dX0_linesIn_33 : decode cX0_linesIn 33 = .ok (.iload_n 2, 1) := by decide +kernel
theorem dX0_linesIn_34 : decode cX0_linesIn 34 = .ok (.aload_n 0, 1) := by decide +kernel
theorem dX0_linesIn_35 : decode cX0_linesIn 35 = .ok (.iload_n 2, 1) := by decide +kernel
theorem dX0_linesIn_36 : decode cX0_linesIn 36 = .ok (.invokevirtual 82, 3) := by decide +kernel
theorem dX0_linesIn_39 : decode cX0_linesIn 39 = .ok (.iastore, 1) := by decide +kernel
theorem dX0_linesIn_40 : decode cX0_linesIn 40 = .ok (.aload_n 0, 1) := by decide +kernel
theorem dX0_linesIn_41 : decode cX0_linesIn 41 = .ok (.getfield 15, 3) := by decide +kernel
theorem dX0_linesIn_44 : decode cX0_linesIn 44 = .ok (.iload_n 2, 1) := by decide +kernel
theorem dX0_linesIn_45 : decode cX0_linesIn 45 = .ok (.iaload, 1) := by decide +kernel
theorem dX0_linesIn_46 : decode cX0_linesIn 46 = .ok (.ireturn, 1) := by decide +kernel
theorem dX0_countLines_0 : decode cX0_countLines 0 = .ok (.iload_n 1, 1) := by decide +kernel
theorem dX0_countLines_1 : decode cX0_countLines 1 = .ok (.iconst 1, 1) := by decide +kernel
theorem dX0_countLines_2 : decode cX0_countLines 2 = .ok (.if_icmp .ge 5, 3) := by decide +kernel
theorem dX0_countLines_5 : decode cX0_countLines 5 = .ok (.iconst 0, 1) := by decide +kernel
theorem dX0_countLines_6 : decode cX0_countLines 6 = .ok (.ireturn, 1) := by decide +kernel
theorem dX0_countLines_7 : decode cX0_countLines 7 = .ok (.iconst 0, 1) := by decide +kernel
theorem dX0_countLines_8 : decode cX0_countLines 8 = .ok (.istore_n 2, 1) := by decide +kernel
theorem dX0_countLines_9 : decode cX0_countLines 9 = .ok (.iconst 0, 1) := by decide +kernel
theorem dX0_countLines_10 : decode cX0_countLines 10 = .ok (.istore_n 3, 1) := by decide +kernel
theorem dX0_countLines_11 : decode cX0_countLines 11 = .ok (.iconst 0, 1) := by decide +kernel
theorem dX0_countLines_12 : decode cX0_countLines 12 = .ok (.istore 4, 2) := by decide +kernel
theorem dX0_countLines_14 : decode cX0_countLines 14 = .ok (.iload 4, 2) := by decide +kernel
theorem dX0_countLines_16 : decode cX0_countLines 16 = .ok (.aload_n 0, 1) := by decide +kernel
theorem dX0_countLines_17 : decode cX0_countLines 17 = .ok (.getfield 48, 3) := by decide +kernel
theorem dX0_countLines_20 : decode cX0_countLines 20 = .ok (.if_icmp .ge 75, 3) := by decide +kernel
theorem dX0_countLines_23 : decode cX0_countLines 23 = .ok (.iload 4, 2) := by decide +kernel
theorem dX0_countLines_25 : decode cX0_countLines 25 = .ok (.aload_n 0, 1) := by decide +kernel
theorem dX0_countLines_26 : decode cX0_countLines 26 = .ok (.getfield 9, 3) := by decide +kernel
theorem dX0_countLines_29 : decode cX0_countLines 29 = .ok (.arraylength, 1) := by decide +kernel
theorem dX0_countLines_30 : decode cX0_countLines 30 = .ok (.if_icmp .ge 65, 3) := by decide +kernel
theorem dX0_countLines_33 : decode cX0_countLines 33 = .ok (.aload_n 0, 1) := by decide +kernel
theorem dX0_countLines_34 : decode cX0_countLines 34 = .ok (.getfield 9, 3) := by decide +kernel
theorem dX0_countLines_37 : decode cX0_countLines 37 = .ok (.iload 4, 2) := by decide +kernel
theorem dX0_countLines_39 : decode cX0_countLines 39 = .ok (.iaload, 1) := by decide +kernel
theorem dX0_countLines_40 : decode cX0_countLines 40 = .ok (.istore 5, 2) := by decide +kernel
theorem dX0_countLines_42 : decode cX0_countLines 42 = .ok (.iload_n 2, 1) := by decide +kernel
theorem dX0_countLines_43 : decode cX0_countLines 43 = .ok (.ifCond .le 23, 3) := by decide +kernel
theorem dX0_countLines_46 : decode cX0_countLines 46 = .ok (.iload_n 3, 1) := by decide +kernel
theorem dX0_countLines_47 : decode cX0_countLines 47 = .ok (.iconst 1, 1) := by decide +kernel
theorem dX0_countLines_48 : decode cX0_countLines 48 = .ok (.iadd, 1) := by decide +kernel
theorem dX0_countLines_49 : decode cX0_countLines 49 = .ok (.iload 5, 2) := by decide +kernel
theorem dX0_countLines_51 : decode cX0_countLines 51 = .ok (.iadd, 1) := by decide +kernel
theorem dX0_countLines_52 : decode cX0_countLines 52 = .ok (.iload_n 1, 1) := by decide +kernel
theorem dX0_countLines_53 : decode cX0_countLines 53 = .ok (.if_icmp .gt 13, 3) := by decide +kernel
theorem dX0_countLines_56 : decode cX0_countLines 56 = .ok (.iload_n 3, 1) := by decide +kernel
theorem dX0_countLines_57 : decode cX0_countLines 57 = .ok (.iconst 1, 1) := by decide +kernel
theorem dX0_countLines_58 : decode cX0_countLines 58 = .ok (.iload 5, 2) := by decide +kernel
theorem dX0_countLines_60 : decode cX0_countLines 60 = .ok (.iadd, 1) := by decide +kernel
theorem dX0_countLines_61 : decode cX0_countLines 61 = .ok (.iadd, 1) := by decide +kernel
theorem dX0_countLines_62 : decode cX0_countLines 62 = .ok (.istore_n 3, 1) := by decide +kernel
theorem dX0_countLines_63 : decode cX0_countLines 63 = .ok (.goto 26, 3) := by decide +kernel
theorem dX0_countLines_66 : decode cX0_countLines 66 = .ok (.iload 5, 2) := by decide +kernel
theorem dX0_countLines_68 : decode cX0_countLines 68 = .ok (.iconst 1, 1) := by decide +kernel
theorem dX0_countLines_69 : decode cX0_countLines 69 = .ok (.isub, 1) := by decide +kernel
theorem dX0_countLines_70 : decode cX0_countLines 70 = .ok (.iload_n 1, 1) := by decide +kernel
theorem dX0_countLines_71 : decode cX0_countLines 71 = .ok (.idiv, 1) := by decide +kernel
theorem dX0_countLines_72 : decode cX0_countLines 72 = .ok (.istore 6, 2) := by decide +kernel
theorem dX0_countLines_74 : decode cX0_countLines 74 = .ok (.iload_n 2, 1) := by decide +kernel
theorem dX0_countLines_75 : decode cX0_countLines 75 = .ok (.iload 6, 2) := by decide +kernel
theorem dX0_countLines_77 : decode cX0_countLines 77 = .ok (.iconst 1, 1) := by decide +kernel
theorem dX0_countLines_78 : decode cX0_countLines 78 = .ok (.iadd, 1) := by decide +kernel
theorem dX0_countLines_79 : decode cX0_countLines 79 = .ok (.iadd, 1) := by decide +kernel
theorem dX0_countLines_80 : decode cX0_countLines 80 = .ok (.istore_n 2, 1) := by decide +kernel
theorem dX0_countLines_81 : decode cX0_countLines 81 = .ok (.iload 5, 2) := by decide +kernel
theorem dX0_countLines_83 : decode cX0_countLines 83 = .ok (.iload 6, 2) := by decide +kernel
theorem dX0_countLines_85 : decode cX0_countLines 85 = .ok (.iload_n 1, 1) := by decide +kernel
theorem dX0_countLines_86 : decode cX0_countLines 86 = .ok (.imul, 1) := by decide +kernel
theorem dX0_countLines_87 : decode cX0_countLines 87 = .ok (.isub, 1) := by decide +kernel
theorem dX0_countLines_88 : decode cX0_countLines 88 = .ok (.istore_n 3, 1) := by decide +kernel
theorem dX0_countLines_89 : decode cX0_countLines 89 = .ok (.iinc 4 1, 3) := by decide +kernel
theorem dX0_countLines_92 : decode cX0_countLines 92 = .ok (.goto (-78), 3) := by decide +kernel
theorem dX0_countLines_95 : decode cX0_countLines 95 = .ok (.iload_n 2, 1) := by decide +kernel
theorem dX0_countLines_96 : decode cX0_countLines 96 = .ok (.ireturn, 1) := by decide +kernel
theorem dX0_forgetLines_0 : decode cX0_forgetLines 0 = .ok (.aload_n 0, 1) := by decide +kernel
theorem dX0_forgetLines_1 : decode cX0_forgetLines 1 = .ok (.getfield 15, 3) := by decide +kernel
theorem dX0_forgetLines_4 : decode cX0_forgetLines 4 = .ok (.iconst (-1), 1) := by decide +kernel
theorem dX0_forgetLines_5 : decode cX0_forgetLines 5 = .ok (.invokestatic 51, 3) := by decide +kernel
theorem dX0_forgetLines_8 : decode cX0_forgetLines 8 = .ok (.return_, 1) := by decide +kernel
theorem dX1_init_0 : decode cX1_init 0 = .ok (.aload_n 0, 1) := by decide +kernel
theorem dX1_init_1 : decode cX1_init 1 = .ok (.invokespecial 3, 3) := by decide +kernel
theorem dX1_init_4 : decode cX1_init 4 = .ok (.aload_n 0, 1) := by decide +kernel
theorem dX1_init_5 : decode cX1_init 5 = .ok (.bipush 6, 2) := by decide +kernel
theorem dX1_init_7 : decode cX1_init 7 = .ok (.newarray .int, 2) := by decide +kernel
theorem dX1_init_9 : decode cX1_init 9 = .ok (.putfield 9, 3) := by decide +kernel
theorem dX1_init_12 : decode cX1_init 12 = .ok (.aload_n 0, 1) := by decide +kernel
theorem dX1_init_13 : decode cX1_init 13 = .ok (.bipush 10, 2) := by decide +kernel
theorem dX1_init_15 : decode cX1_init 15 = .ok (.newarray .int, 2) := by decide +kernel
theorem dX1_init_17 : decode cX1_init 17 = .ok (.putfield 15, 3) := by decide +kernel
theorem dX1_init_20 : decode cX1_init 20 = .ok (.aload_n 0, 1) := by decide +kernel
theorem dX1_init_21 : decode cX1_init 21 = .ok (.bipush 40, 2) := by decide +kernel
theorem dX1_init_23 : decode cX1_init 23 = .ok (.anewarray 18, 3) := by decide +kernel
theorem dX1_init_26 : decode cX1_init 26 = .ok (.putfield 20, 3) := by decide +kernel
theorem dX1_init_29 : decode cX1_init 29 = .ok (.iconst 0, 1) := by decide +kernel
theorem dX1_init_30 : decode cX1_init 30 = .ok (.istore_n 1, 1) := by decide +kernel
theorem dX1_init_31 : decode cX1_init 31 = .ok (.iload_n 1, 1) := by decide +kernel
theorem dX1_init_32 : decode cX1_init 32 = .ok (.bipush 40, 2) := by decide +kernel
theorem dX1_init_34 : decode cX1_init 34 = .ok (.if_icmp .ge 22, 3) := by decide +kernel
theorem dX1_init_37 : decode cX1_init 37 = .ok (.aload_n 0, 1) := by decide +kernel
theorem dX1_init_38 : decode cX1_init 38 = .ok (.getfield 20, 3) := by decide +kernel
theorem dX1_init_41 : decode cX1_init 41 = .ok (.iload_n 1, 1) := by decide +kernel
theorem dX1_init_42 : decode cX1_init 42 = .ok (.new 18, 3) := by decide +kernel
theorem dX1_init_45 : decode cX1_init 45 = .ok (.dup, 1) := by decide +kernel
theorem dX1_init_46 : decode cX1_init 46 = .ok (.invokespecial 24, 3) := by decide +kernel
theorem dX1_init_49 : decode cX1_init 49 = .ok (.aastore, 1) := by decide +kernel
theorem dX1_init_50 : decode cX1_init 50 = .ok (.iinc 1 1, 3) := by decide +kernel
theorem dX1_init_53 : decode cX1_init 53 = .ok (.goto (-22), 3) := by decide +kernel
theorem dX1_init_56 : decode cX1_init 56 = .ok (.aload_n 0, 1) := by decide +kernel
theorem dX1_init_57 : decode cX1_init 57 = .ok (.getfield 15, 3) := by decide +kernel
theorem dX1_init_60 : decode cX1_init 60 = .ok (.iconst 1, 1) := by decide +kernel
theorem dX1_init_61 : decode cX1_init 61 = .ok (.invokestatic 25, 3) := by decide +kernel
theorem dX1_init_64 : decode cX1_init 64 = .ok (.aload_n 0, 1) := by decide +kernel
theorem dX1_init_65 : decode cX1_init 65 = .ok (.iconst 1, 1) := by decide +kernel
theorem dX1_init_66 : decode cX1_init 66 = .ok (.iconst 1, 1) := by decide +kernel
theorem dX1_init_67 : decode cX1_init 67 = .ok (.iconst 0, 1) := by decide +kernel
theorem dX1_init_68 : decode cX1_init 68 = .ok (.invokevirtual 31, 3) := by decide +kernel
theorem dX1_init_71 : decode cX1_init 71 = .ok (.return_, 1) := by decide +kernel
theorem dX1_begin_0 : decode cX1_begin 0 = .ok (.aload_n 0, 1) := by decide +kernel
theorem dX1_begin_1 : decode cX1_begin 1 = .ok (.iload_n 1, 1) := by decide +kernel
theorem dX1_begin_2 : decode cX1_begin 2 = .ok (.putfield 35, 3) := by decide +kernel
theorem dX1_begin_5 : decode cX1_begin 5 = .ok (.aload_n 0, 1) := by decide +kernel
theorem dX1_begin_6 : decode cX1_begin 6 = .ok (.iload_n 2, 1) := by decide +kernel
theorem dX1_begin_7 : decode cX1_begin 7 = .ok (.putfield 39, 3) := by decide +kernel
theorem dX1_begin_10 : decode cX1_begin 10 = .ok (.aload_n 0, 1) := by decide +kernel
theorem dX1_begin_11 : decode cX1_begin 11 = .ok (.iload_n 3, 1) := by decide +kernel
theorem dX1_begin_12 : decode cX1_begin 12 = .ok (.putfield 42, 3) := by decide +kernel
theorem dX1_begin_15 : decode cX1_begin 15 = .ok (.aload_n 0, 1) := by decide +kernel
theorem dX1_begin_16 : decode cX1_begin 16 = .ok (.iconst 0, 1) := by decide +kernel
theorem dX1_begin_17 : decode cX1_begin 17 = .ok (.putfield 45, 3) := by decide +kernel
theorem dX1_begin_20 : decode cX1_begin 20 = .ok (.aload_n 0, 1) := by decide +kernel
theorem dX1_begin_21 : decode cX1_begin 21 = .ok (.getfield 9, 3) := by decide +kernel
theorem dX1_begin_24 : decode cX1_begin 24 = .ok (.iconst 1, 1) := by decide +kernel
theorem dX1_begin_25 : decode cX1_begin 25 = .ok (.invokestatic 25, 3) := by decide +kernel
theorem dX1_begin_28 : decode cX1_begin 28 = .ok (.return_, 1) := by decide +kernel
theorem dX1_numbered_0 : decode cX1_numbered 0 = .ok (.iload_n 1, 1) := by decide +kernel
theorem dX1_numbered_1 : decode cX1_numbered 1 = .ok (.ifCond .lt 29, 3) := by decide +kernel
theorem dX1_numbered_4 : decode cX1_numbered 4 = .ok (.iload_n 1, 1) := by decide +kernel
theorem dX1_numbered_5 : decode cX1_numbered 5 = .ok (.aload_n 0, 1) := by decide +kernel
theorem dX1_numbered_6 : decode cX1_numbered 6 = .ok (.getfield 45, 3) := by decide +kernel
theorem dX1_numbered_9 : decode cX1_numbered 9 = .ok (.if_icmp .ge 21, 3) := by decide +kernel
theorem dX1_numbered_12 : decode cX1_numbered 12 = .ok (.iload_n 1, 1) := by decide +kernel
theorem dX1_numbered_13 : decode cX1_numbered 13 = .ok (.aload_n 0, 1) := by decide +kernel
theorem dX1_numbered_14 : decode cX1_numbered 14 = .ok (.getfield 20, 3) := by decide +kernel
theorem dX1_numbered_17 : decode cX1_numbered 17 = .ok (.arraylength, 1) := by decide +kernel
theorem dX1_numbered_18 : decode cX1_numbered 18 = .ok (.if_icmp .ge 12, 3) := by decide +kernel
theorem dX1_numbered_21 : decode cX1_numbered 21 = .ok (.aload_n 0, 1) := by decide +kernel
theorem dX1_numbered_22 : decode cX1_numbered 22 = .ok (.getfield 20, 3) := by decide +kernel
theorem dX1_numbered_25 : decode cX1_numbered 25 = .ok (.iload_n 1, 1) := by decide +kernel
theorem dX1_numbered_26 : decode cX1_numbered 26 = .ok (.aaload, 1) := by decide +kernel
theorem dX1_numbered_27 : decode cX1_numbered 27 = .ok (.goto 4, 3) := by decide +kernel
theorem dX1_numbered_30 : decode cX1_numbered 30 = .ok (.aconst_null, 1) := by decide +kernel
theorem dX1_numbered_31 : decode cX1_numbered 31 = .ok (.areturn, 1) := by decide +kernel
theorem dX1_present_0 : decode cX1_present 0 = .ok (.aload_n 0, 1) := by decide +kernel
theorem dX1_present_1 : decode cX1_present 1 = .ok (.iload_n 1, 1) := by decide +kernel
theorem dX1_present_2 : decode cX1_present 2 = .ok (.invokevirtual 48, 3) := by decide +kernel
theorem dX1_present_5 : decode cX1_present 5 = .ok (.astore_n 2, 1) := by decide +kernel
theorem dX1_present_6 : decode cX1_present 6 = .ok (.aload_n 2, 1) := by decide +kernel
theorem dX1_present_7 : decode cX1_present 7 = .ok (.ifnull 10, 3) := by decide +kernel
theorem dX1_present_10 : decode cX1_present 10 = .ok (.aload_n 2, 1) := by decide +kernel
theorem dX1_present_11 : decode cX1_present 11 = .ok (.getfield 52, 3) := by decide +kernel
theorem dX1_present_14 : decode cX1_present 14 = .ok (.ifCond .eq 7, 3) := by decide +kernel
theorem dX1_present_17 : decode cX1_present 17 = .ok (.aconst_null, 1) := by decide +kernel
theorem dX1_present_18 : decode cX1_present 18 = .ok (.goto 4, 3) := by decide +kernel
theorem dX1_present_21 : decode cX1_present 21 = .ok (.aload_n 2, 1) := by decide +kernel
theorem dX1_present_22 : decode cX1_present 22 = .ok (.areturn, 1) := by decide +kernel
theorem dX1_add_0 : decode cX1_add 0 = .ok (.aload_n 0, 1) := by decide +kernel
theorem dX1_add_1 : decode cX1_add 1 = .ok (.getfield 45, 3) := by decide +kernel
theorem dX1_add_4 : decode cX1_add 4 = .ok (.aload_n 0, 1) := by decide +kernel
theorem dX1_add_5 : decode cX1_add 5 = .ok (.getfield 20, 3) := by decide +kernel
theorem dX1_add_8 : decode cX1_add 8 = .ok (.arraylength, 1) := by decide +kernel
theorem dX1_add_9 : decode cX1_add 9 = .ok (.if_icmp .ge 15, 3) := by decide +kernel
theorem dX1_add_12 : decode cX1_add 12 = .ok (.aload_n 0, 1) := by decide +kernel
theorem dX1_add_13 : decode cX1_add 13 = .ok (.getfield 20, 3) := by decide +kernel
theorem dX1_add_16 : decode cX1_add 16 = .ok (.aload_n 0, 1) := by decide +kernel
theorem dX1_add_17 : decode cX1_add 17 = .ok (.getfield 45, 3) := by decide +kernel
theorem dX1_add_20 : decode cX1_add 20 = .ok (.aaload, 1) := by decide +kernel
theorem dX1_add_21 : decode cX1_add 21 = .ok (.ifnonnull 6, 3) := by decide +kernel
theorem dX1_add_24 : decode cX1_add 24 = .ok (.bipush (-2), 2) := by decide +kernel
theorem dX1_add_26 : decode cX1_add 26 = .ok (.ireturn, 1) := by decide +kernel
theorem dX1_add_27 : decode cX1_add 27 = .ok (.aload_n 0, 1) := by decide +kernel
theorem dX1_add_28 : decode cX1_add 28 = .ok (.getfield 20, 3) := by decide +kernel
theorem dX1_add_31 : decode cX1_add 31 = .ok (.aload_n 0, 1) := by decide +kernel
theorem dX1_add_32 : decode cX1_add 32 = .ok (.getfield 45, 3) := by decide +kernel
theorem dX1_add_35 : decode cX1_add 35 = .ok (.aaload, 1) := by decide +kernel
theorem dX1_add_36 : decode cX1_add 36 = .ok (.iload_n 1, 1) := by decide +kernel
theorem dX1_add_37 : decode cX1_add 37 = .ok (.iload_n 2, 1) := by decide +kernel
theorem dX1_add_38 : decode cX1_add 38 = .ok (.iload_n 3, 1) := by decide +kernel
theorem dX1_add_39 : decode cX1_add 39 = .ok (.iload 4, 2) := by decide +kernel
theorem dX1_add_41 : decode cX1_add 41 = .ok (.iload 5, 2) := by decide +kernel
theorem dX1_add_43 : decode cX1_add 43 = .ok (.invokevirtual 56, 3) := by decide +kernel
theorem dX1_add_46 : decode cX1_add 46 = .ok (.aload_n 0, 1) := by decide +kernel
theorem dX1_add_47 : decode cX1_add 47 = .ok (.dup, 1) := by decide +kernel
theorem dX1_add_48 : decode cX1_add 48 = .ok (.getfield 45, 3) := by decide +kernel
theorem dX1_add_51 : decode cX1_add 51 = .ok (.iconst 1, 1) := by decide +kernel
theorem dX1_add_52 : decode cX1_add 52 = .ok (.iadd, 1) := by decide +kernel
theorem dX1_add_53 : decode cX1_add 53 = .ok (.putfield 45, 3) := by decide +kernel
theorem dX1_add_56 : decode cX1_add 56 = .ok (.aload_n 0, 1) := by decide +kernel
theorem dX1_add_57 : decode cX1_add 57 = .ok (.getfield 45, 3) := by decide +kernel
theorem dX1_add_60 : decode cX1_add 60 = .ok (.iconst 1, 1) := by decide +kernel
theorem dX1_add_61 : decode cX1_add 61 = .ok (.isub, 1) := by decide +kernel
theorem dX1_add_62 : decode cX1_add 62 = .ok (.ireturn, 1) := by decide +kernel
theorem dX1_firstOn_0 : decode cX1_firstOn 0 = .ok (.iconst 0, 1) := by decide +kernel
theorem dX1_firstOn_1 : decode cX1_firstOn 1 = .ok (.istore 5, 2) := by decide +kernel
theorem dX1_firstOn_3 : decode cX1_firstOn 3 = .ok (.iload 5, 2) := by decide +kernel
theorem dX1_firstOn_5 : decode cX1_firstOn 5 = .ok (.aload_n 0, 1) := by decide +kernel
theorem dX1_firstOn_6 : decode cX1_firstOn 6 = .ok (.getfield 45, 3) := by decide +kernel
theorem dX1_firstOn_9 : decode cX1_firstOn 9 = .ok (.if_icmp .ge 38, 3) := by decide +kernel
theorem dX1_firstOn_12 : decode cX1_firstOn 12 = .ok (.aload_n 0, 1) := by decide +kernel
theorem dX1_firstOn_13 : decode cX1_firstOn 13 = .ok (.iload 5, 2) := by decide +kernel
theorem dX1_firstOn_15 : decode cX1_firstOn 15 = .ok (.invokevirtual 59, 3) := by decide +kernel
theorem dX1_firstOn_18 : decode cX1_firstOn 18 = .ok (.astore 6, 2) := by decide +kernel
theorem dX1_firstOn_20 : decode cX1_firstOn 20 = .ok (.aload 6, 2) := by decide +kernel
theorem dX1_firstOn_22 : decode cX1_firstOn 22 = .ok (.ifnull 19, 3) := by decide +kernel
theorem dX1_firstOn_25 : decode cX1_firstOn 25 = .ok (.aload 6, 2) := by decide +kernel
theorem dX1_firstOn_27 : decode cX1_firstOn 27 = .ok (.iload_n 1, 1) := by decide +kernel
theorem dX1_firstOn_28 : decode cX1_firstOn 28 = .ok (.iload_n 2, 1) := by decide +kernel
theorem dX1_firstOn_29 : decode cX1_firstOn 29 = .ok (.iload_n 3, 1) := by decide +kernel
theorem dX1_firstOn_30 : decode cX1_firstOn 30 = .ok (.iload 4, 2) := by decide +kernel
theorem dX1_firstOn_32 : decode cX1_firstOn 32 = .ok (.invokevirtual 62, 3) := by decide +kernel
theorem dX1_firstOn_35 : decode cX1_firstOn 35 = .ok (.ifCond .eq 6, 3) := by decide +kernel
theorem dX1_firstOn_38 : decode cX1_firstOn 38 = .ok (.iload 5, 2) := by decide +kernel
theorem dX1_firstOn_40 : decode cX1_firstOn 40 = .ok (.ireturn, 1) := by decide +kernel
theorem dX1_firstOn_41 : decode cX1_firstOn 41 = .ok (.iinc 5 1, 3) := by decide +kernel
theorem dX1_firstOn_44 : decode cX1_firstOn 44 = .ok (.goto (-41), 3) := by decide +kernel
theorem dX1_firstOn_47 : decode cX1_firstOn 47 = .ok (.bipush (-9), 2) := by decide +kernel
theorem dX1_firstOn_49 : decode cX1_firstOn 49 = .ok (.ireturn, 1) := by decide +kernel
theorem dX1_presentCells_0 : decode cX1_presentCells 0 = .ok (.iconst 0, 1) := by decide +kernel
theorem dX1_presentCells_1 : decode cX1_presentCells 1 = .ok (.istore_n 1, 1) := by decide +kernel
theorem dX1_presentCells_2 : decode cX1_presentCells 2 = .ok (.iconst 0, 1) := by decide +kernel
theorem dX1_presentCells_3 : decode cX1_presentCells 3 = .ok (.istore_n 2, 1) := by decide +kernel
theorem dX1_presentCells_4 : decode cX1_presentCells 4 = .ok (.iload_n 2, 1) := by decide +kernel
theorem dX1_presentCells_5 : decode cX1_presentCells 5 = .ok (.aload_n 0, 1) := by decide +kernel
theorem dX1_presentCells_6 : decode cX1_presentCells 6 = .ok (.getfield 45, 3) := by decide +kernel
theorem dX1_presentCells_9 : decode cX1_presentCells 9 = .ok (.if_icmp .ge 20, 3) := by decide +kernel
theorem dX1_presentCells_12 : decode cX1_presentCells 12 = .ok (.aload_n 0, 1) := by decide +kernel
theorem dX1_presentCells_13 : decode cX1_presentCells 13 = .ok (.iload_n 2, 1) := by decide +kernel
theorem dX1_presentCells_14 : decode cX1_presentCells 14 = .ok (.invokevirtual 59, 3) := by decide +kernel
theorem dX1_presentCells_17 : decode cX1_presentCells 17 = .ok (.ifnull 6, 3) := by decide +kernel
theorem dX1_presentCells_20 : decode cX1_presentCells 20 = .ok (.iinc 1 1, 3) := by decide +kernel
theorem dX1_presentCells_23 : decode cX1_presentCells 23 = .ok (.iinc 2 1, 3) := by decide +kernel
theorem dX1_presentCells_26 : decode cX1_presentCells 26 = .ok (.goto (-22), 3) := by decide +kernel
theorem dX1_presentCells_29 : decode cX1_presentCells 29 = .ok (.iload_n 1, 1) := by decide +kernel
theorem dX1_presentCells_30 : decode cX1_presentCells 30 = .ok (.ireturn, 1) := by decide +kernel
theorem dX1_headRows_0 : decode cX1_headRows 0 = .ok (.iconst 0, 1) := by decide +kernel
theorem dX1_headRows_1 : decode cX1_headRows 1 = .ok (.istore_n 1, 1) := by decide +kernel
theorem dX1_headRows_2 : decode cX1_headRows 2 = .ok (.iload_n 1, 1) := by decide +kernel
theorem dX1_headRows_3 : decode cX1_headRows 3 = .ok (.aload_n 0, 1) := by decide +kernel
theorem dX1_headRows_4 : decode cX1_headRows 4 = .ok (.getfield 35, 3) := by decide +kernel
theorem dX1_headRows_7 : decode cX1_headRows 7 = .ok (.if_icmp .ge 17, 3) := by decide +kernel
theorem dX1_headRows_10 : decode cX1_headRows 10 = .ok (.aload_n 0, 1) := by decide +kernel
theorem dX1_headRows_11 : decode cX1_headRows 11 = .ok (.iload_n 1, 1) := by decide +kernel
theorem dX1_headRows_12 : decode cX1_headRows 12 = .ok (.invokevirtual 66, 3) := by decide +kernel
theorem dX1_headRows_15 : decode cX1_headRows 15 = .ok (.ifCond .eq 9, 3) := by decide +kernel
theorem dX1_headRows_18 : decode cX1_headRows 18 = .ok (.iinc 1 1, 3) := by decide +kernel
theorem dX1_headRows_21 : decode cX1_headRows 21 = .ok (.goto (-19), 3) := by decide +kernel
theorem dX1_headRows_24 : decode cX1_headRows 24 = .ok (.iload_n 1, 1) := by decide +kernel
theorem dX1_headRows_25 : decode cX1_headRows 25 = .ok (.ireturn, 1) := by decide +kernel
theorem dX1_hasHead_0 : decode cX1_hasHead 0 = .ok (.iconst 0, 1) := by decide +kernel
theorem dX1_hasHead_1 : decode cX1_hasHead 1 = .ok (.istore_n 2, 1) := by decide +kernel
theorem dX1_hasHead_2 : decode cX1_hasHead 2 = .ok (.iload_n 2, 1) := by decide +kernel
theorem dX1_hasHead_3 : decode cX1_hasHead 3 = .ok (.aload_n 0, 1) := by decide +kernel
theorem dX1_hasHead_4 : decode cX1_hasHead 4 = .ok (.getfield 45, 3) := by decide +kernel
theorem dX1_hasHead_7 : decode cX1_hasHead 7 = .ok (.if_icmp .ge 37, 3) := by decide +kernel
theorem dX1_hasHead_10 : decode cX1_hasHead 10 = .ok (.aload_n 0, 1) := by decide +kernel
theorem dX1_hasHead_11 : decode cX1_hasHead 11 = .ok (.iload_n 2, 1) := by decide +kernel
theorem dX1_hasHead_12 : decode cX1_hasHead 12 = .ok (.invokevirtual 59, 3) := by decide +kernel
theorem dX1_hasHead_15 : decode cX1_hasHead 15 = .ok (.astore_n 3, 1) := by decide +kernel
theorem dX1_hasHead_16 : decode cX1_hasHead 16 = .ok (.aload_n 3, 1) := by decide +kernel
theorem dX1_hasHead_17 : decode cX1_hasHead 17 = .ok (.ifnull 21, 3) := by decide +kernel
theorem dX1_hasHead_20 : decode cX1_hasHead 20 = .ok (.aload_n 3, 1) := by decide +kernel
theorem dX1_hasHead_21 : decode cX1_hasHead 21 = .ok (.getfield 70, 3) := by decide +kernel
theorem dX1_hasHead_24 : decode cX1_hasHead 24 = .ok (.iconst 1, 1) := by decide +kernel
theorem dX1_hasHead_25 : decode cX1_hasHead 25 = .ok (.if_icmp .ne 13, 3) := by decide +kernel
theorem dX1_hasHead_28 : decode cX1_hasHead 28 = .ok (.aload_n 3, 1) := by decide +kernel
theorem dX1_hasHead_29 : decode cX1_hasHead 29 = .ok (.iload_n 1, 1) := by decide +kernel
theorem dX1_hasHead_30 : decode cX1_hasHead 30 = .ok (.invokevirtual 73, 3) := by decide +kernel
theorem dX1_hasHead_33 : decode cX1_hasHead 33 = .ok (.ifCond .eq 5, 3) := by decide +kernel
theorem dX1_hasHead_36 : decode cX1_hasHead 36 = .ok (.iconst 1, 1) := by decide +kernel
theorem dX1_hasHead_37 : decode cX1_hasHead 37 = .ok (.ireturn, 1) := by decide +kernel
theorem dX1_hasHead_38 : decode cX1_hasHead 38 = .ok (.iinc 2 1, 3) := by decide +kernel
theorem dX1_hasHead_41 : decode cX1_hasHead 41 = .ok (.goto (-39), 3) := by decide +kernel
theorem dX1_hasHead_44 : decode cX1_hasHead 44 = .ok (.iconst 0, 1) := by decide +kernel
theorem dX1_hasHead_45 : decode cX1_hasHead 45 = .ok (.ireturn, 1) := by decide +kernel
theorem dX1_breaksAhead_0 : decode cX1_breaksAhead 0 = .ok (.iload_n 1, 1) := by decide +kernel
theorem dX1_breaksAhead_1 : decode cX1_breaksAhead 1 = .ok (.iload_n 2, 1) := by decide +kernel
theorem dX1_breaksAhead_2 : decode cX1_breaksAhead 2 = .ok (.if_icmp .gt 5, 3) := by decide +kernel
theorem dX1_breaksAhead_5 : decode cX1_breaksAhead 5 = .ok (.iconst 0, 1) := by decide +kernel
theorem dX1_breaksAhead_6 : decode cX1_breaksAhead 6 = .ok (.ireturn, 1) := by decide +kernel
theorem dX1_breaksAhead_7 : decode cX1_breaksAhead 7 = .ok (.iconst 0, 1) := by decide +kernel
theorem dX1_breaksAhead_8 : decode cX1_breaksAhead 8 = .ok (.istore_n 3, 1) := by decide +kernel
theorem dX1_breaksAhead_9 : decode cX1_breaksAhead 9 = .ok (.iload_n 3, 1) := by decide +kernel
theorem dX1_breaksAhead_10 : decode cX1_breaksAhead 10 = .ok (.aload_n 0, 1) := by decide +kernel
theorem dX1_breaksAhead_11 : decode cX1_breaksAhead 11 = .ok (.getfield 45, 3) := by decide +kernel
theorem dX1_breaksAhead_14 : decode cX1_breaksAhead 14 = .ok (.if_icmp .ge 52, 3) := by decide +kernel
theorem dX1_breaksAhead_17 : decode cX1_breaksAhead 17 = .ok (.aload_n 0, 1) := by decide +kernel
theorem dX1_breaksAhead_18 : decode cX1_breaksAhead 18 = .ok (.iload_n 3, 1) := by decide +kernel
theorem dX1_breaksAhead_19 : decode cX1_breaksAhead 19 = .ok (.invokevirtual 59, 3) := by decide +kernel
theorem dX1_breaksAhead_22 : decode cX1_breaksAhead 22 = .ok (.astore 4, 2) := by decide +kernel
theorem dX1_breaksAhead_24 : decode cX1_breaksAhead 24 = .ok (.aload 4, 2) := by decide +kernel
theorem dX1_breaksAhead_26 : decode cX1_breaksAhead 26 = .ok (.ifnull 34, 3) := by decide +kernel
theorem dX1_breaksAhead_29 : decode cX1_breaksAhead 29 = .ok (.aload 4, 2) := by decide +kernel
theorem dX1_breaksAhead_31 : decode cX1_breaksAhead 31 = .ok (.getfield 70, 3) := by decide +kernel
theorem dX1_breaksAhead_34 : decode cX1_breaksAhead 34 = .ok (.iconst 3, 1) := by decide +kernel
theorem dX1_breaksAhead_35 : decode cX1_breaksAhead 35 = .ok (.if_icmp .eq 25, 3) := by decide +kernel
theorem dX1_breaksAhead_38 : decode cX1_breaksAhead 38 = .ok (.aload 4, 2) := by decide +kernel
theorem dX1_breaksAhead_40 : decode cX1_breaksAhead 40 = .ok (.iload_n 1, 1) := by decide +kernel
theorem dX1_breaksAhead_41 : decode cX1_breaksAhead 41 = .ok (.invokevirtual 73, 3) := by decide +kernel
theorem dX1_breaksAhead_44 : decode cX1_breaksAhead 44 = .ok (.ifCond .eq 16, 3) := by decide +kernel
theorem dX1_breaksAhead_47 : decode cX1_breaksAhead 47 = .ok (.aload 4, 2) := by decide +kernel
theorem dX1_breaksAhead_49 : decode cX1_breaksAhead 49 = .ok (.iload_n 1, 1) := by decide +kernel
theorem dX1_breaksAhead_50 : decode cX1_breaksAhead 50 = .ok (.iconst 1, 1) := by decide +kernel
theorem dX1_breaksAhead_51 : decode cX1_breaksAhead 51 = .ok (.isub, 1) := by decide +kernel
theorem dX1_breaksAhead_52 : decode cX1_breaksAhead 52 = .ok (.invokevirtual 73, 3) := by decide +kernel
theorem dX1_breaksAhead_55 : decode cX1_breaksAhead 55 = .ok (.ifCond .eq 5, 3) := by decide +kernel
theorem dX1_breaksAhead_58 : decode cX1_breaksAhead 58 = .ok (.iconst 0, 1) := by decide +kernel
theorem dX1_breaksAhead_59 : decode cX1_breaksAhead 59 = .ok (.ireturn, 1) := by decide +kernel
theorem dX1_breaksAhead_60 : decode cX1_breaksAhead 60 = .ok (.iinc 3 1, 3) := by decide +kernel
theorem dX1_breaksAhead_63 : decode cX1_breaksAhead 63 = .ok (.goto (-54), 3) := by decide +kernel
theorem dX1_breaksAhead_66 : decode cX1_breaksAhead 66 = .ok (.iconst 1, 1) := by decide +kernel
theorem dX1_breaksAhead_67 : decode cX1_breaksAhead 67 = .ok (.ireturn, 1) := by decide +kernel
theorem dX1_firstCall_0 : decode cX1_firstCall 0 = .ok (.bipush (-9), 2) := by decide +kernel
theorem dX1_firstCall_2 : decode cX1_firstCall 2 = .ok (.istore_n 2, 1) := by decide +kernel
theorem dX1_firstCall_3 : decode cX1_firstCall 3 = .ok (.iconst 0, 1) := by decide +kernel
theorem dX1_firstCall_4 : decode cX1_firstCall 4 = .ok (.istore_n 3, 1) := by decide +kernel
theorem dX1_firstCall_5 : decode cX1_firstCall 5 = .ok (.iload_n 3, 1) := by decide +kernel
theorem dX1_firstCall_6 : decode cX1_firstCall 6 = .ok (.aload_n 0, 1) := by decide +kernel
theorem dX1_firstCall_7 : decode cX1_firstCall 7 = .ok (.getfield 45, 3) := by decide +kernel
theorem dX1_firstCall_10 : decode cX1_firstCall 10 = .ok (.if_icmp .ge 55, 3) := by decide +kernel
theorem dX1_firstCall_13 : decode cX1_firstCall 13 = .ok (.aload_n 0, 1) := by decide +kernel
theorem dX1_firstCall_14 : decode cX1_firstCall 14 = .ok (.iload_n 3, 1) := by decide +kernel
theorem dX1_firstCall_15 : decode cX1_firstCall 15 = .ok (.invokevirtual 59, 3) := by decide +kernel
theorem dX1_firstCall_18 : decode cX1_firstCall 18 = .ok (.astore 4, 2) := by decide +kernel
theorem dX1_firstCall_20 : decode cX1_firstCall 20 = .ok (.aload 4, 2) := by decide +kernel
theorem dX1_firstCall_22 : decode cX1_firstCall 22 = .ok (.ifnull 37, 3) := by decide +kernel
theorem dX1_firstCall_25 : decode cX1_firstCall 25 = .ok (.aload 4, 2) := by decide +kernel
theorem dX1_firstCall_27 : decode cX1_firstCall 27 = .ok (.getfield 76, 3) := by decide +kernel
theorem dX1_firstCall_30 : decode cX1_firstCall 30 = .ok (.iload_n 1, 1) := by decide +kernel
theorem dX1_firstCall_31 : decode cX1_firstCall 31 = .ok (.ishr, 1) := by decide +kernel
theorem dX1_firstCall_32 : decode cX1_firstCall 32 = .ok (.iconst 1, 1) := by decide +kernel
theorem dX1_firstCall_33 : decode cX1_firstCall 33 = .ok (.iand, 1) := by decide +kernel
theorem dX1_firstCall_34 : decode cX1_firstCall 34 = .ok (.iconst 1, 1) := by decide +kernel
theorem dX1_firstCall_35 : decode cX1_firstCall 35 = .ok (.if_icmp .ne 24, 3) := by decide +kernel
theorem dX1_firstCall_38 : decode cX1_firstCall 38 = .ok (.iload_n 2, 1) := by decide +kernel
theorem dX1_firstCall_39 : decode cX1_firstCall 39 = .ok (.bipush (-9), 2) := by decide +kernel
theorem dX1_firstCall_41 : decode cX1_firstCall 41 = .ok (.if_icmp .eq 12, 3) := by decide +kernel
theorem dX1_firstCall_44 : decode cX1_firstCall 44 = .ok (.aload 4, 2) := by decide +kernel
theorem dX1_firstCall_46 : decode cX1_firstCall 46 = .ok (.getfield 79, 3) := by decide +kernel
theorem dX1_firstCall_49 : decode cX1_firstCall 49 = .ok (.iload_n 2, 1) := by decide +kernel
theorem dX1_firstCall_50 : decode cX1_firstCall 50 = .ok (.if_icmp .ge 9, 3) := by decide +kernel
theorem dX1_firstCall_53 : decode cX1_firstCall 53 = .ok (.aload 4, 2) := by decide +kernel
theorem dX1_firstCall_55 : decode cX1_firstCall 55 = .ok (.getfield 79, 3) := by decide +kernel
theorem dX1_firstCall_58 : decode cX1_firstCall 58 = .ok (.istore_n 2, 1) := by decide +kernel
theorem dX1_firstCall_59 : decode cX1_firstCall 59 = .ok (.iinc 3 1, 3) := by decide +kernel
theorem dX1_firstCall_62 : decode cX1_firstCall 62 = .ok (.goto (-57), 3) := by decide +kernel
theorem dX1_firstCall_65 : decode cX1_firstCall 65 = .ok (.iload_n 2, 1) := by decide +kernel
theorem dX1_firstCall_66 : decode cX1_firstCall 66 = .ok (.ireturn, 1) := by decide +kernel
theorem dX1_gaps_0 : decode cX1_gaps 0 = .ok (.aload_n 0, 1) := by decide +kernel
theorem dX1_gaps_1 : decode cX1_gaps 1 = .ok (.getfield 39, 3) := by decide +kernel
theorem dX1_gaps_4 : decode cX1_gaps 4 = .ok (.iconst 1, 1) := by decide +kernel
theorem dX1_gaps_5 : decode cX1_gaps 5 = .ok (.isub, 1) := by decide +kernel
theorem dX1_gaps_6 : decode cX1_gaps 6 = .ok (.aload_n 0, 1) := by decide +kernel
theorem dX1_gaps_7 : decode cX1_gaps 7 = .ok (.getfield 42, 3) := by decide +kernel
theorem dX1_gaps_10 : decode cX1_gaps 10 = .ok (.imul, 1) := by decide +kernel
theorem dX1_gaps_11 : decode cX1_gaps 11 = .ok (.ireturn, 1) := by decide +kernel
theorem dX1_spanOf_0 : decode cX1_spanOf 0 = .ok (.aload_n 1, 1) := by decide +kernel
theorem dX1_spanOf_1 : decode cX1_spanOf 1 = .ok (.getfield 82, 3) := by decide +kernel
theorem dX1_spanOf_4 : decode cX1_spanOf 4 = .ok (.aload_n 1, 1) := by decide +kernel
theorem dX1_spanOf_5 : decode cX1_spanOf 5 = .ok (.getfield 85, 3) := by decide +kernel
theorem dX1_spanOf_8 : decode cX1_spanOf 8 = .ok (.iadd, 1) := by decide +kernel
theorem dX1_spanOf_9 : decode cX1_spanOf 9 = .ok (.aload_n 2, 1) := by decide +kernel
theorem dX1_spanOf_10 : decode cX1_spanOf 10 = .ok (.arraylength, 1) := by decide +kernel
theorem dX1_spanOf_11 : decode cX1_spanOf 11 = .ok (.invokestatic 88, 3) := by decide +kernel
theorem dX1_spanOf_14 : decode cX1_spanOf 14 = .ok (.istore_n 3, 1) := by decide +kernel
theorem dX1_spanOf_15 : decode cX1_spanOf 15 = .ok (.aload_n 1, 1) := by decide +kernel
theorem dX1_spanOf_16 : decode cX1_spanOf 16 = .ok (.getfield 85, 3) := by decide +kernel
theorem dX1_spanOf_19 : decode cX1_spanOf 19 = .ok (.iconst 1, 1) := by decide +kernel
theorem dX1_spanOf_20 : decode cX1_spanOf 20 = .ok (.isub, 1) := by decide +kernel
theorem dX1_spanOf_21 : decode cX1_spanOf 21 = .ok (.aload_n 0, 1) := by decide +kernel
theorem dX1_spanOf_22 : decode cX1_spanOf 22 = .ok (.getfield 42, 3) := by decide +kernel
theorem dX1_spanOf_25 : decode cX1_spanOf 25 = .ok (.imul, 1) := by decide +kernel
theorem dX1_spanOf_26 : decode cX1_spanOf 26 = .ok (.istore 4, 2) := by decide +kernel
theorem dX1_spanOf_28 : decode cX1_spanOf 28 = .ok (.aload_n 1, 1) := by decide +kernel
theorem dX1_spanOf_29 : decode cX1_spanOf 29 = .ok (.getfield 82, 3) := by decide +kernel
theorem dX1_spanOf_32 : decode cX1_spanOf 32 = .ok (.istore 5, 2) := by decide +kernel
theorem dX1_spanOf_34 : decode cX1_spanOf 34 = .ok (.iload 5, 2) := by decide +kernel
theorem dX1_spanOf_36 : decode cX1_spanOf 36 = .ok (.iload_n 3, 1) := by decide +kernel
theorem dX1_spanOf_37 : decode cX1_spanOf 37 = .ok (.if_icmp .ge 18, 3) := by decide +kernel
theorem dX1_spanOf_40 : decode cX1_spanOf 40 = .ok (.iload 4, 2) := by decide +kernel
theorem dX1_spanOf_42 : decode cX1_spanOf 42 = .ok (.aload_n 2, 1) := by decide +kernel
theorem dX1_spanOf_43 : decode cX1_spanOf 43 = .ok (.iload 5, 2) := by decide +kernel
theorem dX1_spanOf_45 : decode cX1_spanOf 45 = .ok (.iaload, 1) := by decide +kernel
theorem dX1_spanOf_46 : decode cX1_spanOf 46 = .ok (.iadd, 1) := by decide +kernel
theorem dX1_spanOf_47 : decode cX1_spanOf 47 = .ok (.istore 4, 2) := by decide +kernel
theorem dX1_spanOf_49 : decode cX1_spanOf 49 = .ok (.iinc 5 1, 3) := by decide +kernel
theorem dX1_spanOf_52 : decode cX1_spanOf 52 = .ok (.goto (-18), 3) := by decide +kernel
theorem dX1_spanOf_55 : decode cX1_spanOf 55 = .ok (.iload 4, 2) := by decide +kernel
theorem dX1_spanOf_57 : decode cX1_spanOf 57 = .ok (.ireturn, 1) := by decide +kernel
theorem dJ7_fill_53178_0 : decode cJ7_fill_53178 0 = .ok (.iconst 0, 1) := by decide +kernel
theorem dJ7_fill_53178_1 : decode cJ7_fill_53178 1 = .ok (.istore_n 2, 1) := by decide +kernel
theorem dJ7_fill_53178_2 : decode cJ7_fill_53178 2 = .ok (.aload_n 0, 1) := by decide +kernel
theorem dJ7_fill_53178_3 : decode cJ7_fill_53178 3 = .ok (.arraylength, 1) := by decide +kernel
theorem dJ7_fill_53178_4 : decode cJ7_fill_53178 4 = .ok (.istore_n 3, 1) := by decide +kernel
theorem dJ7_fill_53178_5 : decode cJ7_fill_53178 5 = .ok (.iload_n 2, 1) := by decide +kernel
theorem dJ7_fill_53178_6 : decode cJ7_fill_53178 6 = .ok (.iload_n 3, 1) := by decide +kernel
theorem dJ7_fill_53178_7 : decode cJ7_fill_53178 7 = .ok (.if_icmp .ge 13, 3) := by decide +kernel
theorem dJ7_fill_53178_10 : decode cJ7_fill_53178 10 = .ok (.aload_n 0, 1) := by decide +kernel
theorem dJ7_fill_53178_11 : decode cJ7_fill_53178 11 = .ok (.iload_n 2, 1) := by decide +kernel
theorem dJ7_fill_53178_12 : decode cJ7_fill_53178 12 = .ok (.iload_n 1, 1) := by decide +kernel
theorem dJ7_fill_53178_13 : decode cJ7_fill_53178 13 = .ok (.iastore, 1) := by decide +kernel
theorem dJ7_fill_53178_14 : decode cJ7_fill_53178 14 = .ok (.iinc 2 1, 3) := by decide +kernel
theorem dJ7_fill_53178_17 : decode cJ7_fill_53178 17 = .ok (.goto (-12), 3) := by decide +kernel
theorem dJ7_fill_53178_20 : decode cJ7_fill_53178 20 = .ok (.return_, 1) := by decide +kernel
