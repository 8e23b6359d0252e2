theorem d_Co_init_0 : decode b_Co_init 0 = .ok (.aload_n 0, 1) := by decide +kernel
theorem d_Co_init_1 : decode b_Co_init 1 = .ok (.invokespecial 3, 3) := by decide +kernel
theorem d_Co_init_4 : decode b_Co_init 4 = .ok (.aload_n 0, 1) := by decide +kernel
theorem d_Co_init_5 : decode b_Co_init 5 = .ok (.bipush 15, 2) := by decide +kernel
theorem d_Co_init_7 : decode b_Co_init 7 = .ok (.newarray .int, 2) := by decide +kernel
theorem d_Co_init_9 : decode b_Co_init 9 = .ok (.putfield 9, 3) := by decide +kernel
theorem d_Co_init_12 : decode b_Co_init 12 = .ok (.aload_n 0, 1) := by decide +kernel
theorem d_Co_init_13 : decode b_Co_init 13 = .ok (.bipush 15, 2) := by decide +kernel
theorem d_Co_init_15 : decode b_Co_init 15 = .ok (.newarray .int, 2) := by decide +kernel
theorem d_Co_init_17 : decode b_Co_init 17 = .ok (.putfield 15, 3) := by decide +kernel
theorem d_Co_init_20 : decode b_Co_init 20 = .ok (.aload_n 0, 1) := by decide +kernel
theorem d_Co_init_21 : decode b_Co_init 21 = .ok (.bipush 15, 2) := by decide +kernel
theorem d_Co_init_23 : decode b_Co_init 23 = .ok (.newarray .int, 2) := by decide +kernel
theorem d_Co_init_25 : decode b_Co_init 25 = .ok (.putfield 18, 3) := by decide +kernel
theorem d_Co_init_28 : decode b_Co_init 28 = .ok (.aload_n 0, 1) := by decide +kernel
theorem d_Co_init_29 : decode b_Co_init 29 = .ok (.bipush 41, 2) := by decide +kernel
theorem d_Co_init_31 : decode b_Co_init 31 = .ok (.newarray .int, 2) := by decide +kernel
theorem d_Co_init_33 : decode b_Co_init 33 = .ok (.putfield 21, 3) := by decide +kernel
theorem d_Co_init_36 : decode b_Co_init 36 = .ok (.iconst 0, 1) := by decide +kernel
theorem d_Co_init_37 : decode b_Co_init 37 = .ok (.istore_n 1, 1) := by decide +kernel
theorem d_Co_init_38 : decode b_Co_init 38 = .ok (.iload_n 1, 1) := by decide +kernel
theorem d_Co_init_39 : decode b_Co_init 39 = .ok (.bipush 15, 2) := by decide +kernel
theorem d_Co_init_41 : decode b_Co_init 41 = .ok (.if_icmp .ge 16, 3) := by decide +kernel
theorem d_Co_init_44 : decode b_Co_init 44 = .ok (.aload_n 0, 1) := by decide +kernel
theorem d_Co_init_45 : decode b_Co_init 45 = .ok (.getfield 18, 3) := by decide +kernel
theorem d_Co_init_48 : decode b_Co_init 48 = .ok (.iload_n 1, 1) := by decide +kernel
theorem d_Co_init_49 : decode b_Co_init 49 = .ok (.iconst (-1), 1) := by decide +kernel
theorem d_Co_init_50 : decode b_Co_init 50 = .ok (.iastore, 1) := by decide +kernel
theorem d_Co_init_51 : decode b_Co_init 51 = .ok (.iinc 1 1, 3) := by decide +kernel
theorem d_Co_init_54 : decode b_Co_init 54 = .ok (.goto (-16), 3) := by decide +kernel
theorem d_Co_init_57 : decode b_Co_init 57 = .ok (.return_, 1) := by decide +kernel
theorem d_Co_fill_0 : decode b_Co_fill 0 = .ok (.aload_n 0, 1) := by decide +kernel
theorem d_Co_fill_1 : decode b_Co_fill 1 = .ok (.getfield 9, 3) := by decide +kernel
theorem d_Co_fill_4 : decode b_Co_fill 4 = .ok (.iload_n 1, 1) := by decide +kernel
theorem d_Co_fill_5 : decode b_Co_fill 5 = .ok (.iload_n 2, 1) := by decide +kernel
theorem d_Co_fill_6 : decode b_Co_fill 6 = .ok (.iastore, 1) := by decide +kernel
theorem d_Co_fill_7 : decode b_Co_fill 7 = .ok (.aload_n 0, 1) := by decide +kernel
theorem d_Co_fill_8 : decode b_Co_fill 8 = .ok (.getfield 15, 3) := by decide +kernel
theorem d_Co_fill_11 : decode b_Co_fill 11 = .ok (.iload_n 1, 1) := by decide +kernel
theorem d_Co_fill_12 : decode b_Co_fill 12 = .ok (.iload_n 3, 1) := by decide +kernel
theorem d_Co_fill_13 : decode b_Co_fill 13 = .ok (.iastore, 1) := by decide +kernel
theorem d_Co_fill_14 : decode b_Co_fill 14 = .ok (.aload_n 0, 1) := by decide +kernel
theorem d_Co_fill_15 : decode b_Co_fill 15 = .ok (.getfield 18, 3) := by decide +kernel
theorem d_Co_fill_18 : decode b_Co_fill 18 = .ok (.iload_n 1, 1) := by decide +kernel
theorem d_Co_fill_19 : decode b_Co_fill 19 = .ok (.iload 4, 2) := by decide +kernel
theorem d_Co_fill_21 : decode b_Co_fill 21 = .ok (.iastore, 1) := by decide +kernel
theorem d_Co_fill_22 : decode b_Co_fill 22 = .ok (.return_, 1) := by decide +kernel
theorem d_Co_empty_0 : decode b_Co_empty 0 = .ok (.aload_n 0, 1) := by decide +kernel
theorem d_Co_empty_1 : decode b_Co_empty 1 = .ok (.iload_n 1, 1) := by decide +kernel
theorem d_Co_empty_2 : decode b_Co_empty 2 = .ok (.iconst 0, 1) := by decide +kernel
theorem d_Co_empty_3 : decode b_Co_empty 3 = .ok (.iconst 0, 1) := by decide +kernel
theorem d_Co_empty_4 : decode b_Co_empty 4 = .ok (.iconst (-1), 1) := by decide +kernel
theorem d_Co_empty_5 : decode b_Co_empty 5 = .ok (.invokevirtual 24, 3) := by decide +kernel
theorem d_Co_empty_8 : decode b_Co_empty 8 = .ok (.return_, 1) := by decide +kernel
theorem d_Co_move_0 : decode b_Co_move 0 = .ok (.aload_n 0, 1) := by decide +kernel
theorem d_Co_move_1 : decode b_Co_move 1 = .ok (.iload_n 2, 1) := by decide +kernel
theorem d_Co_move_2 : decode b_Co_move 2 = .ok (.aload_n 0, 1) := by decide +kernel
theorem d_Co_move_3 : decode b_Co_move 3 = .ok (.getfield 9, 3) := by decide +kernel
theorem d_Co_move_6 : decode b_Co_move 6 = .ok (.iload_n 1, 1) := by decide +kernel
theorem d_Co_move_7 : decode b_Co_move 7 = .ok (.iaload, 1) := by decide +kernel
theorem d_Co_move_8 : decode b_Co_move 8 = .ok (.aload_n 0, 1) := by decide +kernel
theorem d_Co_move_9 : decode b_Co_move 9 = .ok (.getfield 15, 3) := by decide +kernel
theorem d_Co_move_12 : decode b_Co_move 12 = .ok (.iload_n 1, 1) := by decide +kernel
theorem d_Co_move_13 : decode b_Co_move 13 = .ok (.iaload, 1) := by decide +kernel
theorem d_Co_move_14 : decode b_Co_move 14 = .ok (.aload_n 0, 1) := by decide +kernel
theorem d_Co_move_15 : decode b_Co_move 15 = .ok (.getfield 18, 3) := by decide +kernel
theorem d_Co_move_18 : decode b_Co_move 18 = .ok (.iload_n 1, 1) := by decide +kernel
theorem d_Co_move_19 : decode b_Co_move 19 = .ok (.iaload, 1) := by decide +kernel
theorem d_Co_move_20 : decode b_Co_move 20 = .ok (.invokevirtual 24, 3) := by decide +kernel
theorem d_Co_move_23 : decode b_Co_move 23 = .ok (.return_, 1) := by decide +kernel
theorem d_Co_takePage_0 : decode b_Co_takePage 0 = .ok (.iload_n 2, 1) := by decide +kernel
theorem d_Co_takePage_1 : decode b_Co_takePage 1 = .ok (.bipush 6, 2) := by decide +kernel
theorem d_Co_takePage_3 : decode b_Co_takePage 3 = .ok (.if_icmp .ne 19, 3) := by decide +kernel
theorem d_Co_takePage_6 : decode b_Co_takePage 6 = .ok (.aload_n 1, 1) := by decide +kernel
theorem d_Co_takePage_7 : decode b_Co_takePage 7 = .ok (.getfield 21, 3) := by decide +kernel
theorem d_Co_takePage_10 : decode b_Co_takePage 10 = .ok (.iconst 0, 1) := by decide +kernel
theorem d_Co_takePage_11 : decode b_Co_takePage 11 = .ok (.aload_n 0, 1) := by decide +kernel
theorem d_Co_takePage_12 : decode b_Co_takePage 12 = .ok (.getfield 21, 3) := by decide +kernel
theorem d_Co_takePage_15 : decode b_Co_takePage 15 = .ok (.iconst 0, 1) := by decide +kernel
theorem d_Co_takePage_16 : decode b_Co_takePage 16 = .ok (.bipush 41, 2) := by decide +kernel
theorem d_Co_takePage_18 : decode b_Co_takePage 18 = .ok (.invokestatic 28, 3) := by decide +kernel
theorem d_Co_takePage_21 : decode b_Co_takePage 21 = .ok (.return_, 1) := by decide +kernel
theorem d_Co_takePage_22 : decode b_Co_takePage 22 = .ok (.iload_n 2, 1) := by decide +kernel
theorem d_Co_takePage_23 : decode b_Co_takePage 23 = .ok (.iconst 3, 1) := by decide +kernel
theorem d_Co_takePage_24 : decode b_Co_takePage 24 = .ok (.if_icmp .ge 9, 3) := by decide +kernel
theorem d_Co_takePage_27 : decode b_Co_takePage 27 = .ok (.iload_n 2, 1) := by decide +kernel
theorem d_Co_takePage_28 : decode b_Co_takePage 28 = .ok (.iconst 2, 1) := by decide +kernel
theorem d_Co_takePage_29 : decode b_Co_takePage 29 = .ok (.imul, 1) := by decide +kernel
theorem d_Co_takePage_30 : decode b_Co_takePage 30 = .ok (.goto 11, 3) := by decide +kernel
theorem d_Co_takePage_33 : decode b_Co_takePage 33 = .ok (.bipush 6, 2) := by decide +kernel
theorem d_Co_takePage_35 : decode b_Co_takePage 35 = .ok (.iload_n 2, 1) := by decide +kernel
theorem d_Co_takePage_36 : decode b_Co_takePage 36 = .ok (.iconst 3, 1) := by decide +kernel
theorem d_Co_takePage_37 : decode b_Co_takePage 37 = .ok (.isub, 1) := by decide +kernel
theorem d_Co_takePage_38 : decode b_Co_takePage 38 = .ok (.iconst 3, 1) := by decide +kernel
theorem d_Co_takePage_39 : decode b_Co_takePage 39 = .ok (.imul, 1) := by decide +kernel
theorem d_Co_takePage_40 : decode b_Co_takePage 40 = .ok (.iadd, 1) := by decide +kernel
theorem d_Co_takePage_41 : decode b_Co_takePage 41 = .ok (.istore_n 3, 1) := by decide +kernel
theorem d_Co_takePage_42 : decode b_Co_takePage 42 = .ok (.iload_n 2, 1) := by decide +kernel
theorem d_Co_takePage_43 : decode b_Co_takePage 43 = .ok (.iconst 3, 1) := by decide +kernel
theorem d_Co_takePage_44 : decode b_Co_takePage 44 = .ok (.if_icmp .ge 7, 3) := by decide +kernel
theorem d_Co_takePage_47 : decode b_Co_takePage 47 = .ok (.iconst 2, 1) := by decide +kernel
theorem d_Co_takePage_48 : decode b_Co_takePage 48 = .ok (.goto 4, 3) := by decide +kernel
theorem d_Co_takePage_51 : decode b_Co_takePage 51 = .ok (.iconst 3, 1) := by decide +kernel
theorem d_Co_takePage_52 : decode b_Co_takePage 52 = .ok (.istore 4, 2) := by decide +kernel
theorem d_Co_takePage_54 : decode b_Co_takePage 54 = .ok (.aload_n 1, 1) := by decide +kernel
theorem d_Co_takePage_55 : decode b_Co_takePage 55 = .ok (.getfield 9, 3) := by decide +kernel
theorem d_Co_takePage_58 : decode b_Co_takePage 58 = .ok (.iload_n 3, 1) := by decide +kernel
theorem d_Co_takePage_59 : decode b_Co_takePage 59 = .ok (.aload_n 0, 1) := by decide +kernel
theorem d_Co_takePage_60 : decode b_Co_takePage 60 = .ok (.getfield 9, 3) := by decide +kernel
theorem d_Co_takePage_63 : decode b_Co_takePage 63 = .ok (.iload_n 3, 1) := by decide +kernel
theorem d_Co_takePage_64 : decode b_Co_takePage 64 = .ok (.iload 4, 2) := by decide +kernel
theorem d_Co_takePage_66 : decode b_Co_takePage 66 = .ok (.invokestatic 28, 3) := by decide +kernel
theorem d_Co_takePage_69 : decode b_Co_takePage 69 = .ok (.aload_n 1, 1) := by decide +kernel
theorem d_Co_takePage_70 : decode b_Co_takePage 70 = .ok (.getfield 15, 3) := by decide +kernel
theorem d_Co_takePage_73 : decode b_Co_takePage 73 = .ok (.iload_n 3, 1) := by decide +kernel
theorem d_Co_takePage_74 : decode b_Co_takePage 74 = .ok (.aload_n 0, 1) := by decide +kernel
theorem d_Co_takePage_75 : decode b_Co_takePage 75 = .ok (.getfield 15, 3) := by decide +kernel
theorem d_Co_takePage_78 : decode b_Co_takePage 78 = .ok (.iload_n 3, 1) := by decide +kernel
theorem d_Co_takePage_79 : decode b_Co_takePage 79 = .ok (.iload 4, 2) := by decide +kernel
theorem d_Co_takePage_81 : decode b_Co_takePage 81 = .ok (.invokestatic 28, 3) := by decide +kernel
theorem d_Co_takePage_84 : decode b_Co_takePage 84 = .ok (.aload_n 1, 1) := by decide +kernel
theorem d_Co_takePage_85 : decode b_Co_takePage 85 = .ok (.getfield 18, 3) := by decide +kernel
theorem d_Co_takePage_88 : decode b_Co_takePage 88 = .ok (.iload_n 3, 1) := by decide +kernel
theorem d_Co_takePage_89 : decode b_Co_takePage 89 = .ok (.aload_n 0, 1) := by decide +kernel
theorem d_Co_takePage_90 : decode b_Co_takePage 90 = .ok (.getfield 18, 3) := by decide +kernel
theorem d_Co_takePage_93 : decode b_Co_takePage 93 = .ok (.iload_n 3, 1) := by decide +kernel
theorem d_Co_takePage_94 : decode b_Co_takePage 94 = .ok (.iload 4, 2) := by decide +kernel
theorem d_Co_takePage_96 : decode b_Co_takePage 96 = .ok (.invokestatic 28, 3) := by decide +kernel
theorem d_Co_takePage_99 : decode b_Co_takePage 99 = .ok (.return_, 1) := by decide +kernel
theorem d_Co_isRolled_0 : decode b_Co_isRolled 0 = .ok (.aload_n 0, 1) := by decide +kernel
theorem d_Co_isRolled_1 : decode b_Co_isRolled 1 = .ok (.getfield 9, 3) := by decide +kernel
theorem d_Co_isRolled_4 : decode b_Co_isRolled 4 = .ok (.iload_n 1, 1) := by decide +kernel
theorem d_Co_isRolled_5 : decode b_Co_isRolled 5 = .ok (.iaload, 1) := by decide +kernel
theorem d_Co_isRolled_6 : decode b_Co_isRolled 6 = .ok (.ifCond .eq 22, 3) := by decide +kernel
theorem d_Co_isRolled_9 : decode b_Co_isRolled 9 = .ok (.aload_n 0, 1) := by decide +kernel
theorem d_Co_isRolled_10 : decode b_Co_isRolled 10 = .ok (.getfield 21, 3) := by decide +kernel
theorem d_Co_isRolled_13 : decode b_Co_isRolled 13 = .ok (.aload_n 0, 1) := by decide +kernel
theorem d_Co_isRolled_14 : decode b_Co_isRolled 14 = .ok (.getfield 9, 3) := by decide +kernel
theorem d_Co_isRolled_17 : decode b_Co_isRolled 17 = .ok (.iload_n 1, 1) := by decide +kernel
theorem d_Co_isRolled_18 : decode b_Co_isRolled 18 = .ok (.iaload, 1) := by decide +kernel
theorem d_Co_isRolled_19 : decode b_Co_isRolled 19 = .ok (.iaload, 1) := by decide +kernel
theorem d_Co_isRolled_20 : decode b_Co_isRolled 20 = .ok (.iconst 3, 1) := by decide +kernel
theorem d_Co_isRolled_21 : decode b_Co_isRolled 21 = .ok (.if_icmp .ne 7, 3) := by decide +kernel
theorem d_Co_isRolled_24 : decode b_Co_isRolled 24 = .ok (.iconst 1, 1) := by decide +kernel
theorem d_Co_isRolled_25 : decode b_Co_isRolled 25 = .ok (.goto 4, 3) := by decide +kernel
theorem d_Co_isRolled_28 : decode b_Co_isRolled 28 = .ok (.iconst 0, 1) := by decide +kernel
theorem d_Co_isRolled_29 : decode b_Co_isRolled 29 = .ok (.ireturn, 1) := by decide +kernel
theorem d_Co_next_0 : decode b_Co_next 0 = .ok (.aload_n 0, 1) := by decide +kernel
theorem d_Co_next_1 : decode b_Co_next 1 = .ok (.getfield 18, 3) := by decide +kernel
theorem d_Co_next_4 : decode b_Co_next 4 = .ok (.iload_n 1, 1) := by decide +kernel
theorem d_Co_next_5 : decode b_Co_next 5 = .ok (.iaload, 1) := by decide +kernel
theorem d_Co_next_6 : decode b_Co_next 6 = .ok (.istore_n 2, 1) := by decide +kernel
theorem d_Co_next_7 : decode b_Co_next 7 = .ok (.iload_n 2, 1) := by decide +kernel
theorem d_Co_next_8 : decode b_Co_next 8 = .ok (.iconst (-1), 1) := by decide +kernel
theorem d_Co_next_9 : decode b_Co_next 9 = .ok (.if_icmp .eq 12, 3) := by decide +kernel
theorem d_Co_next_12 : decode b_Co_next 12 = .ok (.aload_n 0, 1) := by decide +kernel
theorem d_Co_next_13 : decode b_Co_next 13 = .ok (.getfield 9, 3) := by decide +kernel
theorem d_Co_next_16 : decode b_Co_next 16 = .ok (.iload_n 2, 1) := by decide +kernel
theorem d_Co_next_17 : decode b_Co_next 17 = .ok (.iaload, 1) := by decide +kernel
theorem d_Co_next_18 : decode b_Co_next 18 = .ok (.ifCond .ne 7, 3) := by decide +kernel
theorem d_Co_next_21 : decode b_Co_next 21 = .ok (.iconst (-1), 1) := by decide +kernel
theorem d_Co_next_22 : decode b_Co_next 22 = .ok (.goto 4, 3) := by decide +kernel
theorem d_Co_next_25 : decode b_Co_next 25 = .ok (.iload_n 2, 1) := by decide +kernel
theorem d_Co_next_26 : decode b_Co_next 26 = .ok (.ireturn, 1) := by decide +kernel
theorem d_Co_placeAt_0 : decode b_Co_placeAt 0 = .ok (.iload_n 2, 1) := by decide +kernel
theorem d_Co_placeAt_1 : decode b_Co_placeAt 1 = .ok (.ifCond .lt 18, 3) := by decide +kernel
theorem d_Co_placeAt_4 : decode b_Co_placeAt 4 = .ok (.iload_n 2, 1) := by decide +kernel
theorem d_Co_placeAt_5 : decode b_Co_placeAt 5 = .ok (.bipush 15, 2) := by decide +kernel
theorem d_Co_placeAt_7 : decode b_Co_placeAt 7 = .ok (.if_icmp .ge 12, 3) := by decide +kernel
theorem d_Co_placeAt_10 : decode b_Co_placeAt 10 = .ok (.aload_n 0, 1) := by decide +kernel
theorem d_Co_placeAt_11 : decode b_Co_placeAt 11 = .ok (.getfield 9, 3) := by decide +kernel
theorem d_Co_placeAt_14 : decode b_Co_placeAt 14 = .ok (.iload_n 1, 1) := by decide +kernel
theorem d_Co_placeAt_15 : decode b_Co_placeAt 15 = .ok (.iaload, 1) := by decide +kernel
theorem d_Co_placeAt_16 : decode b_Co_placeAt 16 = .ok (.ifCond .ne 5, 3) := by decide +kernel
theorem d_Co_placeAt_19 : decode b_Co_placeAt 19 = .ok (.iconst (-1), 1) := by decide +kernel
theorem d_Co_placeAt_20 : decode b_Co_placeAt 20 = .ok (.ireturn, 1) := by decide +kernel
theorem d_Co_placeAt_21 : decode b_Co_placeAt 21 = .ok (.iload_n 1, 1) := by decide +kernel
theorem d_Co_placeAt_22 : decode b_Co_placeAt 22 = .ok (.istore_n 3, 1) := by decide +kernel
theorem d_Co_placeAt_23 : decode b_Co_placeAt 23 = .ok (.iconst 0, 1) := by decide +kernel
theorem d_Co_placeAt_24 : decode b_Co_placeAt 24 = .ok (.istore 4, 2) := by decide +kernel
theorem d_Co_placeAt_26 : decode b_Co_placeAt 26 = .ok (.iload 4, 2) := by decide +kernel
theorem d_Co_placeAt_28 : decode b_Co_placeAt 28 = .ok (.iload_n 2, 1) := by decide +kernel
theorem d_Co_placeAt_29 : decode b_Co_placeAt 29 = .ok (.if_icmp .ge 20, 3) := by decide +kernel
theorem d_Co_placeAt_32 : decode b_Co_placeAt 32 = .ok (.iload_n 3, 1) := by decide +kernel
theorem d_Co_placeAt_33 : decode b_Co_placeAt 33 = .ok (.iconst (-1), 1) := by decide +kernel
theorem d_Co_placeAt_34 : decode b_Co_placeAt 34 = .ok (.if_icmp .eq 15, 3) := by decide +kernel
theorem d_Co_placeAt_37 : decode b_Co_placeAt 37 = .ok (.aload_n 0, 1) := by decide +kernel
theorem d_Co_placeAt_38 : decode b_Co_placeAt 38 = .ok (.iload_n 3, 1) := by decide +kernel
theorem d_Co_placeAt_39 : decode b_Co_placeAt 39 = .ok (.invokevirtual 34, 3) := by decide +kernel
theorem d_Co_placeAt_42 : decode b_Co_placeAt 42 = .ok (.istore_n 3, 1) := by decide +kernel
theorem d_Co_placeAt_43 : decode b_Co_placeAt 43 = .ok (.iinc 4 1, 3) := by decide +kernel
theorem d_Co_placeAt_46 : decode b_Co_placeAt 46 = .ok (.goto (-20), 3) := by decide +kernel
theorem d_Co_placeAt_49 : decode b_Co_placeAt 49 = .ok (.iload_n 3, 1) := by decide +kernel
theorem d_Co_placeAt_50 : decode b_Co_placeAt 50 = .ok (.ireturn, 1) := by decide +kernel
theorem d_Co_firstOf_0 : decode b_Co_firstOf 0 = .ok (.aload_n 0, 1) := by decide +kernel
theorem d_Co_firstOf_1 : decode b_Co_firstOf 1 = .ok (.iload_n 3, 1) := by decide +kernel
theorem d_Co_firstOf_2 : decode b_Co_firstOf 2 = .ok (.iconst 0, 1) := by decide +kernel
theorem d_Co_firstOf_3 : decode b_Co_firstOf 3 = .ok (.invokevirtual 38, 3) := by decide +kernel
theorem d_Co_firstOf_6 : decode b_Co_firstOf 6 = .ok (.istore 4, 2) := by decide +kernel
theorem d_Co_firstOf_8 : decode b_Co_firstOf 8 = .ok (.iconst 0, 1) := by decide +kernel
theorem d_Co_firstOf_9 : decode b_Co_firstOf 9 = .ok (.istore 5, 2) := by decide +kernel
theorem d_Co_firstOf_11 : decode b_Co_firstOf 11 = .ok (.iload 5, 2) := by decide +kernel
theorem d_Co_firstOf_13 : decode b_Co_firstOf 13 = .ok (.bipush 15, 2) := by decide +kernel
theorem d_Co_firstOf_15 : decode b_Co_firstOf 15 = .ok (.if_icmp .ge 40, 3) := by decide +kernel
theorem d_Co_firstOf_18 : decode b_Co_firstOf 18 = .ok (.iload 4, 2) := by decide +kernel
theorem d_Co_firstOf_20 : decode b_Co_firstOf 20 = .ok (.iconst (-1), 1) := by decide +kernel
theorem d_Co_firstOf_21 : decode b_Co_firstOf 21 = .ok (.if_icmp .eq 34, 3) := by decide +kernel
theorem d_Co_firstOf_24 : decode b_Co_firstOf 24 = .ok (.lload_n 1, 1) := by decide +kernel
theorem d_Co_firstOf_25 : decode b_Co_firstOf 25 = .ok (.aload_n 0, 1) := by decide +kernel
theorem d_Co_firstOf_26 : decode b_Co_firstOf 26 = .ok (.getfield 9, 3) := by decide +kernel
theorem d_Co_firstOf_29 : decode b_Co_firstOf 29 = .ok (.iload 4, 2) := by decide +kernel
theorem d_Co_firstOf_31 : decode b_Co_firstOf 31 = .ok (.iaload, 1) := by decide +kernel
theorem d_Co_firstOf_32 : decode b_Co_firstOf 32 = .ok (.invokestatic 42, 3) := by decide +kernel
theorem d_Co_firstOf_35 : decode b_Co_firstOf 35 = .ok (.ifCond .eq 6, 3) := by decide +kernel
theorem d_Co_firstOf_38 : decode b_Co_firstOf 38 = .ok (.iload 4, 2) := by decide +kernel
theorem d_Co_firstOf_40 : decode b_Co_firstOf 40 = .ok (.ireturn, 1) := by decide +kernel
theorem d_Co_firstOf_41 : decode b_Co_firstOf 41 = .ok (.aload_n 0, 1) := by decide +kernel
theorem d_Co_firstOf_42 : decode b_Co_firstOf 42 = .ok (.iload 4, 2) := by decide +kernel
theorem d_Co_firstOf_44 : decode b_Co_firstOf 44 = .ok (.invokevirtual 34, 3) := by decide +kernel
theorem d_Co_firstOf_47 : decode b_Co_firstOf 47 = .ok (.istore 4, 2) := by decide +kernel
theorem d_Co_firstOf_49 : decode b_Co_firstOf 49 = .ok (.iinc 5 1, 3) := by decide +kernel
theorem d_Co_firstOf_52 : decode b_Co_firstOf 52 = .ok (.goto (-41), 3) := by decide +kernel
theorem d_Co_firstOf_55 : decode b_Co_firstOf 55 = .ok (.iconst (-1), 1) := by decide +kernel
theorem d_Co_firstOf_56 : decode b_Co_firstOf 56 = .ok (.ireturn, 1) := by decide +kernel
theorem d_Co_chainBehind_0 : decode b_Co_chainBehind 0 = .ok (.iconst 0, 1) := by decide +kernel
theorem d_Co_chainBehind_1 : decode b_Co_chainBehind 1 = .ok (.istore_n 3, 1) := by decide +kernel
theorem d_Co_chainBehind_2 : decode b_Co_chainBehind 2 = .ok (.aload_n 0, 1) := by decide +kernel
theorem d_Co_chainBehind_3 : decode b_Co_chainBehind 3 = .ok (.iload_n 1, 1) := by decide +kernel
theorem d_Co_chainBehind_4 : decode b_Co_chainBehind 4 = .ok (.invokevirtual 34, 3) := by decide +kernel
theorem d_Co_chainBehind_7 : decode b_Co_chainBehind 7 = .ok (.istore 4, 2) := by decide +kernel
theorem d_Co_chainBehind_9 : decode b_Co_chainBehind 9 = .ok (.iload 4, 2) := by decide +kernel
theorem d_Co_chainBehind_11 : decode b_Co_chainBehind 11 = .ok (.iconst (-1), 1) := by decide +kernel
theorem d_Co_chainBehind_12 : decode b_Co_chainBehind 12 = .ok (.if_icmp .eq 28, 3) := by decide +kernel
theorem d_Co_chainBehind_15 : decode b_Co_chainBehind 15 = .ok (.iload_n 3, 1) := by decide +kernel
theorem d_Co_chainBehind_16 : decode b_Co_chainBehind 16 = .ok (.aload_n 2, 1) := by decide +kernel
theorem d_Co_chainBehind_17 : decode b_Co_chainBehind 17 = .ok (.arraylength, 1) := by decide +kernel
theorem d_Co_chainBehind_18 : decode b_Co_chainBehind 18 = .ok (.if_icmp .ge 22, 3) := by decide +kernel
theorem d_Co_chainBehind_21 : decode b_Co_chainBehind 21 = .ok (.aload_n 2, 1) := by decide +kernel
theorem d_Co_chainBehind_22 : decode b_Co_chainBehind 22 = .ok (.iload_n 3, 1) := by decide +kernel
theorem d_Co_chainBehind_23 : decode b_Co_chainBehind 23 = .ok (.iload 4, 2) := by decide +kernel
theorem d_Co_chainBehind_25 : decode b_Co_chainBehind 25 = .ok (.iastore, 1) := by decide +kernel
theorem d_Co_chainBehind_26 : decode b_Co_chainBehind 26 = .ok (.iinc 3 1, 3) := by decide +kernel
theorem d_Co_chainBehind_29 : decode b_Co_chainBehind 29 = .ok (.aload_n 0, 1) := by decide +kernel
theorem d_Co_chainBehind_30 : decode b_Co_chainBehind 30 = .ok (.iload 4, 2) := by decide +kernel
theorem d_Co_chainBehind_32 : decode b_Co_chainBehind 32 = .ok (.invokevirtual 34, 3) := by decide +kernel
theorem d_Co_chainBehind_35 : decode b_Co_chainBehind 35 = .ok (.istore 4, 2) := by decide +kernel
theorem d_Co_chainBehind_37 : decode b_Co_chainBehind 37 = .ok (.goto (-28), 3) := by decide +kernel
theorem d_Co_chainBehind_40 : decode b_Co_chainBehind 40 = .ok (.iload_n 3, 1) := by decide +kernel
theorem d_Co_chainBehind_41 : decode b_Co_chainBehind 41 = .ok (.ireturn, 1) := by decide +kernel
theorem d_Co_leastFree_0 : decode b_Co_leastFree 0 = .ok (.bipush 6, 2) := by decide +kernel
theorem d_Co_leastFree_2 : decode b_Co_leastFree 2 = .ok (.istore_n 1, 1) := by decide +kernel
theorem d_Co_leastFree_3 : decode b_Co_leastFree 3 = .ok (.iload_n 1, 1) := by decide +kernel
theorem d_Co_leastFree_4 : decode b_Co_leastFree 4 = .ok (.bipush 15, 2) := by decide +kernel
theorem d_Co_leastFree_6 : decode b_Co_leastFree 6 = .ok (.if_icmp .ge 20, 3) := by decide +kernel
theorem d_Co_leastFree_9 : decode b_Co_leastFree 9 = .ok (.aload_n 0, 1) := by decide +kernel
theorem d_Co_leastFree_10 : decode b_Co_leastFree 10 = .ok (.getfield 9, 3) := by decide +kernel
theorem d_Co_leastFree_13 : decode b_Co_leastFree 13 = .ok (.iload_n 1, 1) := by decide +kernel
theorem d_Co_leastFree_14 : decode b_Co_leastFree 14 = .ok (.iaload, 1) := by decide +kernel
theorem d_Co_leastFree_15 : decode b_Co_leastFree 15 = .ok (.ifCond .ne 5, 3) := by decide +kernel
theorem d_Co_leastFree_18 : decode b_Co_leastFree 18 = .ok (.iload_n 1, 1) := by decide +kernel
theorem d_Co_leastFree_19 : decode b_Co_leastFree 19 = .ok (.ireturn, 1) := by decide +kernel
theorem d_Co_leastFree_20 : decode b_Co_leastFree 20 = .ok (.iinc 1 1, 3) := by decide +kernel
theorem d_Co_leastFree_23 : decode b_Co_leastFree 23 = .ok (.goto (-20), 3) := by decide +kernel
theorem d_Co_leastFree_26 : decode b_Co_leastFree 26 = .ok (.iconst (-1), 1) := by decide +kernel
theorem d_Co_leastFree_27 : decode b_Co_leastFree 27 = .ok (.ireturn, 1) := by decide +kernel
theorem d_Co_freeSlots_0 : decode b_Co_freeSlots 0 = .ok (.iconst 0, 1) := by decide +kernel
theorem d_Co_freeSlots_1 : decode b_Co_freeSlots 1 = .ok (.istore_n 1, 1) := by decide +kernel
theorem d_Co_freeSlots_2 : decode b_Co_freeSlots 2 = .ok (.bipush 6, 2) := by decide +kernel
theorem d_Co_freeSlots_4 : decode b_Co_freeSlots 4 = .ok (.istore_n 2, 1) := by decide +kernel
theorem d_Co_freeSlots_5 : decode b_Co_freeSlots 5 = .ok (.iload_n 2, 1) := by decide +kernel
theorem d_Co_freeSlots_6 : decode b_Co_freeSlots 6 = .ok (.bipush 15, 2) := by decide +kernel
theorem d_Co_freeSlots_8 : decode b_Co_freeSlots 8 = .ok (.if_icmp .ge 26, 3) := by decide +kernel
theorem d_Co_freeSlots_11 : decode b_Co_freeSlots 11 = .ok (.iload_n 1, 1) := by decide +kernel
theorem d_Co_freeSlots_12 : decode b_Co_freeSlots 12 = .ok (.aload_n 0, 1) := by decide +kernel
theorem d_Co_freeSlots_13 : decode b_Co_freeSlots 13 = .ok (.getfield 9, 3) := by decide +kernel
theorem d_Co_freeSlots_16 : decode b_Co_freeSlots 16 = .ok (.iload_n 2, 1) := by decide +kernel
theorem d_Co_freeSlots_17 : decode b_Co_freeSlots 17 = .ok (.iaload, 1) := by decide +kernel
theorem d_Co_freeSlots_18 : decode b_Co_freeSlots 18 = .ok (.ifCond .ne 7, 3) := by decide +kernel
theorem d_Co_freeSlots_21 : decode b_Co_freeSlots 21 = .ok (.iconst 1, 1) := by decide +kernel
theorem d_Co_freeSlots_22 : decode b_Co_freeSlots 22 = .ok (.goto 4, 3) := by decide +kernel
theorem d_Co_freeSlots_25 : decode b_Co_freeSlots 25 = .ok (.iconst 0, 1) := by decide +kernel
theorem d_Co_freeSlots_26 : decode b_Co_freeSlots 26 = .ok (.iadd, 1) := by decide +kernel
theorem d_Co_freeSlots_27 : decode b_Co_freeSlots 27 = .ok (.istore_n 1, 1) := by decide +kernel
theorem d_Co_freeSlots_28 : decode b_Co_freeSlots 28 = .ok (.iinc 2 1, 3) := by decide +kernel
theorem d_Co_freeSlots_31 : decode b_Co_freeSlots 31 = .ok (.goto (-26), 3) := by decide +kernel
theorem d_Co_freeSlots_34 : decode b_Co_freeSlots 34 = .ok (.iload_n 1, 1) := by decide +kernel
theorem d_Co_freeSlots_35 : decode b_Co_freeSlots 35 = .ok (.ireturn, 1) := by decide +kernel
theorem d_Co_leastUnused_0 : decode b_Co_leastUnused 0 = .ok (.iconst 1, 1) := by decide +kernel
theorem d_Co_leastUnused_1 : decode b_Co_leastUnused 1 = .ok (.istore_n 1, 1) := by decide +kernel
theorem d_Co_leastUnused_2 : decode b_Co_leastUnused 2 = .ok (.iload_n 1, 1) := by decide +kernel
theorem d_Co_leastUnused_3 : decode b_Co_leastUnused 3 = .ok (.bipush 40, 2) := by decide +kernel
theorem d_Co_leastUnused_5 : decode b_Co_leastUnused 5 = .ok (.if_icmp .gt 20, 3) := by decide +kernel
theorem d_Co_leastUnused_8 : decode b_Co_leastUnused 8 = .ok (.aload_n 0, 1) := by decide +kernel
theorem d_Co_leastUnused_9 : decode b_Co_leastUnused 9 = .ok (.getfield 21, 3) := by decide +kernel
theorem d_Co_leastUnused_12 : decode b_Co_leastUnused 12 = .ok (.iload_n 1, 1) := by decide +kernel
theorem d_Co_leastUnused_13 : decode b_Co_leastUnused 13 = .ok (.iaload, 1) := by decide +kernel
theorem d_Co_leastUnused_14 : decode b_Co_leastUnused 14 = .ok (.ifCond .ne 5, 3) := by decide +kernel
theorem d_Co_leastUnused_17 : decode b_Co_leastUnused 17 = .ok (.iload_n 1, 1) := by decide +kernel
theorem d_Co_leastUnused_18 : decode b_Co_leastUnused 18 = .ok (.ireturn, 1) := by decide +kernel
theorem d_Co_leastUnused_19 : decode b_Co_leastUnused 19 = .ok (.iinc 1 1, 3) := by decide +kernel
theorem d_Co_leastUnused_22 : decode b_Co_leastUnused 22 = .ok (.goto (-20), 3) := by decide +kernel
theorem d_Co_leastUnused_25 : decode b_Co_leastUnused 25 = .ok (.iconst 0, 1) := by decide +kernel
theorem d_Co_leastUnused_26 : decode b_Co_leastUnused 26 = .ok (.ireturn, 1) := by decide +kernel
theorem d_Co_setIn_0 : decode b_Co_setIn 0 = .ok (.lconst 0, 1) := by decide +kernel
theorem d_Co_setIn_1 : decode b_Co_setIn 1 = .ok (.lstore_n 2, 1) := by decide +kernel
theorem d_Co_setIn_2 : decode b_Co_setIn 2 = .ok (.iconst 1, 1) := by decide +kernel
theorem d_Co_setIn_3 : decode b_Co_setIn 3 = .ok (.istore 4, 2) := by decide +kernel
theorem d_Co_setIn_5 : decode b_Co_setIn 5 = .ok (.iload 4, 2) := by decide +kernel
theorem d_Co_setIn_7 : decode b_Co_setIn 7 = .ok (.bipush 40, 2) := by decide +kernel
theorem d_Co_setIn_9 : decode b_Co_setIn 9 = .ok (.if_icmp .gt 27, 3) := by decide +kernel
theorem d_Co_setIn_12 : decode b_Co_setIn 12 = .ok (.aload_n 0, 1) := by decide +kernel
theorem d_Co_setIn_13 : decode b_Co_setIn 13 = .ok (.getfield 21, 3) := by decide +kernel
theorem d_Co_setIn_16 : decode b_Co_setIn 16 = .ok (.iload 4, 2) := by decide +kernel
theorem d_Co_setIn_18 : decode b_Co_setIn 18 = .ok (.iaload, 1) := by decide +kernel
theorem d_Co_setIn_19 : decode b_Co_setIn 19 = .ok (.iload_n 1, 1) := by decide +kernel
theorem d_Co_setIn_20 : decode b_Co_setIn 20 = .ok (.if_icmp .ne 10, 3) := by decide +kernel
theorem d_Co_setIn_23 : decode b_Co_setIn 23 = .ok (.lload_n 2, 1) := by decide +kernel
theorem d_Co_setIn_24 : decode b_Co_setIn 24 = .ok (.lconst 1, 1) := by decide +kernel
theorem d_Co_setIn_25 : decode b_Co_setIn 25 = .ok (.iload 4, 2) := by decide +kernel
theorem d_Co_setIn_27 : decode b_Co_setIn 27 = .ok (.lshl, 1) := by decide +kernel
theorem d_Co_setIn_28 : decode b_Co_setIn 28 = .ok (.lor, 1) := by decide +kernel
theorem d_Co_setIn_29 : decode b_Co_setIn 29 = .ok (.lstore_n 2, 1) := by decide +kernel
theorem d_Co_setIn_30 : decode b_Co_setIn 30 = .ok (.iinc 4 1, 3) := by decide +kernel
theorem d_Co_setIn_33 : decode b_Co_setIn 33 = .ok (.goto (-28), 3) := by decide +kernel
theorem d_Co_setIn_36 : decode b_Co_setIn 36 = .ok (.lload_n 2, 1) := by decide +kernel
theorem d_Co_setIn_37 : decode b_Co_setIn 37 = .ok (.lreturn, 1) := by decide +kernel
theorem d_JL_bitCount_0 : decode b_JL_bitCount 0 = .ok (.lload_n 0, 1) := by decide +kernel
theorem d_JL_bitCount_1 : decode b_JL_bitCount 1 = .ok (.lload_n 0, 1) := by decide +kernel
theorem d_JL_bitCount_2 : decode b_JL_bitCount 2 = .ok (.iconst 1, 1) := by decide +kernel
theorem d_JL_bitCount_3 : decode b_JL_bitCount 3 = .ok (.lushr, 1) := by decide +kernel
theorem d_JL_bitCount_4 : decode b_JL_bitCount 4 = .ok (.ldc2_w 314, 3) := by decide +kernel
theorem d_JL_bitCount_7 : decode b_JL_bitCount 7 = .ok (.land, 1) := by decide +kernel
theorem d_JL_bitCount_8 : decode b_JL_bitCount 8 = .ok (.lsub, 1) := by decide +kernel
theorem d_JL_bitCount_9 : decode b_JL_bitCount 9 = .ok (.lstore_n 0, 1) := by decide +kernel
theorem d_JL_bitCount_10 : decode b_JL_bitCount 10 = .ok (.lload_n 0, 1) := by decide +kernel
theorem d_JL_bitCount_11 : decode b_JL_bitCount 11 = .ok (.ldc2_w 316, 3) := by decide +kernel
theorem d_JL_bitCount_14 : decode b_JL_bitCount 14 = .ok (.land, 1) := by decide +kernel
theorem d_JL_bitCount_15 : decode b_JL_bitCount 15 = .ok (.lload_n 0, 1) := by decide +kernel
theorem d_JL_bitCount_16 : decode b_JL_bitCount 16 = .ok (.iconst 2, 1) := by decide +kernel
theorem d_JL_bitCount_17 : decode b_JL_bitCount 17 = .ok (.lushr, 1) := by decide +kernel
theorem d_JL_bitCount_18 : decode b_JL_bitCount 18 = .ok (.ldc2_w 316, 3) := by decide +kernel
theorem d_JL_bitCount_21 : decode b_JL_bitCount 21 = .ok (.land, 1) := by decide +kernel
theorem d_JL_bitCount_22 : decode b_JL_bitCount 22 = .ok (.ladd, 1) := by decide +kernel
theorem d_JL_bitCount_23 : decode b_JL_bitCount 23 = .ok (.lstore_n 0, 1) := by decide +kernel
theorem d_JL_bitCount_24 : decode b_JL_bitCount 24 = .ok (.lload_n 0, 1) := by decide +kernel
theorem d_JL_bitCount_25 : decode b_JL_bitCount 25 = .ok (.lload_n 0, 1) := by decide +kernel
theorem d_JL_bitCount_26 : decode b_JL_bitCount 26 = .ok (.iconst 4, 1) := by decide +kernel
theorem d_JL_bitCount_27 : decode b_JL_bitCount 27 = .ok (.lushr, 1) := by decide +kernel
theorem d_JL_bitCount_28 : decode b_JL_bitCount 28 = .ok (.ladd, 1) := by decide +kernel
theorem d_JL_bitCount_29 : decode b_JL_bitCount 29 = .ok (.ldc2_w 318, 3) := by decide +kernel
theorem d_JL_bitCount_32 : decode b_JL_bitCount 32 = .ok (.land, 1) := by decide +kernel
theorem d_JL_bitCount_33 : decode b_JL_bitCount 33 = .ok (.lstore_n 0, 1) := by decide +kernel
theorem d_JL_bitCount_34 : decode b_JL_bitCount 34 = .ok (.lload_n 0, 1) := by decide +kernel
theorem d_JL_bitCount_35 : decode b_JL_bitCount 35 = .ok (.lload_n 0, 1) := by decide +kernel
theorem d_JL_bitCount_36 : decode b_JL_bitCount 36 = .ok (.bipush 8, 2) := by decide +kernel
theorem d_JL_bitCount_38 : decode b_JL_bitCount 38 = .ok (.lushr, 1) := by decide +kernel
theorem d_JL_bitCount_39 : decode b_JL_bitCount 39 = .ok (.ladd, 1) := by decide +kernel
theorem d_JL_bitCount_40 : decode b_JL_bitCount 40 = .ok (.lstore_n 0, 1) := by decide +kernel
theorem d_JL_bitCount_41 : decode b_JL_bitCount 41 = .ok (.lload_n 0, 1) := by decide +kernel
theorem d_JL_bitCount_42 : decode b_JL_bitCount 42 = .ok (.lload_n 0, 1) := by decide +kernel
theorem d_JL_bitCount_43 : decode b_JL_bitCount 43 = .ok (.bipush 16, 2) := by decide +kernel
theorem d_JL_bitCount_45 : decode b_JL_bitCount 45 = .ok (.lushr, 1) := by decide +kernel
theorem d_JL_bitCount_46 : decode b_JL_bitCount 46 = .ok (.ladd, 1) := by decide +kernel
theorem d_JL_bitCount_47 : decode b_JL_bitCount 47 = .ok (.lstore_n 0, 1) := by decide +kernel
theorem d_JL_bitCount_48 : decode b_JL_bitCount 48 = .ok (.lload_n 0, 1) := by decide +kernel
theorem d_JL_bitCount_49 : decode b_JL_bitCount 49 = .ok (.lload_n 0, 1) := by decide +kernel
theorem d_JL_bitCount_50 : decode b_JL_bitCount 50 = .ok (.bipush 32, 2) := by decide +kernel
theorem d_JL_bitCount_52 : decode b_JL_bitCount 52 = .ok (.lushr, 1) := by decide +kernel
theorem d_JL_bitCount_53 : decode b_JL_bitCount 53 = .ok (.ladd, 1) := by decide +kernel
theorem d_JL_bitCount_54 : decode b_JL_bitCount 54 = .ok (.lstore_n 0, 1) := by decide +kernel
theorem d_JL_bitCount_55 : decode b_JL_bitCount 55 = .ok (.lload_n 0, 1) := by decide +kernel
theorem d_JL_bitCount_56 : decode b_JL_bitCount 56 = .ok (.l2i, 1) := by decide +kernel
theorem d_JL_bitCount_57 : decode b_JL_bitCount 57 = .ok (.bipush 127, 2) := by decide +kernel
theorem d_JL_bitCount_59 : decode b_JL_bitCount 59 = .ok (.iand, 1) := by decide +kernel
theorem d_JL_bitCount_60 : decode b_JL_bitCount 60 = .ok (.ireturn, 1) := by decide +kernel
theorem d_Co_active_0 : decode b_Co_active 0 = .ok (.aload_n 0, 1) := by decide +kernel
theorem d_Co_active_1 : decode b_Co_active 1 = .ok (.iconst 1, 1) := by decide +kernel
theorem d_Co_active_2 : decode b_Co_active 2 = .ok (.invokevirtual 46, 3) := by decide +kernel
theorem d_Co_active_5 : decode b_Co_active 5 = .ok (.invokestatic 50, 3) := by decide +kernel
theorem d_Co_active_8 : decode b_Co_active 8 = .ok (.ireturn, 1) := by decide +kernel
theorem d_Co_committed_0 : decode b_Co_committed 0 = .ok (.aload_n 0, 1) := by decide +kernel
theorem d_Co_committed_1 : decode b_Co_committed 1 = .ok (.iconst 2, 1) := by decide +kernel
theorem d_Co_committed_2 : decode b_Co_committed 2 = .ok (.invokevirtual 46, 3) := by decide +kernel
theorem d_Co_committed_5 : decode b_Co_committed 5 = .ok (.lreturn, 1) := by decide +kernel
theorem d_JI_bitCount_0 : decode b_JI_bitCount 0 = .ok (.iload_n 0, 1) := by decide +kernel
theorem d_JI_bitCount_1 : decode b_JI_bitCount 1 = .ok (.iload_n 0, 1) := by decide +kernel
theorem d_JI_bitCount_2 : decode b_JI_bitCount 2 = .ok (.iconst 1, 1) := by decide +kernel
theorem d_JI_bitCount_3 : decode b_JI_bitCount 3 = .ok (.iushr, 1) := by decide +kernel
theorem d_JI_bitCount_4 : decode b_JI_bitCount 4 = .ok (.ldc_w 265, 3) := by decide +kernel
theorem d_JI_bitCount_7 : decode b_JI_bitCount 7 = .ok (.iand, 1) := by decide +kernel
theorem d_JI_bitCount_8 : decode b_JI_bitCount 8 = .ok (.isub, 1) := by decide +kernel
theorem d_JI_bitCount_9 : decode b_JI_bitCount 9 = .ok (.istore_n 0, 1) := by decide +kernel
theorem d_JI_bitCount_10 : decode b_JI_bitCount 10 = .ok (.iload_n 0, 1) := by decide +kernel
theorem d_JI_bitCount_11 : decode b_JI_bitCount 11 = .ok (.ldc_w 266, 3) := by decide +kernel
theorem d_JI_bitCount_14 : decode b_JI_bitCount 14 = .ok (.iand, 1) := by decide +kernel
theorem d_JI_bitCount_15 : decode b_JI_bitCount 15 = .ok (.iload_n 0, 1) := by decide +kernel
theorem d_JI_bitCount_16 : decode b_JI_bitCount 16 = .ok (.iconst 2, 1) := by decide +kernel
theorem d_JI_bitCount_17 : decode b_JI_bitCount 17 = .ok (.iushr, 1) := by decide +kernel
theorem d_JI_bitCount_18 : decode b_JI_bitCount 18 = .ok (.ldc_w 266, 3) := by decide +kernel
theorem d_JI_bitCount_21 : decode b_JI_bitCount 21 = .ok (.iand, 1) := by decide +kernel
theorem d_JI_bitCount_22 : decode b_JI_bitCount 22 = .ok (.iadd, 1) := by decide +kernel
theorem d_JI_bitCount_23 : decode b_JI_bitCount 23 = .ok (.istore_n 0, 1) := by decide +kernel
theorem d_JI_bitCount_24 : decode b_JI_bitCount 24 = .ok (.iload_n 0, 1) := by decide +kernel
theorem d_JI_bitCount_25 : decode b_JI_bitCount 25 = .ok (.iload_n 0, 1) := by decide +kernel
theorem d_JI_bitCount_26 : decode b_JI_bitCount 26 = .ok (.iconst 4, 1) := by decide +kernel
theorem d_JI_bitCount_27 : decode b_JI_bitCount 27 = .ok (.iushr, 1) := by decide +kernel
theorem d_JI_bitCount_28 : decode b_JI_bitCount 28 = .ok (.iadd, 1) := by decide +kernel
theorem d_JI_bitCount_29 : decode b_JI_bitCount 29 = .ok (.ldc_w 267, 3) := by decide +kernel
theorem d_JI_bitCount_32 : decode b_JI_bitCount 32 = .ok (.iand, 1) := by decide +kernel
theorem d_JI_bitCount_33 : decode b_JI_bitCount 33 = .ok (.istore_n 0, 1) := by decide +kernel
theorem d_JI_bitCount_34 : decode b_JI_bitCount 34 = .ok (.iload_n 0, 1) := by decide +kernel
theorem d_JI_bitCount_35 : decode b_JI_bitCount 35 = .ok (.iload_n 0, 1) := by decide +kernel
theorem d_JI_bitCount_36 : decode b_JI_bitCount 36 = .ok (.bipush 8, 2) := by decide +kernel
theorem d_JI_bitCount_38 : decode b_JI_bitCount 38 = .ok (.iushr, 1) := by decide +kernel
theorem d_JI_bitCount_39 : decode b_JI_bitCount 39 = .ok (.iadd, 1) := by decide +kernel
theorem d_JI_bitCount_40 : decode b_JI_bitCount 40 = .ok (.istore_n 0, 1) := by decide +kernel
theorem d_JI_bitCount_41 : decode b_JI_bitCount 41 = .ok (.iload_n 0, 1) := by decide +kernel
theorem d_JI_bitCount_42 : decode b_JI_bitCount 42 = .ok (.iload_n 0, 1) := by decide +kernel
theorem d_JI_bitCount_43 : decode b_JI_bitCount 43 = .ok (.bipush 16, 2) := by decide +kernel
theorem d_JI_bitCount_45 : decode b_JI_bitCount 45 = .ok (.iushr, 1) := by decide +kernel
theorem d_JI_bitCount_46 : decode b_JI_bitCount 46 = .ok (.iadd, 1) := by decide +kernel
theorem d_JI_bitCount_47 : decode b_JI_bitCount 47 = .ok (.istore_n 0, 1) := by decide +kernel
theorem d_JI_bitCount_48 : decode b_JI_bitCount 48 = .ok (.iload_n 0, 1) := by decide +kernel
theorem d_JI_bitCount_49 : decode b_JI_bitCount 49 = .ok (.bipush 63, 2) := by decide +kernel
theorem d_JI_bitCount_51 : decode b_JI_bitCount 51 = .ok (.iand, 1) := by decide +kernel
theorem d_JI_bitCount_52 : decode b_JI_bitCount 52 = .ok (.ireturn, 1) := by decide +kernel
