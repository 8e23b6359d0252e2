theorem d_Rv_has_0 : decode b_Rv_has 0 = .ok (.lload_n 0, 1) := by decide +kernel
theorem d_Rv_has_1 : decode b_Rv_has 1 = .ok (.iload_n 2, 1) := by decide +kernel
theorem d_Rv_has_2 : decode b_Rv_has 2 = .ok (.lshr, 1) := by decide +kernel
theorem d_Rv_has_3 : decode b_Rv_has 3 = .ok (.lconst 1, 1) := by decide +kernel
theorem d_Rv_has_4 : decode b_Rv_has 4 = .ok (.land, 1) := by decide +kernel
theorem d_Rv_has_5 : decode b_Rv_has 5 = .ok (.lconst 0, 1) := by decide +kernel
theorem d_Rv_has_6 : decode b_Rv_has 6 = .ok (.lcmp, 1) := by decide +kernel
theorem d_Rv_has_7 : decode b_Rv_has 7 = .ok (.ifCond .eq 7, 3) := by decide +kernel
theorem d_Rv_has_10 : decode b_Rv_has 10 = .ok (.iconst 1, 1) := by decide +kernel
theorem d_Rv_has_11 : decode b_Rv_has 11 = .ok (.goto 4, 3) := by decide +kernel
theorem d_Rv_has_14 : decode b_Rv_has 14 = .ok (.iconst 0, 1) := by decide +kernel
theorem d_Rv_has_15 : decode b_Rv_has 15 = .ok (.ireturn, 1) := by decide +kernel
theorem d_Rv_init_0 : decode b_Rv_init 0 = .ok (.aload_n 0, 1) := by decide +kernel
theorem d_Rv_init_1 : decode b_Rv_init 1 = .ok (.invokespecial 3, 3) := by decide +kernel
theorem d_Rv_init_4 : decode b_Rv_init 4 = .ok (.aload_n 0, 1) := by decide +kernel
theorem d_Rv_init_5 : decode b_Rv_init 5 = .ok (.new 9, 3) := by decide +kernel
theorem d_Rv_init_8 : decode b_Rv_init 8 = .ok (.dup, 1) := by decide +kernel
theorem d_Rv_init_9 : decode b_Rv_init 9 = .ok (.invokespecial 11, 3) := by decide +kernel
theorem d_Rv_init_12 : decode b_Rv_init 12 = .ok (.putfield 12, 3) := by decide +kernel
theorem d_Rv_init_15 : decode b_Rv_init 15 = .ok (.aload_n 0, 1) := by decide +kernel
theorem d_Rv_init_16 : decode b_Rv_init 16 = .ok (.aload_n 0, 1) := by decide +kernel
theorem d_Rv_init_17 : decode b_Rv_init 17 = .ok (.getfield 12, 3) := by decide +kernel
theorem d_Rv_init_20 : decode b_Rv_init 20 = .ok (.getfield 16, 3) := by decide +kernel
theorem d_Rv_init_23 : decode b_Rv_init 23 = .ok (.putfield 20, 3) := by decide +kernel
theorem d_Rv_init_26 : decode b_Rv_init 26 = .ok (.aload_n 0, 1) := by decide +kernel
theorem d_Rv_init_27 : decode b_Rv_init 27 = .ok (.bipush 41, 2) := by decide +kernel
theorem d_Rv_init_29 : decode b_Rv_init 29 = .ok (.newarray .long, 2) := by decide +kernel
theorem d_Rv_init_31 : decode b_Rv_init 31 = .ok (.putfield 21, 3) := by decide +kernel
theorem d_Rv_init_34 : decode b_Rv_init 34 = .ok (.aload_n 0, 1) := by decide +kernel
theorem d_Rv_init_35 : decode b_Rv_init 35 = .ok (.bipush 41, 2) := by decide +kernel
theorem d_Rv_init_37 : decode b_Rv_init 37 = .ok (.newarray .int, 2) := by decide +kernel
theorem d_Rv_init_39 : decode b_Rv_init 39 = .ok (.putfield 25, 3) := by decide +kernel
theorem d_Rv_init_42 : decode b_Rv_init 42 = .ok (.aload_n 0, 1) := by decide +kernel
theorem d_Rv_init_43 : decode b_Rv_init 43 = .ok (.bipush 9, 2) := by decide +kernel
theorem d_Rv_init_45 : decode b_Rv_init 45 = .ok (.newarray .int, 2) := by decide +kernel
theorem d_Rv_init_47 : decode b_Rv_init 47 = .ok (.putfield 29, 3) := by decide +kernel
theorem d_Rv_init_50 : decode b_Rv_init 50 = .ok (.return_, 1) := by decide +kernel
theorem d_Rv_begin_0 : decode b_Rv_begin 0 = .ok (.aload_n 0, 1) := by decide +kernel
theorem d_Rv_begin_1 : decode b_Rv_begin 1 = .ok (.getfield 20, 3) := by decide +kernel
theorem d_Rv_begin_4 : decode b_Rv_begin 4 = .ok (.invokevirtual 32, 3) := by decide +kernel
theorem d_Rv_begin_7 : decode b_Rv_begin 7 = .ok (.istore_n 1, 1) := by decide +kernel
theorem d_Rv_begin_8 : decode b_Rv_begin 8 = .ok (.aload_n 0, 1) := by decide +kernel
theorem d_Rv_begin_9 : decode b_Rv_begin 9 = .ok (.getfield 20, 3) := by decide +kernel
theorem d_Rv_begin_12 : decode b_Rv_begin 12 = .ok (.invokevirtual 38, 3) := by decide +kernel
theorem d_Rv_begin_15 : decode b_Rv_begin 15 = .ok (.iconst 4, 1) := by decide +kernel
theorem d_Rv_begin_16 : decode b_Rv_begin 16 = .ok (.if_icmp .ge 7, 3) := by decide +kernel
theorem d_Rv_begin_19 : decode b_Rv_begin 19 = .ok (.iload_n 1, 1) := by decide +kernel
theorem d_Rv_begin_20 : decode b_Rv_begin 20 = .ok (.ifCond .ne 11, 3) := by decide +kernel
theorem d_Rv_begin_23 : decode b_Rv_begin 23 = .ok (.new 41, 3) := by decide +kernel
theorem d_Rv_begin_26 : decode b_Rv_begin 26 = .ok (.dup, 1) := by decide +kernel
theorem d_Rv_begin_27 : decode b_Rv_begin 27 = .ok (.invokespecial 43, 3) := by decide +kernel
theorem d_Rv_begin_30 : decode b_Rv_begin 30 = .ok (.athrow, 1) := by decide +kernel
theorem d_Rv_begin_31 : decode b_Rv_begin 31 = .ok (.aload_n 0, 1) := by decide +kernel
theorem d_Rv_begin_32 : decode b_Rv_begin 32 = .ok (.getfield 21, 3) := by decide +kernel
theorem d_Rv_begin_35 : decode b_Rv_begin 35 = .ok (.iload_n 1, 1) := by decide +kernel
theorem d_Rv_begin_36 : decode b_Rv_begin 36 = .ok (.aload_n 0, 1) := by decide +kernel
theorem d_Rv_begin_37 : decode b_Rv_begin 37 = .ok (.getfield 20, 3) := by decide +kernel
theorem d_Rv_begin_40 : decode b_Rv_begin 40 = .ok (.invokevirtual 44, 3) := by decide +kernel
theorem d_Rv_begin_43 : decode b_Rv_begin 43 = .ok (.lastore, 1) := by decide +kernel
theorem d_Rv_begin_44 : decode b_Rv_begin 44 = .ok (.aload_n 0, 1) := by decide +kernel
theorem d_Rv_begin_45 : decode b_Rv_begin 45 = .ok (.getfield 25, 3) := by decide +kernel
theorem d_Rv_begin_48 : decode b_Rv_begin 48 = .ok (.iload_n 1, 1) := by decide +kernel
theorem d_Rv_begin_49 : decode b_Rv_begin 49 = .ok (.iconst 0, 1) := by decide +kernel
theorem d_Rv_begin_50 : decode b_Rv_begin 50 = .ok (.iastore, 1) := by decide +kernel
theorem d_Rv_begin_51 : decode b_Rv_begin 51 = .ok (.aload_n 0, 1) := by decide +kernel
theorem d_Rv_begin_52 : decode b_Rv_begin 52 = .ok (.getfield 20, 3) := by decide +kernel
theorem d_Rv_begin_55 : decode b_Rv_begin 55 = .ok (.getfield 48, 3) := by decide +kernel
theorem d_Rv_begin_58 : decode b_Rv_begin 58 = .ok (.iload_n 1, 1) := by decide +kernel
theorem d_Rv_begin_59 : decode b_Rv_begin 59 = .ok (.iconst 1, 1) := by decide +kernel
theorem d_Rv_begin_60 : decode b_Rv_begin 60 = .ok (.iastore, 1) := by decide +kernel
theorem d_Rv_begin_61 : decode b_Rv_begin 61 = .ok (.aload_n 0, 1) := by decide +kernel
theorem d_Rv_begin_62 : decode b_Rv_begin 62 = .ok (.getfield 12, 3) := by decide +kernel
theorem d_Rv_begin_65 : decode b_Rv_begin 65 = .ok (.bipush 6, 2) := by decide +kernel
theorem d_Rv_begin_67 : decode b_Rv_begin 67 = .ok (.invokevirtual 51, 3) := by decide +kernel
theorem d_Rv_begin_70 : decode b_Rv_begin 70 = .ok (.aload_n 0, 1) := by decide +kernel
theorem d_Rv_begin_71 : decode b_Rv_begin 71 = .ok (.getfield 12, 3) := by decide +kernel
theorem d_Rv_begin_74 : decode b_Rv_begin 74 = .ok (.bipush 6, 2) := by decide +kernel
theorem d_Rv_begin_76 : decode b_Rv_begin 76 = .ok (.iconst 0, 1) := by decide +kernel
theorem d_Rv_begin_77 : decode b_Rv_begin 77 = .ok (.invokevirtual 55, 3) := by decide +kernel
theorem d_Rv_begin_80 : decode b_Rv_begin 80 = .ok (.ifCond .eq 7, 3) := by decide +kernel
theorem d_Rv_begin_83 : decode b_Rv_begin 83 = .ok (.iload_n 1, 1) := by decide +kernel
theorem d_Rv_begin_84 : decode b_Rv_begin 84 = .ok (.goto 5, 3) := by decide +kernel
theorem d_Rv_begin_87 : decode b_Rv_begin 87 = .ok (.bipush (-9), 2) := by decide +kernel
theorem d_Rv_begin_89 : decode b_Rv_begin 89 = .ok (.ireturn, 1) := by decide +kernel
theorem d_Rv_demandRecord_0 : decode b_Rv_demandRecord 0 = .ok (.iload_n 0, 1) := by decide +kernel
theorem d_Rv_demandRecord_1 : decode b_Rv_demandRecord 1 = .ok (.ifCond .lt 9, 3) := by decide +kernel
theorem d_Rv_demandRecord_4 : decode b_Rv_demandRecord 4 = .ok (.iload_n 0, 1) := by decide +kernel
theorem d_Rv_demandRecord_5 : decode b_Rv_demandRecord 5 = .ok (.bipush 6, 2) := by decide +kernel
theorem d_Rv_demandRecord_7 : decode b_Rv_demandRecord 7 = .ok (.if_icmp .lt 11, 3) := by decide +kernel
theorem d_Rv_demandRecord_10 : decode b_Rv_demandRecord 10 = .ok (.new 74, 3) := by decide +kernel
theorem d_Rv_demandRecord_13 : decode b_Rv_demandRecord 13 = .ok (.dup, 1) := by decide +kernel
theorem d_Rv_demandRecord_14 : decode b_Rv_demandRecord 14 = .ok (.invokespecial 76, 3) := by decide +kernel
theorem d_Rv_demandRecord_17 : decode b_Rv_demandRecord 17 = .ok (.athrow, 1) := by decide +kernel
theorem d_Rv_demandRecord_18 : decode b_Rv_demandRecord 18 = .ok (.return_, 1) := by decide +kernel
theorem d_Rv_demandActive_0 : decode b_Rv_demandActive 0 = .ok (.iload_n 1, 1) := by decide +kernel
theorem d_Rv_demandActive_1 : decode b_Rv_demandActive 1 = .ok (.iconst 1, 1) := by decide +kernel
theorem d_Rv_demandActive_2 : decode b_Rv_demandActive 2 = .ok (.if_icmp .lt 22, 3) := by decide +kernel
theorem d_Rv_demandActive_5 : decode b_Rv_demandActive 5 = .ok (.iload_n 1, 1) := by decide +kernel
theorem d_Rv_demandActive_6 : decode b_Rv_demandActive 6 = .ok (.bipush 40, 2) := by decide +kernel
theorem d_Rv_demandActive_8 : decode b_Rv_demandActive 8 = .ok (.if_icmp .gt 16, 3) := by decide +kernel
theorem d_Rv_demandActive_11 : decode b_Rv_demandActive 11 = .ok (.aload_n 0, 1) := by decide +kernel
theorem d_Rv_demandActive_12 : decode b_Rv_demandActive 12 = .ok (.getfield 20, 3) := by decide +kernel
theorem d_Rv_demandActive_15 : decode b_Rv_demandActive 15 = .ok (.getfield 48, 3) := by decide +kernel
theorem d_Rv_demandActive_18 : decode b_Rv_demandActive 18 = .ok (.iload_n 1, 1) := by decide +kernel
theorem d_Rv_demandActive_19 : decode b_Rv_demandActive 19 = .ok (.iaload, 1) := by decide +kernel
theorem d_Rv_demandActive_20 : decode b_Rv_demandActive 20 = .ok (.iconst 1, 1) := by decide +kernel
theorem d_Rv_demandActive_21 : decode b_Rv_demandActive 21 = .ok (.if_icmp .eq 11, 3) := by decide +kernel
theorem d_Rv_demandActive_24 : decode b_Rv_demandActive 24 = .ok (.new 41, 3) := by decide +kernel
theorem d_Rv_demandActive_27 : decode b_Rv_demandActive 27 = .ok (.dup, 1) := by decide +kernel
theorem d_Rv_demandActive_28 : decode b_Rv_demandActive 28 = .ok (.invokespecial 43, 3) := by decide +kernel
theorem d_Rv_demandActive_31 : decode b_Rv_demandActive 31 = .ok (.athrow, 1) := by decide +kernel
theorem d_Rv_demandActive_32 : decode b_Rv_demandActive 32 = .ok (.return_, 1) := by decide +kernel
theorem d_Rv_seenBy_0 : decode b_Rv_seenBy 0 = .ok (.aload_n 0, 1) := by decide +kernel
theorem d_Rv_seenBy_1 : decode b_Rv_seenBy 1 = .ok (.getfield 21, 3) := by decide +kernel
theorem d_Rv_seenBy_4 : decode b_Rv_seenBy 4 = .ok (.iload_n 1, 1) := by decide +kernel
theorem d_Rv_seenBy_5 : decode b_Rv_seenBy 5 = .ok (.laload, 1) := by decide +kernel
theorem d_Rv_seenBy_6 : decode b_Rv_seenBy 6 = .ok (.lconst 1, 1) := by decide +kernel
theorem d_Rv_seenBy_7 : decode b_Rv_seenBy 7 = .ok (.iload_n 1, 1) := by decide +kernel
theorem d_Rv_seenBy_8 : decode b_Rv_seenBy 8 = .ok (.lshl, 1) := by decide +kernel
theorem d_Rv_seenBy_9 : decode b_Rv_seenBy 9 = .ok (.lor, 1) := by decide +kernel
theorem d_Rv_seenBy_10 : decode b_Rv_seenBy 10 = .ok (.lreturn, 1) := by decide +kernel
theorem d_Rv_placeSeen_0 : decode b_Rv_placeSeen 0 = .ok (.aload_n 0, 1) := by decide +kernel
theorem d_Rv_placeSeen_1 : decode b_Rv_placeSeen 1 = .ok (.getfield 20, 3) := by decide +kernel
theorem d_Rv_placeSeen_4 : decode b_Rv_placeSeen 4 = .ok (.aload_n 0, 1) := by decide +kernel
theorem d_Rv_placeSeen_5 : decode b_Rv_placeSeen 5 = .ok (.iload_n 1, 1) := by decide +kernel
theorem d_Rv_placeSeen_6 : decode b_Rv_placeSeen 6 = .ok (.invokevirtual 139, 3) := by decide +kernel
theorem d_Rv_placeSeen_9 : decode b_Rv_placeSeen 9 = .ok (.iload_n 2, 1) := by decide +kernel
theorem d_Rv_placeSeen_10 : decode b_Rv_placeSeen 10 = .ok (.invokevirtual 105, 3) := by decide +kernel
theorem d_Rv_placeSeen_13 : decode b_Rv_placeSeen 13 = .ok (.ireturn, 1) := by decide +kernel
theorem d_Rv_demandValue_0 : decode b_Rv_demandValue 0 = .ok (.iload_n 1, 1) := by decide +kernel
theorem d_Rv_demandValue_1 : decode b_Rv_demandValue 1 = .ok (.iconst (-1), 1) := by decide +kernel
theorem d_Rv_demandValue_2 : decode b_Rv_demandValue 2 = .ok (.if_icmp .eq 13, 3) := by decide +kernel
theorem d_Rv_demandValue_5 : decode b_Rv_demandValue 5 = .ok (.aload_n 0, 1) := by decide +kernel
theorem d_Rv_demandValue_6 : decode b_Rv_demandValue 6 = .ok (.getfield 118, 3) := by decide +kernel
theorem d_Rv_demandValue_9 : decode b_Rv_demandValue 9 = .ok (.iload_n 1, 1) := by decide +kernel
theorem d_Rv_demandValue_10 : decode b_Rv_demandValue 10 = .ok (.iaload, 1) := by decide +kernel
theorem d_Rv_demandValue_11 : decode b_Rv_demandValue 11 = .ok (.iconst (-1), 1) := by decide +kernel
theorem d_Rv_demandValue_12 : decode b_Rv_demandValue 12 = .ok (.if_icmp .ne 11, 3) := by decide +kernel
theorem d_Rv_demandValue_15 : decode b_Rv_demandValue 15 = .ok (.new 112, 3) := by decide +kernel
theorem d_Rv_demandValue_18 : decode b_Rv_demandValue 18 = .ok (.dup, 1) := by decide +kernel
theorem d_Rv_demandValue_19 : decode b_Rv_demandValue 19 = .ok (.invokespecial 114, 3) := by decide +kernel
theorem d_Rv_demandValue_22 : decode b_Rv_demandValue 22 = .ok (.athrow, 1) := by decide +kernel
theorem d_Rv_demandValue_23 : decode b_Rv_demandValue 23 = .ok (.aload_n 0, 1) := by decide +kernel
theorem d_Rv_demandValue_24 : decode b_Rv_demandValue 24 = .ok (.getfield 118, 3) := by decide +kernel
theorem d_Rv_demandValue_27 : decode b_Rv_demandValue 27 = .ok (.iload_n 1, 1) := by decide +kernel
theorem d_Rv_demandValue_28 : decode b_Rv_demandValue 28 = .ok (.iaload, 1) := by decide +kernel
theorem d_Rv_demandValue_29 : decode b_Rv_demandValue 29 = .ok (.ireturn, 1) := by decide +kernel
theorem d_Rv_read_0 : decode b_Rv_read 0 = .ok (.iload_n 2, 1) := by decide +kernel
theorem d_Rv_read_1 : decode b_Rv_read 1 = .ok (.invokestatic 59, 3) := by decide +kernel
theorem d_Rv_read_4 : decode b_Rv_read 4 = .ok (.aload_n 0, 1) := by decide +kernel
theorem d_Rv_read_5 : decode b_Rv_read 5 = .ok (.iload_n 1, 1) := by decide +kernel
theorem d_Rv_read_6 : decode b_Rv_read 6 = .ok (.invokevirtual 62, 3) := by decide +kernel
theorem d_Rv_read_9 : decode b_Rv_read 9 = .ok (.aload_n 0, 1) := by decide +kernel
theorem d_Rv_read_10 : decode b_Rv_read 10 = .ok (.getfield 20, 3) := by decide +kernel
theorem d_Rv_read_13 : decode b_Rv_read 13 = .ok (.aload_n 0, 1) := by decide +kernel
theorem d_Rv_read_14 : decode b_Rv_read 14 = .ok (.iload_n 1, 1) := by decide +kernel
theorem d_Rv_read_15 : decode b_Rv_read 15 = .ok (.iload_n 2, 1) := by decide +kernel
theorem d_Rv_read_16 : decode b_Rv_read 16 = .ok (.invokevirtual 65, 3) := by decide +kernel
theorem d_Rv_read_19 : decode b_Rv_read 19 = .ok (.invokestatic 69, 3) := by decide +kernel
theorem d_Rv_read_22 : decode b_Rv_read 22 = .ok (.ireturn, 1) := by decide +kernel
theorem d_Rv_pageOf_0 : decode b_Rv_pageOf 0 = .ok (.iload_n 0, 1) := by decide +kernel
theorem d_Rv_pageOf_1 : decode b_Rv_pageOf 1 = .ok (.bipush 6, 2) := by decide +kernel
theorem d_Rv_pageOf_3 : decode b_Rv_pageOf 3 = .ok (.if_icmp .ge 9, 3) := by decide +kernel
theorem d_Rv_pageOf_6 : decode b_Rv_pageOf 6 = .ok (.iload_n 0, 1) := by decide +kernel
theorem d_Rv_pageOf_7 : decode b_Rv_pageOf 7 = .ok (.iconst 2, 1) := by decide +kernel
theorem d_Rv_pageOf_8 : decode b_Rv_pageOf 8 = .ok (.idiv, 1) := by decide +kernel
theorem d_Rv_pageOf_9 : decode b_Rv_pageOf 9 = .ok (.goto 11, 3) := by decide +kernel
theorem d_Rv_pageOf_12 : decode b_Rv_pageOf 12 = .ok (.iconst 3, 1) := by decide +kernel
theorem d_Rv_pageOf_13 : decode b_Rv_pageOf 13 = .ok (.iload_n 0, 1) := by decide +kernel
theorem d_Rv_pageOf_14 : decode b_Rv_pageOf 14 = .ok (.bipush 6, 2) := by decide +kernel
theorem d_Rv_pageOf_16 : decode b_Rv_pageOf 16 = .ok (.isub, 1) := by decide +kernel
theorem d_Rv_pageOf_17 : decode b_Rv_pageOf 17 = .ok (.iconst 3, 1) := by decide +kernel
theorem d_Rv_pageOf_18 : decode b_Rv_pageOf 18 = .ok (.idiv, 1) := by decide +kernel
theorem d_Rv_pageOf_19 : decode b_Rv_pageOf 19 = .ok (.iadd, 1) := by decide +kernel
theorem d_Rv_pageOf_20 : decode b_Rv_pageOf 20 = .ok (.ireturn, 1) := by decide +kernel
theorem d_Rv_clean_0 : decode b_Rv_clean 0 = .ok (.iconst 0, 1) := by decide +kernel
theorem d_Rv_clean_1 : decode b_Rv_clean 1 = .ok (.istore_n 2, 1) := by decide +kernel
theorem d_Rv_clean_2 : decode b_Rv_clean 2 = .ok (.iload_n 2, 1) := by decide +kernel
theorem d_Rv_clean_3 : decode b_Rv_clean 3 = .ok (.bipush 15, 2) := by decide +kernel
theorem d_Rv_clean_5 : decode b_Rv_clean 5 = .ok (.if_icmp .ge 105, 3) := by decide +kernel
theorem d_Rv_clean_8 : decode b_Rv_clean 8 = .ok (.aload_n 0, 1) := by decide +kernel
theorem d_Rv_clean_9 : decode b_Rv_clean 9 = .ok (.getfield 20, 3) := by decide +kernel
theorem d_Rv_clean_12 : decode b_Rv_clean 12 = .ok (.iload_n 1, 1) := by decide +kernel
theorem d_Rv_clean_13 : decode b_Rv_clean 13 = .ok (.invokevirtual 172, 3) := by decide +kernel
theorem d_Rv_clean_16 : decode b_Rv_clean 16 = .ok (.ifCond .eq 94, 3) := by decide +kernel
theorem d_Rv_clean_19 : decode b_Rv_clean 19 = .ok (.aload_n 0, 1) := by decide +kernel
theorem d_Rv_clean_20 : decode b_Rv_clean 20 = .ok (.getfield 20, 3) := by decide +kernel
theorem d_Rv_clean_23 : decode b_Rv_clean 23 = .ok (.getfield 175, 3) := by decide +kernel
theorem d_Rv_clean_26 : decode b_Rv_clean 26 = .ok (.iload_n 1, 1) := by decide +kernel
theorem d_Rv_clean_27 : decode b_Rv_clean 27 = .ok (.iaload, 1) := by decide +kernel
theorem d_Rv_clean_28 : decode b_Rv_clean 28 = .ok (.istore_n 3, 1) := by decide +kernel
theorem d_Rv_clean_29 : decode b_Rv_clean 29 = .ok (.iload_n 3, 1) := by decide +kernel
theorem d_Rv_clean_30 : decode b_Rv_clean 30 = .ok (.iconst (-1), 1) := by decide +kernel
theorem d_Rv_clean_31 : decode b_Rv_clean 31 = .ok (.if_icmp .ne 14, 3) := by decide +kernel
theorem d_Rv_clean_34 : decode b_Rv_clean 34 = .ok (.aload_n 0, 1) := by decide +kernel
theorem d_Rv_clean_35 : decode b_Rv_clean 35 = .ok (.getfield 20, 3) := by decide +kernel
theorem d_Rv_clean_38 : decode b_Rv_clean 38 = .ok (.iload_n 1, 1) := by decide +kernel
theorem d_Rv_clean_39 : decode b_Rv_clean 39 = .ok (.invokevirtual 178, 3) := by decide +kernel
theorem d_Rv_clean_42 : decode b_Rv_clean 42 = .ok (.goto 51, 3) := by decide +kernel
theorem d_Rv_clean_45 : decode b_Rv_clean 45 = .ok (.aload_n 0, 1) := by decide +kernel
theorem d_Rv_clean_46 : decode b_Rv_clean 46 = .ok (.getfield 12, 3) := by decide +kernel
theorem d_Rv_clean_49 : decode b_Rv_clean 49 = .ok (.iload_n 1, 1) := by decide +kernel
theorem d_Rv_clean_50 : decode b_Rv_clean 50 = .ok (.invokestatic 159, 3) := by decide +kernel
theorem d_Rv_clean_53 : decode b_Rv_clean 53 = .ok (.iload_n 3, 1) := by decide +kernel
theorem d_Rv_clean_54 : decode b_Rv_clean 54 = .ok (.invokestatic 159, 3) := by decide +kernel
theorem d_Rv_clean_57 : decode b_Rv_clean 57 = .ok (.invokevirtual 162, 3) := by decide +kernel
theorem d_Rv_clean_60 : decode b_Rv_clean 60 = .ok (.ifCond .ne 5, 3) := by decide +kernel
theorem d_Rv_clean_63 : decode b_Rv_clean 63 = .ok (.iconst 0, 1) := by decide +kernel
theorem d_Rv_clean_64 : decode b_Rv_clean 64 = .ok (.ireturn, 1) := by decide +kernel
theorem d_Rv_clean_65 : decode b_Rv_clean 65 = .ok (.aload_n 0, 1) := by decide +kernel
theorem d_Rv_clean_66 : decode b_Rv_clean 66 = .ok (.getfield 20, 3) := by decide +kernel
theorem d_Rv_clean_69 : decode b_Rv_clean 69 = .ok (.iload_n 3, 1) := by decide +kernel
theorem d_Rv_clean_70 : decode b_Rv_clean 70 = .ok (.iload_n 1, 1) := by decide +kernel
theorem d_Rv_clean_71 : decode b_Rv_clean 71 = .ok (.invokevirtual 165, 3) := by decide +kernel
theorem d_Rv_clean_74 : decode b_Rv_clean 74 = .ok (.aload_n 0, 1) := by decide +kernel
theorem d_Rv_clean_75 : decode b_Rv_clean 75 = .ok (.getfield 20, 3) := by decide +kernel
theorem d_Rv_clean_78 : decode b_Rv_clean 78 = .ok (.iload_n 3, 1) := by decide +kernel
theorem d_Rv_clean_79 : decode b_Rv_clean 79 = .ok (.invokevirtual 178, 3) := by decide +kernel
theorem d_Rv_clean_82 : decode b_Rv_clean 82 = .ok (.aload_n 0, 1) := by decide +kernel
theorem d_Rv_clean_83 : decode b_Rv_clean 83 = .ok (.getfield 12, 3) := by decide +kernel
theorem d_Rv_clean_86 : decode b_Rv_clean 86 = .ok (.iload_n 3, 1) := by decide +kernel
theorem d_Rv_clean_87 : decode b_Rv_clean 87 = .ok (.invokestatic 159, 3) := by decide +kernel
theorem d_Rv_clean_90 : decode b_Rv_clean 90 = .ok (.invokevirtual 51, 3) := by decide +kernel
theorem d_Rv_clean_93 : decode b_Rv_clean 93 = .ok (.aload_n 0, 1) := by decide +kernel
theorem d_Rv_clean_94 : decode b_Rv_clean 94 = .ok (.getfield 12, 3) := by decide +kernel
theorem d_Rv_clean_97 : decode b_Rv_clean 97 = .ok (.iload_n 1, 1) := by decide +kernel
theorem d_Rv_clean_98 : decode b_Rv_clean 98 = .ok (.invokestatic 159, 3) := by decide +kernel
theorem d_Rv_clean_101 : decode b_Rv_clean 101 = .ok (.invokevirtual 51, 3) := by decide +kernel
theorem d_Rv_clean_104 : decode b_Rv_clean 104 = .ok (.iinc 2 1, 3) := by decide +kernel
theorem d_Rv_clean_107 : decode b_Rv_clean 107 = .ok (.goto (-105), 3) := by decide +kernel
theorem d_Rv_clean_110 : decode b_Rv_clean 110 = .ok (.iconst 1, 1) := by decide +kernel
theorem d_Rv_clean_111 : decode b_Rv_clean 111 = .ok (.ireturn, 1) := by decide +kernel
theorem d_Rv_changedBy_0 : decode b_Rv_changedBy 0 = .ok (.aload_n 0, 1) := by decide +kernel
theorem d_Rv_changedBy_1 : decode b_Rv_changedBy 1 = .ok (.getfield 12, 3) := by decide +kernel
theorem d_Rv_changedBy_4 : decode b_Rv_changedBy 4 = .ok (.iload_n 2, 1) := by decide +kernel
theorem d_Rv_changedBy_5 : decode b_Rv_changedBy 5 = .ok (.invokestatic 159, 3) := by decide +kernel
theorem d_Rv_changedBy_8 : decode b_Rv_changedBy 8 = .ok (.invokevirtual 51, 3) := by decide +kernel
theorem d_Rv_changedBy_11 : decode b_Rv_changedBy 11 = .ok (.aload_n 0, 1) := by decide +kernel
theorem d_Rv_changedBy_12 : decode b_Rv_changedBy 12 = .ok (.getfield 25, 3) := by decide +kernel
theorem d_Rv_changedBy_15 : decode b_Rv_changedBy 15 = .ok (.iload_n 1, 1) := by decide +kernel
theorem d_Rv_changedBy_16 : decode b_Rv_changedBy 16 = .ok (.dup2, 1) := by decide +kernel
theorem d_Rv_changedBy_17 : decode b_Rv_changedBy 17 = .ok (.iaload, 1) := by decide +kernel
theorem d_Rv_changedBy_18 : decode b_Rv_changedBy 18 = .ok (.iconst 1, 1) := by decide +kernel
theorem d_Rv_changedBy_19 : decode b_Rv_changedBy 19 = .ok (.iload_n 2, 1) := by decide +kernel
theorem d_Rv_changedBy_20 : decode b_Rv_changedBy 20 = .ok (.invokestatic 159, 3) := by decide +kernel
theorem d_Rv_changedBy_23 : decode b_Rv_changedBy 23 = .ok (.ishl, 1) := by decide +kernel
theorem d_Rv_changedBy_24 : decode b_Rv_changedBy 24 = .ok (.ior, 1) := by decide +kernel
theorem d_Rv_changedBy_25 : decode b_Rv_changedBy 25 = .ok (.iastore, 1) := by decide +kernel
theorem d_Rv_changedBy_26 : decode b_Rv_changedBy 26 = .ok (.return_, 1) := by decide +kernel
theorem d_Rv_change_0 : decode b_Rv_change 0 = .ok (.aload_n 0, 1) := by decide +kernel
theorem d_Rv_change_1 : decode b_Rv_change 1 = .ok (.iload_n 2, 1) := by decide +kernel
theorem d_Rv_change_2 : decode b_Rv_change 2 = .ok (.invokevirtual 143, 3) := by decide +kernel
theorem d_Rv_change_5 : decode b_Rv_change 5 = .ok (.ifCond .ne 6, 3) := by decide +kernel
theorem d_Rv_change_8 : decode b_Rv_change 8 = .ok (.bipush (-9), 2) := by decide +kernel
theorem d_Rv_change_10 : decode b_Rv_change 10 = .ok (.ireturn, 1) := by decide +kernel
theorem d_Rv_change_11 : decode b_Rv_change 11 = .ok (.aload_n 0, 1) := by decide +kernel
theorem d_Rv_change_12 : decode b_Rv_change 12 = .ok (.getfield 20, 3) := by decide +kernel
theorem d_Rv_change_15 : decode b_Rv_change 15 = .ok (.getfield 115, 3) := by decide +kernel
theorem d_Rv_change_18 : decode b_Rv_change 18 = .ok (.iload_n 2, 1) := by decide +kernel
theorem d_Rv_change_19 : decode b_Rv_change 19 = .ok (.iaload, 1) := by decide +kernel
theorem d_Rv_change_20 : decode b_Rv_change 20 = .ok (.istore 4, 2) := by decide +kernel
theorem d_Rv_change_22 : decode b_Rv_change 22 = .ok (.iload 4, 2) := by decide +kernel
theorem d_Rv_change_24 : decode b_Rv_change 24 = .ok (.ifCond .eq 24, 3) := by decide +kernel
theorem d_Rv_change_27 : decode b_Rv_change 27 = .ok (.aload_n 0, 1) := by decide +kernel
theorem d_Rv_change_28 : decode b_Rv_change 28 = .ok (.iload_n 1, 1) := by decide +kernel
theorem d_Rv_change_29 : decode b_Rv_change 29 = .ok (.invokevirtual 139, 3) := by decide +kernel
theorem d_Rv_change_32 : decode b_Rv_change 32 = .ok (.iload 4, 2) := by decide +kernel
theorem d_Rv_change_34 : decode b_Rv_change 34 = .ok (.invokestatic 124, 3) := by decide +kernel
theorem d_Rv_change_37 : decode b_Rv_change 37 = .ok (.ifCond .ne 11, 3) := by decide +kernel
theorem d_Rv_change_40 : decode b_Rv_change 40 = .ok (.new 146, 3) := by decide +kernel
theorem d_Rv_change_43 : decode b_Rv_change 43 = .ok (.dup, 1) := by decide +kernel
theorem d_Rv_change_44 : decode b_Rv_change 44 = .ok (.invokespecial 148, 3) := by decide +kernel
theorem d_Rv_change_47 : decode b_Rv_change 47 = .ok (.athrow, 1) := by decide +kernel
theorem d_Rv_change_48 : decode b_Rv_change 48 = .ok (.iload 4, 2) := by decide +kernel
theorem d_Rv_change_50 : decode b_Rv_change 50 = .ok (.ifCond .ne 17, 3) := by decide +kernel
theorem d_Rv_change_53 : decode b_Rv_change 53 = .ok (.aload_n 0, 1) := by decide +kernel
theorem d_Rv_change_54 : decode b_Rv_change 54 = .ok (.getfield 20, 3) := by decide +kernel
theorem d_Rv_change_57 : decode b_Rv_change 57 = .ok (.iload_n 2, 1) := by decide +kernel
theorem d_Rv_change_58 : decode b_Rv_change 58 = .ok (.iload_n 1, 1) := by decide +kernel
theorem d_Rv_change_59 : decode b_Rv_change 59 = .ok (.iload_n 3, 1) := by decide +kernel
theorem d_Rv_change_60 : decode b_Rv_change 60 = .ok (.iconst (-1), 1) := by decide +kernel
theorem d_Rv_change_61 : decode b_Rv_change 61 = .ok (.invokevirtual 149, 3) := by decide +kernel
theorem d_Rv_change_64 : decode b_Rv_change 64 = .ok (.goto 96, 3) := by decide +kernel
theorem d_Rv_change_67 : decode b_Rv_change 67 = .ok (.iload 4, 2) := by decide +kernel
theorem d_Rv_change_69 : decode b_Rv_change 69 = .ok (.iload_n 1, 1) := by decide +kernel
theorem d_Rv_change_70 : decode b_Rv_change 70 = .ok (.if_icmp .ne 16, 3) := by decide +kernel
theorem d_Rv_change_73 : decode b_Rv_change 73 = .ok (.aload_n 0, 1) := by decide +kernel
theorem d_Rv_change_74 : decode b_Rv_change 74 = .ok (.getfield 20, 3) := by decide +kernel
theorem d_Rv_change_77 : decode b_Rv_change 77 = .ok (.getfield 118, 3) := by decide +kernel
theorem d_Rv_change_80 : decode b_Rv_change 80 = .ok (.iload_n 2, 1) := by decide +kernel
theorem d_Rv_change_81 : decode b_Rv_change 81 = .ok (.iload_n 3, 1) := by decide +kernel
theorem d_Rv_change_82 : decode b_Rv_change 82 = .ok (.iastore, 1) := by decide +kernel
theorem d_Rv_change_83 : decode b_Rv_change 83 = .ok (.goto 77, 3) := by decide +kernel
theorem d_Rv_change_86 : decode b_Rv_change 86 = .ok (.aload_n 0, 1) := by decide +kernel
theorem d_Rv_change_87 : decode b_Rv_change 87 = .ok (.getfield 20, 3) := by decide +kernel
theorem d_Rv_change_90 : decode b_Rv_change 90 = .ok (.invokevirtual 153, 3) := by decide +kernel
theorem d_Rv_change_93 : decode b_Rv_change 93 = .ok (.istore 5, 2) := by decide +kernel
theorem d_Rv_change_95 : decode b_Rv_change 95 = .ok (.iload 5, 2) := by decide +kernel
theorem d_Rv_change_97 : decode b_Rv_change 97 = .ok (.iconst (-1), 1) := by decide +kernel
theorem d_Rv_change_98 : decode b_Rv_change 98 = .ok (.if_icmp .ne 11, 3) := by decide +kernel
theorem d_Rv_change_101 : decode b_Rv_change 101 = .ok (.new 156, 3) := by decide +kernel
theorem d_Rv_change_104 : decode b_Rv_change 104 = .ok (.dup, 1) := by decide +kernel
theorem d_Rv_change_105 : decode b_Rv_change 105 = .ok (.invokespecial 158, 3) := by decide +kernel
theorem d_Rv_change_108 : decode b_Rv_change 108 = .ok (.athrow, 1) := by decide +kernel
theorem d_Rv_change_109 : decode b_Rv_change 109 = .ok (.aload_n 0, 1) := by decide +kernel
theorem d_Rv_change_110 : decode b_Rv_change 110 = .ok (.getfield 12, 3) := by decide +kernel
theorem d_Rv_change_113 : decode b_Rv_change 113 = .ok (.iload 5, 2) := by decide +kernel
theorem d_Rv_change_115 : decode b_Rv_change 115 = .ok (.invokestatic 159, 3) := by decide +kernel
theorem d_Rv_change_118 : decode b_Rv_change 118 = .ok (.iload_n 2, 1) := by decide +kernel
theorem d_Rv_change_119 : decode b_Rv_change 119 = .ok (.invokestatic 159, 3) := by decide +kernel
theorem d_Rv_change_122 : decode b_Rv_change 122 = .ok (.invokevirtual 162, 3) := by decide +kernel
theorem d_Rv_change_125 : decode b_Rv_change 125 = .ok (.ifCond .ne 6, 3) := by decide +kernel
theorem d_Rv_change_128 : decode b_Rv_change 128 = .ok (.bipush (-9), 2) := by decide +kernel
theorem d_Rv_change_130 : decode b_Rv_change 130 = .ok (.ireturn, 1) := by decide +kernel
theorem d_Rv_change_131 : decode b_Rv_change 131 = .ok (.aload_n 0, 1) := by decide +kernel
theorem d_Rv_change_132 : decode b_Rv_change 132 = .ok (.getfield 20, 3) := by decide +kernel
theorem d_Rv_change_135 : decode b_Rv_change 135 = .ok (.iload_n 2, 1) := by decide +kernel
theorem d_Rv_change_136 : decode b_Rv_change 136 = .ok (.iload 5, 2) := by decide +kernel
theorem d_Rv_change_138 : decode b_Rv_change 138 = .ok (.invokevirtual 165, 3) := by decide +kernel
theorem d_Rv_change_141 : decode b_Rv_change 141 = .ok (.aload_n 0, 1) := by decide +kernel
theorem d_Rv_change_142 : decode b_Rv_change 142 = .ok (.getfield 20, 3) := by decide +kernel
theorem d_Rv_change_145 : decode b_Rv_change 145 = .ok (.iload_n 2, 1) := by decide +kernel
theorem d_Rv_change_146 : decode b_Rv_change 146 = .ok (.iload_n 1, 1) := by decide +kernel
theorem d_Rv_change_147 : decode b_Rv_change 147 = .ok (.iload_n 3, 1) := by decide +kernel
theorem d_Rv_change_148 : decode b_Rv_change 148 = .ok (.iload 5, 2) := by decide +kernel
theorem d_Rv_change_150 : decode b_Rv_change 150 = .ok (.invokevirtual 149, 3) := by decide +kernel
theorem d_Rv_change_153 : decode b_Rv_change 153 = .ok (.aload_n 0, 1) := by decide +kernel
theorem d_Rv_change_154 : decode b_Rv_change 154 = .ok (.iload_n 1, 1) := by decide +kernel
theorem d_Rv_change_155 : decode b_Rv_change 155 = .ok (.iload 5, 2) := by decide +kernel
theorem d_Rv_change_157 : decode b_Rv_change 157 = .ok (.invokevirtual 169, 3) := by decide +kernel
theorem d_Rv_change_160 : decode b_Rv_change 160 = .ok (.aload_n 0, 1) := by decide +kernel
theorem d_Rv_change_161 : decode b_Rv_change 161 = .ok (.iload_n 1, 1) := by decide +kernel
theorem d_Rv_change_162 : decode b_Rv_change 162 = .ok (.iload_n 2, 1) := by decide +kernel
theorem d_Rv_change_163 : decode b_Rv_change 163 = .ok (.invokevirtual 169, 3) := by decide +kernel
theorem d_Rv_change_166 : decode b_Rv_change 166 = .ok (.iconst 1, 1) := by decide +kernel
theorem d_Rv_change_167 : decode b_Rv_change 167 = .ok (.ireturn, 1) := by decide +kernel
theorem d_Rv_write_0 : decode b_Rv_write 0 = .ok (.iload_n 2, 1) := by decide +kernel
theorem d_Rv_write_1 : decode b_Rv_write 1 = .ok (.invokestatic 59, 3) := by decide +kernel
theorem d_Rv_write_4 : decode b_Rv_write 4 = .ok (.iload_n 3, 1) := by decide +kernel
theorem d_Rv_write_5 : decode b_Rv_write 5 = .ok (.ifCond .lt 9, 3) := by decide +kernel
theorem d_Rv_write_8 : decode b_Rv_write 8 = .ok (.iload_n 3, 1) := by decide +kernel
theorem d_Rv_write_9 : decode b_Rv_write 9 = .ok (.ldc 73, 2) := by decide +kernel
theorem d_Rv_write_11 : decode b_Rv_write 11 = .ok (.if_icmp .le 11, 3) := by decide +kernel
theorem d_Rv_write_14 : decode b_Rv_write 14 = .ok (.new 74, 3) := by decide +kernel
theorem d_Rv_write_17 : decode b_Rv_write 17 = .ok (.dup, 1) := by decide +kernel
theorem d_Rv_write_18 : decode b_Rv_write 18 = .ok (.invokespecial 76, 3) := by decide +kernel
theorem d_Rv_write_21 : decode b_Rv_write 21 = .ok (.athrow, 1) := by decide +kernel
theorem d_Rv_write_22 : decode b_Rv_write 22 = .ok (.aload_n 0, 1) := by decide +kernel
theorem d_Rv_write_23 : decode b_Rv_write 23 = .ok (.iload_n 1, 1) := by decide +kernel
theorem d_Rv_write_24 : decode b_Rv_write 24 = .ok (.invokevirtual 62, 3) := by decide +kernel
theorem d_Rv_write_27 : decode b_Rv_write 27 = .ok (.aload_n 0, 1) := by decide +kernel
theorem d_Rv_write_28 : decode b_Rv_write 28 = .ok (.iload_n 1, 1) := by decide +kernel
theorem d_Rv_write_29 : decode b_Rv_write 29 = .ok (.iload_n 2, 1) := by decide +kernel
theorem d_Rv_write_30 : decode b_Rv_write 30 = .ok (.iload_n 3, 1) := by decide +kernel
theorem d_Rv_write_31 : decode b_Rv_write 31 = .ok (.invokevirtual 77, 3) := by decide +kernel
theorem d_Rv_write_34 : decode b_Rv_write 34 = .ok (.ireturn, 1) := by decide +kernel
theorem d_Rv_erase_0 : decode b_Rv_erase 0 = .ok (.iload_n 2, 1) := by decide +kernel
theorem d_Rv_erase_1 : decode b_Rv_erase 1 = .ok (.invokestatic 59, 3) := by decide +kernel
theorem d_Rv_erase_4 : decode b_Rv_erase 4 = .ok (.aload_n 0, 1) := by decide +kernel
theorem d_Rv_erase_5 : decode b_Rv_erase 5 = .ok (.iload_n 1, 1) := by decide +kernel
theorem d_Rv_erase_6 : decode b_Rv_erase 6 = .ok (.invokevirtual 62, 3) := by decide +kernel
theorem d_Rv_erase_9 : decode b_Rv_erase 9 = .ok (.aload_n 0, 1) := by decide +kernel
theorem d_Rv_erase_10 : decode b_Rv_erase 10 = .ok (.getfield 20, 3) := by decide +kernel
theorem d_Rv_erase_13 : decode b_Rv_erase 13 = .ok (.aload_n 0, 1) := by decide +kernel
theorem d_Rv_erase_14 : decode b_Rv_erase 14 = .ok (.iload_n 1, 1) := by decide +kernel
theorem d_Rv_erase_15 : decode b_Rv_erase 15 = .ok (.iload_n 2, 1) := by decide +kernel
theorem d_Rv_erase_16 : decode b_Rv_erase 16 = .ok (.invokevirtual 65, 3) := by decide +kernel
theorem d_Rv_erase_19 : decode b_Rv_erase 19 = .ok (.invokestatic 69, 3) := by decide +kernel
theorem d_Rv_erase_22 : decode b_Rv_erase 22 = .ok (.pop, 1) := by decide +kernel
theorem d_Rv_erase_23 : decode b_Rv_erase 23 = .ok (.aload_n 0, 1) := by decide +kernel
theorem d_Rv_erase_24 : decode b_Rv_erase 24 = .ok (.iload_n 1, 1) := by decide +kernel
theorem d_Rv_erase_25 : decode b_Rv_erase 25 = .ok (.iload_n 2, 1) := by decide +kernel
theorem d_Rv_erase_26 : decode b_Rv_erase 26 = .ok (.iconst (-1), 1) := by decide +kernel
theorem d_Rv_erase_27 : decode b_Rv_erase 27 = .ok (.invokevirtual 77, 3) := by decide +kernel
theorem d_Rv_erase_30 : decode b_Rv_erase 30 = .ok (.ireturn, 1) := by decide +kernel
theorem d_Rv_commit_0 : decode b_Rv_commit 0 = .ok (.aload_n 0, 1) := by decide +kernel
theorem d_Rv_commit_1 : decode b_Rv_commit 1 = .ok (.iload_n 1, 1) := by decide +kernel
theorem d_Rv_commit_2 : decode b_Rv_commit 2 = .ok (.invokevirtual 62, 3) := by decide +kernel
theorem d_Rv_commit_5 : decode b_Rv_commit 5 = .ok (.aload_n 0, 1) := by decide +kernel
theorem d_Rv_commit_6 : decode b_Rv_commit 6 = .ok (.getfield 12, 3) := by decide +kernel
theorem d_Rv_commit_9 : decode b_Rv_commit 9 = .ok (.getfield 81, 3) := by decide +kernel
theorem d_Rv_commit_12 : decode b_Rv_commit 12 = .ok (.istore_n 2, 1) := by decide +kernel
theorem d_Rv_commit_13 : decode b_Rv_commit 13 = .ok (.aload_n 0, 1) := by decide +kernel
theorem d_Rv_commit_14 : decode b_Rv_commit 14 = .ok (.getfield 12, 3) := by decide +kernel
theorem d_Rv_commit_17 : decode b_Rv_commit 17 = .ok (.aload_n 0, 1) := by decide +kernel
theorem d_Rv_commit_18 : decode b_Rv_commit 18 = .ok (.getfield 25, 3) := by decide +kernel
theorem d_Rv_commit_21 : decode b_Rv_commit 21 = .ok (.iload_n 1, 1) := by decide +kernel
theorem d_Rv_commit_22 : decode b_Rv_commit 22 = .ok (.iaload, 1) := by decide +kernel
theorem d_Rv_commit_23 : decode b_Rv_commit 23 = .ok (.invokevirtual 85, 3) := by decide +kernel
theorem d_Rv_commit_26 : decode b_Rv_commit 26 = .ok (.ifCond .ne 6, 3) := by decide +kernel
theorem d_Rv_commit_29 : decode b_Rv_commit 29 = .ok (.bipush (-9), 2) := by decide +kernel
theorem d_Rv_commit_31 : decode b_Rv_commit 31 = .ok (.ireturn, 1) := by decide +kernel
theorem d_Rv_commit_32 : decode b_Rv_commit 32 = .ok (.aload_n 0, 1) := by decide +kernel
theorem d_Rv_commit_33 : decode b_Rv_commit 33 = .ok (.getfield 20, 3) := by decide +kernel
theorem d_Rv_commit_36 : decode b_Rv_commit 36 = .ok (.getfield 48, 3) := by decide +kernel
theorem d_Rv_commit_39 : decode b_Rv_commit 39 = .ok (.iload_n 1, 1) := by decide +kernel
theorem d_Rv_commit_40 : decode b_Rv_commit 40 = .ok (.iconst 2, 1) := by decide +kernel
theorem d_Rv_commit_41 : decode b_Rv_commit 41 = .ok (.iastore, 1) := by decide +kernel
theorem d_Rv_commit_42 : decode b_Rv_commit 42 = .ok (.aload_n 0, 1) := by decide +kernel
theorem d_Rv_commit_43 : decode b_Rv_commit 43 = .ok (.getfield 12, 3) := by decide +kernel
theorem d_Rv_commit_46 : decode b_Rv_commit 46 = .ok (.bipush 6, 2) := by decide +kernel
theorem d_Rv_commit_48 : decode b_Rv_commit 48 = .ok (.invokevirtual 51, 3) := by decide +kernel
theorem d_Rv_commit_51 : decode b_Rv_commit 51 = .ok (.aload_n 0, 1) := by decide +kernel
theorem d_Rv_commit_52 : decode b_Rv_commit 52 = .ok (.getfield 12, 3) := by decide +kernel
theorem d_Rv_commit_55 : decode b_Rv_commit 55 = .ok (.bipush 6, 2) := by decide +kernel
theorem d_Rv_commit_57 : decode b_Rv_commit 57 = .ok (.iconst 0, 1) := by decide +kernel
theorem d_Rv_commit_58 : decode b_Rv_commit 58 = .ok (.invokevirtual 55, 3) := by decide +kernel
theorem d_Rv_commit_61 : decode b_Rv_commit 61 = .ok (.ifCond .eq 15, 3) := by decide +kernel
theorem d_Rv_commit_64 : decode b_Rv_commit 64 = .ok (.aload_n 0, 1) := by decide +kernel
theorem d_Rv_commit_65 : decode b_Rv_commit 65 = .ok (.getfield 12, 3) := by decide +kernel
theorem d_Rv_commit_68 : decode b_Rv_commit 68 = .ok (.getfield 81, 3) := by decide +kernel
theorem d_Rv_commit_71 : decode b_Rv_commit 71 = .ok (.iload_n 2, 1) := by decide +kernel
theorem d_Rv_commit_72 : decode b_Rv_commit 72 = .ok (.isub, 1) := by decide +kernel
theorem d_Rv_commit_73 : decode b_Rv_commit 73 = .ok (.goto 5, 3) := by decide +kernel
theorem d_Rv_commit_76 : decode b_Rv_commit 76 = .ok (.bipush (-9), 2) := by decide +kernel
theorem d_Rv_commit_78 : decode b_Rv_commit 78 = .ok (.ireturn, 1) := by decide +kernel
theorem d_Rv_rollback_0 : decode b_Rv_rollback 0 = .ok (.aload_n 0, 1) := by decide +kernel
theorem d_Rv_rollback_1 : decode b_Rv_rollback 1 = .ok (.iload_n 1, 1) := by decide +kernel
theorem d_Rv_rollback_2 : decode b_Rv_rollback 2 = .ok (.invokevirtual 62, 3) := by decide +kernel
theorem d_Rv_rollback_5 : decode b_Rv_rollback 5 = .ok (.aload_n 0, 1) := by decide +kernel
theorem d_Rv_rollback_6 : decode b_Rv_rollback 6 = .ok (.getfield 20, 3) := by decide +kernel
theorem d_Rv_rollback_9 : decode b_Rv_rollback 9 = .ok (.getfield 48, 3) := by decide +kernel
theorem d_Rv_rollback_12 : decode b_Rv_rollback 12 = .ok (.iload_n 1, 1) := by decide +kernel
theorem d_Rv_rollback_13 : decode b_Rv_rollback 13 = .ok (.iconst 3, 1) := by decide +kernel
theorem d_Rv_rollback_14 : decode b_Rv_rollback 14 = .ok (.iastore, 1) := by decide +kernel
theorem d_Rv_rollback_15 : decode b_Rv_rollback 15 = .ok (.aload_n 0, 1) := by decide +kernel
theorem d_Rv_rollback_16 : decode b_Rv_rollback 16 = .ok (.getfield 12, 3) := by decide +kernel
theorem d_Rv_rollback_19 : decode b_Rv_rollback 19 = .ok (.bipush 6, 2) := by decide +kernel
theorem d_Rv_rollback_21 : decode b_Rv_rollback 21 = .ok (.invokevirtual 51, 3) := by decide +kernel
theorem d_Rv_rollback_24 : decode b_Rv_rollback 24 = .ok (.iconst 1, 1) := by decide +kernel
theorem d_Rv_rollback_25 : decode b_Rv_rollback 25 = .ok (.ireturn, 1) := by decide +kernel
theorem d_Rv_committedForAll_0 : decode b_Rv_committedForAll 0 = .ok (.aload_n 0, 1) := by decide +kernel
theorem d_Rv_committedForAll_1 : decode b_Rv_committedForAll 1 = .ok (.getfield 20, 3) := by decide +kernel
theorem d_Rv_committedForAll_4 : decode b_Rv_committedForAll 4 = .ok (.invokevirtual 44, 3) := by decide +kernel
theorem d_Rv_committedForAll_7 : decode b_Rv_committedForAll 7 = .ok (.lstore_n 1, 1) := by decide +kernel
theorem d_Rv_committedForAll_8 : decode b_Rv_committedForAll 8 = .ok (.iconst 1, 1) := by decide +kernel
theorem d_Rv_committedForAll_9 : decode b_Rv_committedForAll 9 = .ok (.istore_n 3, 1) := by decide +kernel
theorem d_Rv_committedForAll_10 : decode b_Rv_committedForAll 10 = .ok (.iload_n 3, 1) := by decide +kernel
theorem d_Rv_committedForAll_11 : decode b_Rv_committedForAll 11 = .ok (.bipush 40, 2) := by decide +kernel
theorem d_Rv_committedForAll_13 : decode b_Rv_committedForAll 13 = .ok (.if_icmp .gt 31, 3) := by decide +kernel
theorem d_Rv_committedForAll_16 : decode b_Rv_committedForAll 16 = .ok (.aload_n 0, 1) := by decide +kernel
theorem d_Rv_committedForAll_17 : decode b_Rv_committedForAll 17 = .ok (.getfield 20, 3) := by decide +kernel
theorem d_Rv_committedForAll_20 : decode b_Rv_committedForAll 20 = .ok (.getfield 48, 3) := by decide +kernel
theorem d_Rv_committedForAll_23 : decode b_Rv_committedForAll 23 = .ok (.iload_n 3, 1) := by decide +kernel
theorem d_Rv_committedForAll_24 : decode b_Rv_committedForAll 24 = .ok (.iaload, 1) := by decide +kernel
theorem d_Rv_committedForAll_25 : decode b_Rv_committedForAll 25 = .ok (.iconst 1, 1) := by decide +kernel
theorem d_Rv_committedForAll_26 : decode b_Rv_committedForAll 26 = .ok (.if_icmp .ne 12, 3) := by decide +kernel
theorem d_Rv_committedForAll_29 : decode b_Rv_committedForAll 29 = .ok (.lload_n 1, 1) := by decide +kernel
theorem d_Rv_committedForAll_30 : decode b_Rv_committedForAll 30 = .ok (.aload_n 0, 1) := by decide +kernel
theorem d_Rv_committedForAll_31 : decode b_Rv_committedForAll 31 = .ok (.getfield 21, 3) := by decide +kernel
theorem d_Rv_committedForAll_34 : decode b_Rv_committedForAll 34 = .ok (.iload_n 3, 1) := by decide +kernel
theorem d_Rv_committedForAll_35 : decode b_Rv_committedForAll 35 = .ok (.laload, 1) := by decide +kernel
theorem d_Rv_committedForAll_36 : decode b_Rv_committedForAll 36 = .ok (.land, 1) := by decide +kernel
theorem d_Rv_committedForAll_37 : decode b_Rv_committedForAll 37 = .ok (.lstore_n 1, 1) := by decide +kernel
theorem d_Rv_committedForAll_38 : decode b_Rv_committedForAll 38 = .ok (.iinc 3 1, 3) := by decide +kernel
theorem d_Rv_committedForAll_41 : decode b_Rv_committedForAll 41 = .ok (.goto (-31), 3) := by decide +kernel
theorem d_Rv_committedForAll_44 : decode b_Rv_committedForAll 44 = .ok (.lload_n 1, 1) := by decide +kernel
theorem d_Rv_committedForAll_45 : decode b_Rv_committedForAll 45 = .ok (.lreturn, 1) := by decide +kernel
theorem d_Rv_cutBehind_0 : decode b_Rv_cutBehind 0 = .ok (.aload_n 0, 1) := by decide +kernel
theorem d_Rv_cutBehind_1 : decode b_Rv_cutBehind 1 = .ok (.getfield 20, 3) := by decide +kernel
theorem d_Rv_cutBehind_4 : decode b_Rv_cutBehind 4 = .ok (.iload_n 2, 1) := by decide +kernel
theorem d_Rv_cutBehind_5 : decode b_Rv_cutBehind 5 = .ok (.aload_n 0, 1) := by decide +kernel
theorem d_Rv_cutBehind_6 : decode b_Rv_cutBehind 6 = .ok (.getfield 29, 3) := by decide +kernel
theorem d_Rv_cutBehind_9 : decode b_Rv_cutBehind 9 = .ok (.invokevirtual 187, 3) := by decide +kernel
theorem d_Rv_cutBehind_12 : decode b_Rv_cutBehind 12 = .ok (.istore_n 3, 1) := by decide +kernel
theorem d_Rv_cutBehind_13 : decode b_Rv_cutBehind 13 = .ok (.aload_n 0, 1) := by decide +kernel
theorem d_Rv_cutBehind_14 : decode b_Rv_cutBehind 14 = .ok (.getfield 20, 3) := by decide +kernel
theorem d_Rv_cutBehind_17 : decode b_Rv_cutBehind 17 = .ok (.getfield 175, 3) := by decide +kernel
theorem d_Rv_cutBehind_20 : decode b_Rv_cutBehind 20 = .ok (.iload_n 2, 1) := by decide +kernel
theorem d_Rv_cutBehind_21 : decode b_Rv_cutBehind 21 = .ok (.iaload, 1) := by decide +kernel
theorem d_Rv_cutBehind_22 : decode b_Rv_cutBehind 22 = .ok (.iconst (-1), 1) := by decide +kernel
theorem d_Rv_cutBehind_23 : decode b_Rv_cutBehind 23 = .ok (.if_icmp .eq 24, 3) := by decide +kernel
theorem d_Rv_cutBehind_26 : decode b_Rv_cutBehind 26 = .ok (.aload_n 0, 1) := by decide +kernel
theorem d_Rv_cutBehind_27 : decode b_Rv_cutBehind 27 = .ok (.getfield 20, 3) := by decide +kernel
theorem d_Rv_cutBehind_30 : decode b_Rv_cutBehind 30 = .ok (.getfield 175, 3) := by decide +kernel
theorem d_Rv_cutBehind_33 : decode b_Rv_cutBehind 33 = .ok (.iload_n 2, 1) := by decide +kernel
theorem d_Rv_cutBehind_34 : decode b_Rv_cutBehind 34 = .ok (.iconst (-1), 1) := by decide +kernel
theorem d_Rv_cutBehind_35 : decode b_Rv_cutBehind 35 = .ok (.iastore, 1) := by decide +kernel
theorem d_Rv_cutBehind_36 : decode b_Rv_cutBehind 36 = .ok (.aload_n 0, 1) := by decide +kernel
theorem d_Rv_cutBehind_37 : decode b_Rv_cutBehind 37 = .ok (.getfield 12, 3) := by decide +kernel
theorem d_Rv_cutBehind_40 : decode b_Rv_cutBehind 40 = .ok (.iload_n 2, 1) := by decide +kernel
theorem d_Rv_cutBehind_41 : decode b_Rv_cutBehind 41 = .ok (.invokestatic 159, 3) := by decide +kernel
theorem d_Rv_cutBehind_44 : decode b_Rv_cutBehind 44 = .ok (.invokevirtual 51, 3) := by decide +kernel
theorem d_Rv_cutBehind_47 : decode b_Rv_cutBehind 47 = .ok (.iconst 0, 1) := by decide +kernel
theorem d_Rv_cutBehind_48 : decode b_Rv_cutBehind 48 = .ok (.istore 4, 2) := by decide +kernel
theorem d_Rv_cutBehind_50 : decode b_Rv_cutBehind 50 = .ok (.iload 4, 2) := by decide +kernel
theorem d_Rv_cutBehind_52 : decode b_Rv_cutBehind 52 = .ok (.iload_n 3, 1) := by decide +kernel
theorem d_Rv_cutBehind_53 : decode b_Rv_cutBehind 53 = .ok (.if_icmp .ge 80, 3) := by decide +kernel
theorem d_Rv_cutBehind_56 : decode b_Rv_cutBehind 56 = .ok (.aload_n 0, 1) := by decide +kernel
theorem d_Rv_cutBehind_57 : decode b_Rv_cutBehind 57 = .ok (.getfield 29, 3) := by decide +kernel
theorem d_Rv_cutBehind_60 : decode b_Rv_cutBehind 60 = .ok (.iload 4, 2) := by decide +kernel
theorem d_Rv_cutBehind_62 : decode b_Rv_cutBehind 62 = .ok (.iaload, 1) := by decide +kernel
theorem d_Rv_cutBehind_63 : decode b_Rv_cutBehind 63 = .ok (.istore 5, 2) := by decide +kernel
theorem d_Rv_cutBehind_65 : decode b_Rv_cutBehind 65 = .ok (.aload_n 0, 1) := by decide +kernel
theorem d_Rv_cutBehind_66 : decode b_Rv_cutBehind 66 = .ok (.getfield 12, 3) := by decide +kernel
theorem d_Rv_cutBehind_69 : decode b_Rv_cutBehind 69 = .ok (.iload_n 1, 1) := by decide +kernel
theorem d_Rv_cutBehind_70 : decode b_Rv_cutBehind 70 = .ok (.invokestatic 159, 3) := by decide +kernel
theorem d_Rv_cutBehind_73 : decode b_Rv_cutBehind 73 = .ok (.iload 5, 2) := by decide +kernel
theorem d_Rv_cutBehind_75 : decode b_Rv_cutBehind 75 = .ok (.invokestatic 159, 3) := by decide +kernel
theorem d_Rv_cutBehind_78 : decode b_Rv_cutBehind 78 = .ok (.invokevirtual 162, 3) := by decide +kernel
theorem d_Rv_cutBehind_81 : decode b_Rv_cutBehind 81 = .ok (.ifCond .eq 22, 3) := by decide +kernel
theorem d_Rv_cutBehind_84 : decode b_Rv_cutBehind 84 = .ok (.aload_n 0, 1) := by decide +kernel
theorem d_Rv_cutBehind_85 : decode b_Rv_cutBehind 85 = .ok (.getfield 12, 3) := by decide +kernel
theorem d_Rv_cutBehind_88 : decode b_Rv_cutBehind 88 = .ok (.iload_n 2, 1) := by decide +kernel
theorem d_Rv_cutBehind_89 : decode b_Rv_cutBehind 89 = .ok (.invokestatic 159, 3) := by decide +kernel
theorem d_Rv_cutBehind_92 : decode b_Rv_cutBehind 92 = .ok (.iload 5, 2) := by decide +kernel
theorem d_Rv_cutBehind_94 : decode b_Rv_cutBehind 94 = .ok (.invokestatic 159, 3) := by decide +kernel
theorem d_Rv_cutBehind_97 : decode b_Rv_cutBehind 97 = .ok (.invokevirtual 162, 3) := by decide +kernel
theorem d_Rv_cutBehind_100 : decode b_Rv_cutBehind 100 = .ok (.ifCond .ne 6, 3) := by decide +kernel
theorem d_Rv_cutBehind_103 : decode b_Rv_cutBehind 103 = .ok (.bipush (-9), 2) := by decide +kernel
theorem d_Rv_cutBehind_105 : decode b_Rv_cutBehind 105 = .ok (.ireturn, 1) := by decide +kernel
theorem d_Rv_cutBehind_106 : decode b_Rv_cutBehind 106 = .ok (.aload_n 0, 1) := by decide +kernel
theorem d_Rv_cutBehind_107 : decode b_Rv_cutBehind 107 = .ok (.getfield 20, 3) := by decide +kernel
theorem d_Rv_cutBehind_110 : decode b_Rv_cutBehind 110 = .ok (.iload 5, 2) := by decide +kernel
theorem d_Rv_cutBehind_112 : decode b_Rv_cutBehind 112 = .ok (.invokevirtual 178, 3) := by decide +kernel
theorem d_Rv_cutBehind_115 : decode b_Rv_cutBehind 115 = .ok (.aload_n 0, 1) := by decide +kernel
theorem d_Rv_cutBehind_116 : decode b_Rv_cutBehind 116 = .ok (.getfield 12, 3) := by decide +kernel
theorem d_Rv_cutBehind_119 : decode b_Rv_cutBehind 119 = .ok (.iload 5, 2) := by decide +kernel
theorem d_Rv_cutBehind_121 : decode b_Rv_cutBehind 121 = .ok (.invokestatic 159, 3) := by decide +kernel
theorem d_Rv_cutBehind_124 : decode b_Rv_cutBehind 124 = .ok (.invokevirtual 51, 3) := by decide +kernel
theorem d_Rv_cutBehind_127 : decode b_Rv_cutBehind 127 = .ok (.iinc 4 1, 3) := by decide +kernel
theorem d_Rv_cutBehind_130 : decode b_Rv_cutBehind 130 = .ok (.goto (-80), 3) := by decide +kernel
theorem d_Rv_cutBehind_133 : decode b_Rv_cutBehind 133 = .ok (.iload_n 3, 1) := by decide +kernel
theorem d_Rv_cutBehind_134 : decode b_Rv_cutBehind 134 = .ok (.ireturn, 1) := by decide +kernel
theorem d_Rv_sweepRecord_0 : decode b_Rv_sweepRecord 0 = .ok (.aload_n 0, 1) := by decide +kernel
theorem d_Rv_sweepRecord_1 : decode b_Rv_sweepRecord 1 = .ok (.iload_n 1, 1) := by decide +kernel
theorem d_Rv_sweepRecord_2 : decode b_Rv_sweepRecord 2 = .ok (.invokevirtual 143, 3) := by decide +kernel
theorem d_Rv_sweepRecord_5 : decode b_Rv_sweepRecord 5 = .ok (.ifCond .ne 6, 3) := by decide +kernel
theorem d_Rv_sweepRecord_8 : decode b_Rv_sweepRecord 8 = .ok (.bipush (-9), 2) := by decide +kernel
theorem d_Rv_sweepRecord_10 : decode b_Rv_sweepRecord 10 = .ok (.ireturn, 1) := by decide +kernel
theorem d_Rv_sweepRecord_11 : decode b_Rv_sweepRecord 11 = .ok (.aload_n 0, 1) := by decide +kernel
theorem d_Rv_sweepRecord_12 : decode b_Rv_sweepRecord 12 = .ok (.getfield 20, 3) := by decide +kernel
theorem d_Rv_sweepRecord_15 : decode b_Rv_sweepRecord 15 = .ok (.aload_n 0, 1) := by decide +kernel
theorem d_Rv_sweepRecord_16 : decode b_Rv_sweepRecord 16 = .ok (.invokevirtual 181, 3) := by decide +kernel
theorem d_Rv_sweepRecord_19 : decode b_Rv_sweepRecord 19 = .ok (.iload_n 1, 1) := by decide +kernel
theorem d_Rv_sweepRecord_20 : decode b_Rv_sweepRecord 20 = .ok (.invokevirtual 105, 3) := by decide +kernel
theorem d_Rv_sweepRecord_23 : decode b_Rv_sweepRecord 23 = .ok (.istore_n 2, 1) := by decide +kernel
theorem d_Rv_sweepRecord_24 : decode b_Rv_sweepRecord 24 = .ok (.iload_n 2, 1) := by decide +kernel
theorem d_Rv_sweepRecord_25 : decode b_Rv_sweepRecord 25 = .ok (.iconst (-1), 1) := by decide +kernel
theorem d_Rv_sweepRecord_26 : decode b_Rv_sweepRecord 26 = .ok (.if_icmp .ne 5, 3) := by decide +kernel
theorem d_Rv_sweepRecord_29 : decode b_Rv_sweepRecord 29 = .ok (.iconst 0, 1) := by decide +kernel
theorem d_Rv_sweepRecord_30 : decode b_Rv_sweepRecord 30 = .ok (.ireturn, 1) := by decide +kernel
theorem d_Rv_sweepRecord_31 : decode b_Rv_sweepRecord 31 = .ok (.aload_n 0, 1) := by decide +kernel
theorem d_Rv_sweepRecord_32 : decode b_Rv_sweepRecord 32 = .ok (.iload_n 1, 1) := by decide +kernel
theorem d_Rv_sweepRecord_33 : decode b_Rv_sweepRecord 33 = .ok (.iload_n 2, 1) := by decide +kernel
theorem d_Rv_sweepRecord_34 : decode b_Rv_sweepRecord 34 = .ok (.invokevirtual 184, 3) := by decide +kernel
theorem d_Rv_sweepRecord_37 : decode b_Rv_sweepRecord 37 = .ok (.istore_n 3, 1) := by decide +kernel
theorem d_Rv_sweepRecord_38 : decode b_Rv_sweepRecord 38 = .ok (.iload_n 3, 1) := by decide +kernel
theorem d_Rv_sweepRecord_39 : decode b_Rv_sweepRecord 39 = .ok (.bipush (-9), 2) := by decide +kernel
theorem d_Rv_sweepRecord_41 : decode b_Rv_sweepRecord 41 = .ok (.if_icmp .eq 40, 3) := by decide +kernel
theorem d_Rv_sweepRecord_44 : decode b_Rv_sweepRecord 44 = .ok (.iload_n 2, 1) := by decide +kernel
theorem d_Rv_sweepRecord_45 : decode b_Rv_sweepRecord 45 = .ok (.iload_n 1, 1) := by decide +kernel
theorem d_Rv_sweepRecord_46 : decode b_Rv_sweepRecord 46 = .ok (.if_icmp .ne 35, 3) := by decide +kernel
theorem d_Rv_sweepRecord_49 : decode b_Rv_sweepRecord 49 = .ok (.aload_n 0, 1) := by decide +kernel
theorem d_Rv_sweepRecord_50 : decode b_Rv_sweepRecord 50 = .ok (.getfield 20, 3) := by decide +kernel
theorem d_Rv_sweepRecord_53 : decode b_Rv_sweepRecord 53 = .ok (.getfield 118, 3) := by decide +kernel
theorem d_Rv_sweepRecord_56 : decode b_Rv_sweepRecord 56 = .ok (.iload_n 1, 1) := by decide +kernel
theorem d_Rv_sweepRecord_57 : decode b_Rv_sweepRecord 57 = .ok (.iaload, 1) := by decide +kernel
theorem d_Rv_sweepRecord_58 : decode b_Rv_sweepRecord 58 = .ok (.iconst (-1), 1) := by decide +kernel
theorem d_Rv_sweepRecord_59 : decode b_Rv_sweepRecord 59 = .ok (.if_icmp .ne 22, 3) := by decide +kernel
theorem d_Rv_sweepRecord_62 : decode b_Rv_sweepRecord 62 = .ok (.aload_n 0, 1) := by decide +kernel
theorem d_Rv_sweepRecord_63 : decode b_Rv_sweepRecord 63 = .ok (.getfield 20, 3) := by decide +kernel
theorem d_Rv_sweepRecord_66 : decode b_Rv_sweepRecord 66 = .ok (.iload_n 1, 1) := by decide +kernel
theorem d_Rv_sweepRecord_67 : decode b_Rv_sweepRecord 67 = .ok (.invokevirtual 178, 3) := by decide +kernel
theorem d_Rv_sweepRecord_70 : decode b_Rv_sweepRecord 70 = .ok (.aload_n 0, 1) := by decide +kernel
theorem d_Rv_sweepRecord_71 : decode b_Rv_sweepRecord 71 = .ok (.getfield 12, 3) := by decide +kernel
theorem d_Rv_sweepRecord_74 : decode b_Rv_sweepRecord 74 = .ok (.iload_n 1, 1) := by decide +kernel
theorem d_Rv_sweepRecord_75 : decode b_Rv_sweepRecord 75 = .ok (.invokestatic 159, 3) := by decide +kernel
theorem d_Rv_sweepRecord_78 : decode b_Rv_sweepRecord 78 = .ok (.invokevirtual 51, 3) := by decide +kernel
theorem d_Rv_sweepRecord_81 : decode b_Rv_sweepRecord 81 = .ok (.iload_n 3, 1) := by decide +kernel
theorem d_Rv_sweepRecord_82 : decode b_Rv_sweepRecord 82 = .ok (.ireturn, 1) := by decide +kernel
theorem d_Rv_sweep_0 : decode b_Rv_sweep 0 = .ok (.iconst 0, 1) := by decide +kernel
theorem d_Rv_sweep_1 : decode b_Rv_sweep 1 = .ok (.istore_n 1, 1) := by decide +kernel
theorem d_Rv_sweep_2 : decode b_Rv_sweep 2 = .ok (.iconst 0, 1) := by decide +kernel
theorem d_Rv_sweep_3 : decode b_Rv_sweep 3 = .ok (.istore_n 2, 1) := by decide +kernel
theorem d_Rv_sweep_4 : decode b_Rv_sweep 4 = .ok (.iload_n 2, 1) := by decide +kernel
theorem d_Rv_sweep_5 : decode b_Rv_sweep 5 = .ok (.bipush 6, 2) := by decide +kernel
theorem d_Rv_sweep_7 : decode b_Rv_sweep 7 = .ok (.if_icmp .ge 28, 3) := by decide +kernel
theorem d_Rv_sweep_10 : decode b_Rv_sweep 10 = .ok (.aload_n 0, 1) := by decide +kernel
theorem d_Rv_sweep_11 : decode b_Rv_sweep 11 = .ok (.iload_n 2, 1) := by decide +kernel
theorem d_Rv_sweep_12 : decode b_Rv_sweep 12 = .ok (.invokevirtual 89, 3) := by decide +kernel
theorem d_Rv_sweep_15 : decode b_Rv_sweep 15 = .ok (.istore_n 3, 1) := by decide +kernel
theorem d_Rv_sweep_16 : decode b_Rv_sweep 16 = .ok (.iload_n 3, 1) := by decide +kernel
theorem d_Rv_sweep_17 : decode b_Rv_sweep 17 = .ok (.bipush (-9), 2) := by decide +kernel
theorem d_Rv_sweep_19 : decode b_Rv_sweep 19 = .ok (.if_icmp .ne 6, 3) := by decide +kernel
theorem d_Rv_sweep_22 : decode b_Rv_sweep 22 = .ok (.bipush (-9), 2) := by decide +kernel
theorem d_Rv_sweep_24 : decode b_Rv_sweep 24 = .ok (.ireturn, 1) := by decide +kernel
theorem d_Rv_sweep_25 : decode b_Rv_sweep 25 = .ok (.iload_n 1, 1) := by decide +kernel
theorem d_Rv_sweep_26 : decode b_Rv_sweep 26 = .ok (.iload_n 3, 1) := by decide +kernel
theorem d_Rv_sweep_27 : decode b_Rv_sweep 27 = .ok (.iadd, 1) := by decide +kernel
theorem d_Rv_sweep_28 : decode b_Rv_sweep 28 = .ok (.istore_n 1, 1) := by decide +kernel
theorem d_Rv_sweep_29 : decode b_Rv_sweep 29 = .ok (.iinc 2 1, 3) := by decide +kernel
theorem d_Rv_sweep_32 : decode b_Rv_sweep 32 = .ok (.goto (-28), 3) := by decide +kernel
theorem d_Rv_sweep_35 : decode b_Rv_sweep 35 = .ok (.iload_n 1, 1) := by decide +kernel
theorem d_Rv_sweep_36 : decode b_Rv_sweep 36 = .ok (.ireturn, 1) := by decide +kernel
theorem d_Rv_flush_0 : decode b_Rv_flush 0 = .ok (.aload_n 0, 1) := by decide +kernel
theorem d_Rv_flush_1 : decode b_Rv_flush 1 = .ok (.getfield 12, 3) := by decide +kernel
theorem d_Rv_flush_4 : decode b_Rv_flush 4 = .ok (.getfield 81, 3) := by decide +kernel
theorem d_Rv_flush_7 : decode b_Rv_flush 7 = .ok (.istore_n 1, 1) := by decide +kernel
theorem d_Rv_flush_8 : decode b_Rv_flush 8 = .ok (.aload_n 0, 1) := by decide +kernel
theorem d_Rv_flush_9 : decode b_Rv_flush 9 = .ok (.getfield 12, 3) := by decide +kernel
theorem d_Rv_flush_12 : decode b_Rv_flush 12 = .ok (.aload_n 0, 1) := by decide +kernel
theorem d_Rv_flush_13 : decode b_Rv_flush 13 = .ok (.getfield 12, 3) := by decide +kernel
theorem d_Rv_flush_16 : decode b_Rv_flush 16 = .ok (.getfield 93, 3) := by decide +kernel
theorem d_Rv_flush_19 : decode b_Rv_flush 19 = .ok (.invokevirtual 85, 3) := by decide +kernel
theorem d_Rv_flush_22 : decode b_Rv_flush 22 = .ok (.ifCond .eq 15, 3) := by decide +kernel
theorem d_Rv_flush_25 : decode b_Rv_flush 25 = .ok (.aload_n 0, 1) := by decide +kernel
theorem d_Rv_flush_26 : decode b_Rv_flush 26 = .ok (.getfield 12, 3) := by decide +kernel
theorem d_Rv_flush_29 : decode b_Rv_flush 29 = .ok (.getfield 81, 3) := by decide +kernel
theorem d_Rv_flush_32 : decode b_Rv_flush 32 = .ok (.iload_n 1, 1) := by decide +kernel
theorem d_Rv_flush_33 : decode b_Rv_flush 33 = .ok (.isub, 1) := by decide +kernel
theorem d_Rv_flush_34 : decode b_Rv_flush 34 = .ok (.goto 5, 3) := by decide +kernel
theorem d_Rv_flush_37 : decode b_Rv_flush 37 = .ok (.bipush (-9), 2) := by decide +kernel
theorem d_Rv_flush_39 : decode b_Rv_flush 39 = .ok (.ireturn, 1) := by decide +kernel
theorem d_Rv_fail_0 : decode b_Rv_fail 0 = .ok (.iload_n 1, 1) := by decide +kernel
theorem d_Rv_fail_1 : decode b_Rv_fail 1 = .ok (.ifCond .lt 9, 3) := by decide +kernel
theorem d_Rv_fail_4 : decode b_Rv_fail 4 = .ok (.iload_n 1, 1) := by decide +kernel
theorem d_Rv_fail_5 : decode b_Rv_fail 5 = .ok (.bipush 50, 2) := by decide +kernel
theorem d_Rv_fail_7 : decode b_Rv_fail 7 = .ok (.if_icmp .le 11, 3) := by decide +kernel
theorem d_Rv_fail_10 : decode b_Rv_fail 10 = .ok (.new 74, 3) := by decide +kernel
theorem d_Rv_fail_13 : decode b_Rv_fail 13 = .ok (.dup, 1) := by decide +kernel
theorem d_Rv_fail_14 : decode b_Rv_fail 14 = .ok (.invokespecial 76, 3) := by decide +kernel
theorem d_Rv_fail_17 : decode b_Rv_fail 17 = .ok (.athrow, 1) := by decide +kernel
theorem d_Rv_fail_18 : decode b_Rv_fail 18 = .ok (.aload_n 0, 1) := by decide +kernel
theorem d_Rv_fail_19 : decode b_Rv_fail 19 = .ok (.getfield 12, 3) := by decide +kernel
theorem d_Rv_fail_22 : decode b_Rv_fail 22 = .ok (.getfield 96, 3) := by decide +kernel
theorem d_Rv_fail_25 : decode b_Rv_fail 25 = .ok (.istore_n 2, 1) := by decide +kernel
theorem d_Rv_fail_26 : decode b_Rv_fail 26 = .ok (.aload_n 0, 1) := by decide +kernel
theorem d_Rv_fail_27 : decode b_Rv_fail 27 = .ok (.getfield 12, 3) := by decide +kernel
theorem d_Rv_fail_30 : decode b_Rv_fail 30 = .ok (.iload_n 1, 1) := by decide +kernel
theorem d_Rv_fail_31 : decode b_Rv_fail 31 = .ok (.putfield 96, 3) := by decide +kernel
theorem d_Rv_fail_34 : decode b_Rv_fail 34 = .ok (.iload_n 2, 1) := by decide +kernel
theorem d_Rv_fail_35 : decode b_Rv_fail 35 = .ok (.ireturn, 1) := by decide +kernel
theorem d_Rv_crash_0 : decode b_Rv_crash 0 = .ok (.aload_n 0, 1) := by decide +kernel
theorem d_Rv_crash_1 : decode b_Rv_crash 1 = .ok (.getfield 20, 3) := by decide +kernel
theorem d_Rv_crash_4 : decode b_Rv_crash 4 = .ok (.invokevirtual 38, 3) := by decide +kernel
theorem d_Rv_crash_7 : decode b_Rv_crash 7 = .ok (.istore_n 1, 1) := by decide +kernel
theorem d_Rv_crash_8 : decode b_Rv_crash 8 = .ok (.aload_n 0, 1) := by decide +kernel
theorem d_Rv_crash_9 : decode b_Rv_crash 9 = .ok (.getfield 12, 3) := by decide +kernel
theorem d_Rv_crash_12 : decode b_Rv_crash 12 = .ok (.invokevirtual 99, 3) := by decide +kernel
theorem d_Rv_crash_15 : decode b_Rv_crash 15 = .ok (.iload_n 1, 1) := by decide +kernel
theorem d_Rv_crash_16 : decode b_Rv_crash 16 = .ok (.ireturn, 1) := by decide +kernel
theorem d_Rv_image_0 : decode b_Rv_image 0 = .ok (.iload_n 1, 1) := by decide +kernel
theorem d_Rv_image_1 : decode b_Rv_image 1 = .ok (.invokestatic 59, 3) := by decide +kernel
theorem d_Rv_image_4 : decode b_Rv_image 4 = .ok (.aload_n 0, 1) := by decide +kernel
theorem d_Rv_image_5 : decode b_Rv_image 5 = .ok (.getfield 12, 3) := by decide +kernel
theorem d_Rv_image_8 : decode b_Rv_image 8 = .ok (.getfield 102, 3) := by decide +kernel
theorem d_Rv_image_11 : decode b_Rv_image 11 = .ok (.aload_n 0, 1) := by decide +kernel
theorem d_Rv_image_12 : decode b_Rv_image 12 = .ok (.getfield 12, 3) := by decide +kernel
theorem d_Rv_image_15 : decode b_Rv_image 15 = .ok (.getfield 102, 3) := by decide +kernel
theorem d_Rv_image_18 : decode b_Rv_image 18 = .ok (.aload_n 0, 1) := by decide +kernel
theorem d_Rv_image_19 : decode b_Rv_image 19 = .ok (.getfield 12, 3) := by decide +kernel
theorem d_Rv_image_22 : decode b_Rv_image 22 = .ok (.getfield 102, 3) := by decide +kernel
theorem d_Rv_image_25 : decode b_Rv_image 25 = .ok (.invokevirtual 44, 3) := by decide +kernel
theorem d_Rv_image_28 : decode b_Rv_image 28 = .ok (.iload_n 1, 1) := by decide +kernel
theorem d_Rv_image_29 : decode b_Rv_image 29 = .ok (.invokevirtual 105, 3) := by decide +kernel
theorem d_Rv_image_32 : decode b_Rv_image 32 = .ok (.invokestatic 69, 3) := by decide +kernel
theorem d_Rv_image_35 : decode b_Rv_image 35 = .ok (.ireturn, 1) := by decide +kernel
theorem d_Rv_state_0 : decode b_Rv_state 0 = .ok (.iload_n 1, 1) := by decide +kernel
theorem d_Rv_state_1 : decode b_Rv_state 1 = .ok (.iconst 1, 1) := by decide +kernel
theorem d_Rv_state_2 : decode b_Rv_state 2 = .ok (.if_icmp .lt 9, 3) := by decide +kernel
theorem d_Rv_state_5 : decode b_Rv_state 5 = .ok (.iload_n 1, 1) := by decide +kernel
theorem d_Rv_state_6 : decode b_Rv_state 6 = .ok (.bipush 40, 2) := by decide +kernel
theorem d_Rv_state_8 : decode b_Rv_state 8 = .ok (.if_icmp .le 11, 3) := by decide +kernel
theorem d_Rv_state_11 : decode b_Rv_state 11 = .ok (.new 74, 3) := by decide +kernel
theorem d_Rv_state_14 : decode b_Rv_state 14 = .ok (.dup, 1) := by decide +kernel
theorem d_Rv_state_15 : decode b_Rv_state 15 = .ok (.invokespecial 76, 3) := by decide +kernel
theorem d_Rv_state_18 : decode b_Rv_state 18 = .ok (.athrow, 1) := by decide +kernel
theorem d_Rv_state_19 : decode b_Rv_state 19 = .ok (.aload_n 0, 1) := by decide +kernel
theorem d_Rv_state_20 : decode b_Rv_state 20 = .ok (.getfield 20, 3) := by decide +kernel
theorem d_Rv_state_23 : decode b_Rv_state 23 = .ok (.getfield 48, 3) := by decide +kernel
theorem d_Rv_state_26 : decode b_Rv_state 26 = .ok (.iload_n 1, 1) := by decide +kernel
theorem d_Rv_state_27 : decode b_Rv_state 27 = .ok (.iaload, 1) := by decide +kernel
theorem d_Rv_state_28 : decode b_Rv_state 28 = .ok (.ireturn, 1) := by decide +kernel
theorem d_Rv_version_0 : decode b_Rv_version 0 = .ok (.iload_n 1, 1) := by decide +kernel
theorem d_Rv_version_1 : decode b_Rv_version 1 = .ok (.invokestatic 59, 3) := by decide +kernel
theorem d_Rv_version_4 : decode b_Rv_version 4 = .ok (.iload_n 3, 1) := by decide +kernel
theorem d_Rv_version_5 : decode b_Rv_version 5 = .ok (.ifCond .lt 8, 3) := by decide +kernel
theorem d_Rv_version_8 : decode b_Rv_version 8 = .ok (.iload_n 3, 1) := by decide +kernel
theorem d_Rv_version_9 : decode b_Rv_version 9 = .ok (.iconst 2, 1) := by decide +kernel
theorem d_Rv_version_10 : decode b_Rv_version 10 = .ok (.if_icmp .le 11, 3) := by decide +kernel
theorem d_Rv_version_13 : decode b_Rv_version 13 = .ok (.new 74, 3) := by decide +kernel
theorem d_Rv_version_16 : decode b_Rv_version 16 = .ok (.dup, 1) := by decide +kernel
theorem d_Rv_version_17 : decode b_Rv_version 17 = .ok (.invokespecial 76, 3) := by decide +kernel
theorem d_Rv_version_20 : decode b_Rv_version 20 = .ok (.athrow, 1) := by decide +kernel
theorem d_Rv_version_21 : decode b_Rv_version 21 = .ok (.aload_n 0, 1) := by decide +kernel
theorem d_Rv_version_22 : decode b_Rv_version 22 = .ok (.getfield 20, 3) := by decide +kernel
theorem d_Rv_version_25 : decode b_Rv_version 25 = .ok (.iload_n 1, 1) := by decide +kernel
theorem d_Rv_version_26 : decode b_Rv_version 26 = .ok (.iload_n 2, 1) := by decide +kernel
theorem d_Rv_version_27 : decode b_Rv_version 27 = .ok (.invokevirtual 109, 3) := by decide +kernel
theorem d_Rv_version_30 : decode b_Rv_version 30 = .ok (.istore 4, 2) := by decide +kernel
theorem d_Rv_version_32 : decode b_Rv_version 32 = .ok (.iload 4, 2) := by decide +kernel
theorem d_Rv_version_34 : decode b_Rv_version 34 = .ok (.iconst (-1), 1) := by decide +kernel
theorem d_Rv_version_35 : decode b_Rv_version 35 = .ok (.if_icmp .ne 11, 3) := by decide +kernel
theorem d_Rv_version_38 : decode b_Rv_version 38 = .ok (.new 112, 3) := by decide +kernel
theorem d_Rv_version_41 : decode b_Rv_version 41 = .ok (.dup, 1) := by decide +kernel
theorem d_Rv_version_42 : decode b_Rv_version 42 = .ok (.invokespecial 114, 3) := by decide +kernel
theorem d_Rv_version_45 : decode b_Rv_version 45 = .ok (.athrow, 1) := by decide +kernel
theorem d_Rv_version_46 : decode b_Rv_version 46 = .ok (.iload_n 3, 1) := by decide +kernel
theorem d_Rv_version_47 : decode b_Rv_version 47 = .ok (.ifCond .ne 14, 3) := by decide +kernel
theorem d_Rv_version_50 : decode b_Rv_version 50 = .ok (.aload_n 0, 1) := by decide +kernel
theorem d_Rv_version_51 : decode b_Rv_version 51 = .ok (.getfield 20, 3) := by decide +kernel
theorem d_Rv_version_54 : decode b_Rv_version 54 = .ok (.getfield 115, 3) := by decide +kernel
theorem d_Rv_version_57 : decode b_Rv_version 57 = .ok (.iload 4, 2) := by decide +kernel
theorem d_Rv_version_59 : decode b_Rv_version 59 = .ok (.iaload, 1) := by decide +kernel
theorem d_Rv_version_60 : decode b_Rv_version 60 = .ok (.ireturn, 1) := by decide +kernel
theorem d_Rv_version_61 : decode b_Rv_version 61 = .ok (.iload_n 3, 1) := by decide +kernel
theorem d_Rv_version_62 : decode b_Rv_version 62 = .ok (.iconst 1, 1) := by decide +kernel
theorem d_Rv_version_63 : decode b_Rv_version 63 = .ok (.if_icmp .ne 14, 3) := by decide +kernel
theorem d_Rv_version_66 : decode b_Rv_version 66 = .ok (.aload_n 0, 1) := by decide +kernel
theorem d_Rv_version_67 : decode b_Rv_version 67 = .ok (.getfield 20, 3) := by decide +kernel
theorem d_Rv_version_70 : decode b_Rv_version 70 = .ok (.getfield 118, 3) := by decide +kernel
theorem d_Rv_version_73 : decode b_Rv_version 73 = .ok (.iload 4, 2) := by decide +kernel
theorem d_Rv_version_75 : decode b_Rv_version 75 = .ok (.iaload, 1) := by decide +kernel
theorem d_Rv_version_76 : decode b_Rv_version 76 = .ok (.ireturn, 1) := by decide +kernel
theorem d_Rv_version_77 : decode b_Rv_version 77 = .ok (.iload 4, 2) := by decide +kernel
theorem d_Rv_version_79 : decode b_Rv_version 79 = .ok (.bipush 6, 2) := by decide +kernel
theorem d_Rv_version_81 : decode b_Rv_version 81 = .ok (.if_icmp .ge 7, 3) := by decide +kernel
theorem d_Rv_version_84 : decode b_Rv_version 84 = .ok (.iconst (-1), 1) := by decide +kernel
theorem d_Rv_version_85 : decode b_Rv_version 85 = .ok (.goto 8, 3) := by decide +kernel
theorem d_Rv_version_88 : decode b_Rv_version 88 = .ok (.iload 4, 2) := by decide +kernel
theorem d_Rv_version_90 : decode b_Rv_version 90 = .ok (.bipush 6, 2) := by decide +kernel
theorem d_Rv_version_92 : decode b_Rv_version 92 = .ok (.isub, 1) := by decide +kernel
theorem d_Rv_version_93 : decode b_Rv_version 93 = .ok (.ireturn, 1) := by decide +kernel
theorem d_Rv_page_0 : decode b_Rv_page 0 = .ok (.iload_n 1, 1) := by decide +kernel
theorem d_Rv_page_1 : decode b_Rv_page 1 = .ok (.ifCond .lt 19, 3) := by decide +kernel
theorem d_Rv_page_4 : decode b_Rv_page 4 = .ok (.iload_n 1, 1) := by decide +kernel
theorem d_Rv_page_5 : decode b_Rv_page 5 = .ok (.bipush 7, 2) := by decide +kernel
theorem d_Rv_page_7 : decode b_Rv_page 7 = .ok (.if_icmp .ge 13, 3) := by decide +kernel
theorem d_Rv_page_10 : decode b_Rv_page 10 = .ok (.aload_n 0, 1) := by decide +kernel
theorem d_Rv_page_11 : decode b_Rv_page 11 = .ok (.getfield 12, 3) := by decide +kernel
theorem d_Rv_page_14 : decode b_Rv_page 14 = .ok (.getfield 121, 3) := by decide +kernel
theorem d_Rv_page_17 : decode b_Rv_page 17 = .ok (.iload_n 1, 1) := by decide +kernel
theorem d_Rv_page_18 : decode b_Rv_page 18 = .ok (.iaload, 1) := by decide +kernel
theorem d_Rv_page_19 : decode b_Rv_page 19 = .ok (.ireturn, 1) := by decide +kernel
theorem d_Rv_page_20 : decode b_Rv_page 20 = .ok (.iload_n 1, 1) := by decide +kernel
theorem d_Rv_page_21 : decode b_Rv_page 21 = .ok (.bipush 10, 2) := by decide +kernel
theorem d_Rv_page_23 : decode b_Rv_page 23 = .ok (.if_icmp .lt 33, 3) := by decide +kernel
theorem d_Rv_page_26 : decode b_Rv_page 26 = .ok (.iload_n 1, 1) := by decide +kernel
theorem d_Rv_page_27 : decode b_Rv_page 27 = .ok (.bipush 17, 2) := by decide +kernel
theorem d_Rv_page_29 : decode b_Rv_page 29 = .ok (.if_icmp .ge 27, 3) := by decide +kernel
theorem d_Rv_page_32 : decode b_Rv_page 32 = .ok (.aload_n 0, 1) := by decide +kernel
theorem d_Rv_page_33 : decode b_Rv_page 33 = .ok (.getfield 12, 3) := by decide +kernel
theorem d_Rv_page_36 : decode b_Rv_page 36 = .ok (.getfield 93, 3) := by decide +kernel
theorem d_Rv_page_39 : decode b_Rv_page 39 = .ok (.i2l, 1) := by decide +kernel
theorem d_Rv_page_40 : decode b_Rv_page 40 = .ok (.iload_n 1, 1) := by decide +kernel
theorem d_Rv_page_41 : decode b_Rv_page 41 = .ok (.bipush 10, 2) := by decide +kernel
theorem d_Rv_page_43 : decode b_Rv_page 43 = .ok (.isub, 1) := by decide +kernel
theorem d_Rv_page_44 : decode b_Rv_page 44 = .ok (.invokestatic 124, 3) := by decide +kernel
theorem d_Rv_page_47 : decode b_Rv_page 47 = .ok (.ifCond .eq 7, 3) := by decide +kernel
theorem d_Rv_page_50 : decode b_Rv_page 50 = .ok (.iconst 1, 1) := by decide +kernel
theorem d_Rv_page_51 : decode b_Rv_page 51 = .ok (.goto 4, 3) := by decide +kernel
theorem d_Rv_page_54 : decode b_Rv_page 54 = .ok (.iconst 0, 1) := by decide +kernel
theorem d_Rv_page_55 : decode b_Rv_page 55 = .ok (.ireturn, 1) := by decide +kernel
theorem d_Rv_page_56 : decode b_Rv_page 56 = .ok (.new 74, 3) := by decide +kernel
theorem d_Rv_page_59 : decode b_Rv_page 59 = .ok (.dup, 1) := by decide +kernel
theorem d_Rv_page_60 : decode b_Rv_page 60 = .ok (.invokespecial 76, 3) := by decide +kernel
theorem d_Rv_page_63 : decode b_Rv_page 63 = .ok (.athrow, 1) := by decide +kernel
theorem d_Rv_count_0 : decode b_Rv_count 0 = .ok (.iload_n 1, 1) := by decide +kernel
theorem d_Rv_count_1 : decode b_Rv_count 1 = .ok (.tableswitch 78 0 4 #[35, 43, 51, 59, 67], 35) := by decide +kernel
theorem d_Rv_count_36 : decode b_Rv_count 36 = .ok (.aload_n 0, 1) := by decide +kernel
theorem d_Rv_count_37 : decode b_Rv_count 37 = .ok (.getfield 20, 3) := by decide +kernel
theorem d_Rv_count_40 : decode b_Rv_count 40 = .ok (.invokevirtual 128, 3) := by decide +kernel
theorem d_Rv_count_43 : decode b_Rv_count 43 = .ok (.ireturn, 1) := by decide +kernel
theorem d_Rv_count_44 : decode b_Rv_count 44 = .ok (.aload_n 0, 1) := by decide +kernel
theorem d_Rv_count_45 : decode b_Rv_count 45 = .ok (.getfield 20, 3) := by decide +kernel
theorem d_Rv_count_48 : decode b_Rv_count 48 = .ok (.invokevirtual 38, 3) := by decide +kernel
theorem d_Rv_count_51 : decode b_Rv_count 51 = .ok (.ireturn, 1) := by decide +kernel
theorem d_Rv_count_52 : decode b_Rv_count 52 = .ok (.aload_n 0, 1) := by decide +kernel
theorem d_Rv_count_53 : decode b_Rv_count 53 = .ok (.getfield 12, 3) := by decide +kernel
theorem d_Rv_count_56 : decode b_Rv_count 56 = .ok (.getfield 81, 3) := by decide +kernel
theorem d_Rv_count_59 : decode b_Rv_count 59 = .ok (.ireturn, 1) := by decide +kernel
theorem d_Rv_count_60 : decode b_Rv_count 60 = .ok (.aload_n 0, 1) := by decide +kernel
theorem d_Rv_count_61 : decode b_Rv_count 61 = .ok (.getfield 12, 3) := by decide +kernel
theorem d_Rv_count_64 : decode b_Rv_count 64 = .ok (.getfield 131, 3) := by decide +kernel
theorem d_Rv_count_67 : decode b_Rv_count 67 = .ok (.ireturn, 1) := by decide +kernel
theorem d_Rv_count_68 : decode b_Rv_count 68 = .ok (.aload_n 0, 1) := by decide +kernel
theorem d_Rv_count_69 : decode b_Rv_count 69 = .ok (.getfield 12, 3) := by decide +kernel
theorem d_Rv_count_72 : decode b_Rv_count 72 = .ok (.getfield 93, 3) := by decide +kernel
theorem d_Rv_count_75 : decode b_Rv_count 75 = .ok (.invokestatic 134, 3) := by decide +kernel
theorem d_Rv_count_78 : decode b_Rv_count 78 = .ok (.ireturn, 1) := by decide +kernel
theorem d_Rv_count_79 : decode b_Rv_count 79 = .ok (.new 74, 3) := by decide +kernel
theorem d_Rv_count_82 : decode b_Rv_count 82 = .ok (.dup, 1) := by decide +kernel
theorem d_Rv_count_83 : decode b_Rv_count 83 = .ok (.invokespecial 76, 3) := by decide +kernel
theorem d_Rv_count_86 : decode b_Rv_count 86 = .ok (.athrow, 1) := by decide +kernel
