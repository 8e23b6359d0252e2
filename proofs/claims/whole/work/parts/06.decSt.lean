theorem d_St_init_0 : decode b_St_init 0 = .ok (.aload_n 0, 1) := by decide +kernel
theorem d_St_init_1 : decode b_St_init 1 = .ok (.invokespecial 3, 3) := by decide +kernel
theorem d_St_init_4 : decode b_St_init 4 = .ok (.aload_n 0, 1) := by decide +kernel
theorem d_St_init_5 : decode b_St_init 5 = .ok (.new 9, 3) := by decide +kernel
theorem d_St_init_8 : decode b_St_init 8 = .ok (.dup, 1) := by decide +kernel
theorem d_St_init_9 : decode b_St_init 9 = .ok (.invokespecial 11, 3) := by decide +kernel
theorem d_St_init_12 : decode b_St_init 12 = .ok (.putfield 12, 3) := by decide +kernel
theorem d_St_init_15 : decode b_St_init 15 = .ok (.aload_n 0, 1) := by decide +kernel
theorem d_St_init_16 : decode b_St_init 16 = .ok (.new 9, 3) := by decide +kernel
theorem d_St_init_19 : decode b_St_init 19 = .ok (.dup, 1) := by decide +kernel
theorem d_St_init_20 : decode b_St_init 20 = .ok (.invokespecial 11, 3) := by decide +kernel
theorem d_St_init_23 : decode b_St_init 23 = .ok (.putfield 18, 3) := by decide +kernel
theorem d_St_init_26 : decode b_St_init 26 = .ok (.aload_n 0, 1) := by decide +kernel
theorem d_St_init_27 : decode b_St_init 27 = .ok (.bipush 7, 2) := by decide +kernel
theorem d_St_init_29 : decode b_St_init 29 = .ok (.newarray .int, 2) := by decide +kernel
theorem d_St_init_31 : decode b_St_init 31 = .ok (.putfield 21, 3) := by decide +kernel
theorem d_St_init_34 : decode b_St_init 34 = .ok (.return_, 1) := by decide +kernel
theorem d_St_changed_0 : decode b_St_changed 0 = .ok (.aload_n 0, 1) := by decide +kernel
theorem d_St_changed_1 : decode b_St_changed 1 = .ok (.dup, 1) := by decide +kernel
theorem d_St_changed_2 : decode b_St_changed 2 = .ok (.getfield 25, 3) := by decide +kernel
theorem d_St_changed_5 : decode b_St_changed 5 = .ok (.iconst 1, 1) := by decide +kernel
theorem d_St_changed_6 : decode b_St_changed 6 = .ok (.iload_n 1, 1) := by decide +kernel
theorem d_St_changed_7 : decode b_St_changed 7 = .ok (.ishl, 1) := by decide +kernel
theorem d_St_changed_8 : decode b_St_changed 8 = .ok (.ior, 1) := by decide +kernel
theorem d_St_changed_9 : decode b_St_changed 9 = .ok (.putfield 25, 3) := by decide +kernel
theorem d_St_changed_12 : decode b_St_changed 12 = .ok (.return_, 1) := by decide +kernel
theorem d_St_failsNow_0 : decode b_St_failsNow 0 = .ok (.aload_n 0, 1) := by decide +kernel
theorem d_St_failsNow_1 : decode b_St_failsNow 1 = .ok (.getfield 52, 3) := by decide +kernel
theorem d_St_failsNow_4 : decode b_St_failsNow 4 = .ok (.ifCond .ne 5, 3) := by decide +kernel
theorem d_St_failsNow_7 : decode b_St_failsNow 7 = .ok (.iconst 0, 1) := by decide +kernel
theorem d_St_failsNow_8 : decode b_St_failsNow 8 = .ok (.ireturn, 1) := by decide +kernel
theorem d_St_failsNow_9 : decode b_St_failsNow 9 = .ok (.aload_n 0, 1) := by decide +kernel
theorem d_St_failsNow_10 : decode b_St_failsNow 10 = .ok (.dup, 1) := by decide +kernel
theorem d_St_failsNow_11 : decode b_St_failsNow 11 = .ok (.getfield 52, 3) := by decide +kernel
theorem d_St_failsNow_14 : decode b_St_failsNow 14 = .ok (.iconst 1, 1) := by decide +kernel
theorem d_St_failsNow_15 : decode b_St_failsNow 15 = .ok (.isub, 1) := by decide +kernel
theorem d_St_failsNow_16 : decode b_St_failsNow 16 = .ok (.putfield 52, 3) := by decide +kernel
theorem d_St_failsNow_19 : decode b_St_failsNow 19 = .ok (.aload_n 0, 1) := by decide +kernel
theorem d_St_failsNow_20 : decode b_St_failsNow 20 = .ok (.getfield 52, 3) := by decide +kernel
theorem d_St_failsNow_23 : decode b_St_failsNow 23 = .ok (.ifCond .ne 7, 3) := by decide +kernel
theorem d_St_failsNow_26 : decode b_St_failsNow 26 = .ok (.iconst 1, 1) := by decide +kernel
theorem d_St_failsNow_27 : decode b_St_failsNow 27 = .ok (.goto 4, 3) := by decide +kernel
theorem d_St_failsNow_30 : decode b_St_failsNow 30 = .ok (.iconst 0, 1) := by decide +kernel
theorem d_St_failsNow_31 : decode b_St_failsNow 31 = .ok (.ireturn, 1) := by decide +kernel
theorem d_St_settle_0 : decode b_St_settle 0 = .ok (.aload_n 0, 1) := by decide +kernel
theorem d_St_settle_1 : decode b_St_settle 1 = .ok (.dup, 1) := by decide +kernel
theorem d_St_settle_2 : decode b_St_settle 2 = .ok (.getfield 25, 3) := by decide +kernel
theorem d_St_settle_5 : decode b_St_settle 5 = .ok (.iconst 1, 1) := by decide +kernel
theorem d_St_settle_6 : decode b_St_settle 6 = .ok (.iload_n 1, 1) := by decide +kernel
theorem d_St_settle_7 : decode b_St_settle 7 = .ok (.ishl, 1) := by decide +kernel
theorem d_St_settle_8 : decode b_St_settle 8 = .ok (.iconst (-1), 1) := by decide +kernel
theorem d_St_settle_9 : decode b_St_settle 9 = .ok (.ixor, 1) := by decide +kernel
theorem d_St_settle_10 : decode b_St_settle 10 = .ok (.iand, 1) := by decide +kernel
theorem d_St_settle_11 : decode b_St_settle 11 = .ok (.putfield 25, 3) := by decide +kernel
theorem d_St_settle_14 : decode b_St_settle 14 = .ok (.iconst 0, 1) := by decide +kernel
theorem d_St_settle_15 : decode b_St_settle 15 = .ok (.istore_n 2, 1) := by decide +kernel
theorem d_St_settle_16 : decode b_St_settle 16 = .ok (.iload_n 2, 1) := by decide +kernel
theorem d_St_settle_17 : decode b_St_settle 17 = .ok (.bipush 7, 2) := by decide +kernel
theorem d_St_settle_19 : decode b_St_settle 19 = .ok (.if_icmp .ge 23, 3) := by decide +kernel
theorem d_St_settle_22 : decode b_St_settle 22 = .ok (.aload_n 0, 1) := by decide +kernel
theorem d_St_settle_23 : decode b_St_settle 23 = .ok (.getfield 21, 3) := by decide +kernel
theorem d_St_settle_26 : decode b_St_settle 26 = .ok (.iload_n 2, 1) := by decide +kernel
theorem d_St_settle_27 : decode b_St_settle 27 = .ok (.dup2, 1) := by decide +kernel
theorem d_St_settle_28 : decode b_St_settle 28 = .ok (.iaload, 1) := by decide +kernel
theorem d_St_settle_29 : decode b_St_settle 29 = .ok (.iconst 1, 1) := by decide +kernel
theorem d_St_settle_30 : decode b_St_settle 30 = .ok (.iload_n 1, 1) := by decide +kernel
theorem d_St_settle_31 : decode b_St_settle 31 = .ok (.ishl, 1) := by decide +kernel
theorem d_St_settle_32 : decode b_St_settle 32 = .ok (.iconst (-1), 1) := by decide +kernel
theorem d_St_settle_33 : decode b_St_settle 33 = .ok (.ixor, 1) := by decide +kernel
theorem d_St_settle_34 : decode b_St_settle 34 = .ok (.iand, 1) := by decide +kernel
theorem d_St_settle_35 : decode b_St_settle 35 = .ok (.iastore, 1) := by decide +kernel
theorem d_St_settle_36 : decode b_St_settle 36 = .ok (.iinc 2 1, 3) := by decide +kernel
theorem d_St_settle_39 : decode b_St_settle 39 = .ok (.goto (-23), 3) := by decide +kernel
theorem d_St_settle_42 : decode b_St_settle 42 = .ok (.aload_n 0, 1) := by decide +kernel
theorem d_St_settle_43 : decode b_St_settle 43 = .ok (.dup, 1) := by decide +kernel
theorem d_St_settle_44 : decode b_St_settle 44 = .ok (.getfield 55, 3) := by decide +kernel
theorem d_St_settle_47 : decode b_St_settle 47 = .ok (.iconst 1, 1) := by decide +kernel
theorem d_St_settle_48 : decode b_St_settle 48 = .ok (.iadd, 1) := by decide +kernel
theorem d_St_settle_49 : decode b_St_settle 49 = .ok (.putfield 55, 3) := by decide +kernel
theorem d_St_settle_52 : decode b_St_settle 52 = .ok (.return_, 1) := by decide +kernel
theorem d_St_fall_0 : decode b_St_fall 0 = .ok (.iconst 0, 1) := by decide +kernel
theorem d_St_fall_1 : decode b_St_fall 1 = .ok (.istore_n 1, 1) := by decide +kernel
theorem d_St_fall_2 : decode b_St_fall 2 = .ok (.iload_n 1, 1) := by decide +kernel
theorem d_St_fall_3 : decode b_St_fall 3 = .ok (.bipush 7, 2) := by decide +kernel
theorem d_St_fall_5 : decode b_St_fall 5 = .ok (.if_icmp .ge 28, 3) := by decide +kernel
theorem d_St_fall_8 : decode b_St_fall 8 = .ok (.aload_n 0, 1) := by decide +kernel
theorem d_St_fall_9 : decode b_St_fall 9 = .ok (.getfield 12, 3) := by decide +kernel
theorem d_St_fall_12 : decode b_St_fall 12 = .ok (.aload_n 0, 1) := by decide +kernel
theorem d_St_fall_13 : decode b_St_fall 13 = .ok (.getfield 18, 3) := by decide +kernel
theorem d_St_fall_16 : decode b_St_fall 16 = .ok (.iload_n 1, 1) := by decide +kernel
theorem d_St_fall_17 : decode b_St_fall 17 = .ok (.invokevirtual 44, 3) := by decide +kernel
theorem d_St_fall_20 : decode b_St_fall 20 = .ok (.aload_n 0, 1) := by decide +kernel
theorem d_St_fall_21 : decode b_St_fall 21 = .ok (.getfield 21, 3) := by decide +kernel
theorem d_St_fall_24 : decode b_St_fall 24 = .ok (.iload_n 1, 1) := by decide +kernel
theorem d_St_fall_25 : decode b_St_fall 25 = .ok (.iconst 0, 1) := by decide +kernel
theorem d_St_fall_26 : decode b_St_fall 26 = .ok (.iastore, 1) := by decide +kernel
theorem d_St_fall_27 : decode b_St_fall 27 = .ok (.iinc 1 1, 3) := by decide +kernel
theorem d_St_fall_30 : decode b_St_fall 30 = .ok (.goto (-28), 3) := by decide +kernel
theorem d_St_fall_33 : decode b_St_fall 33 = .ok (.aload_n 0, 1) := by decide +kernel
theorem d_St_fall_34 : decode b_St_fall 34 = .ok (.iconst 0, 1) := by decide +kernel
theorem d_St_fall_35 : decode b_St_fall 35 = .ok (.putfield 25, 3) := by decide +kernel
theorem d_St_fall_38 : decode b_St_fall 38 = .ok (.aload_n 0, 1) := by decide +kernel
theorem d_St_fall_39 : decode b_St_fall 39 = .ok (.dup, 1) := by decide +kernel
theorem d_St_fall_40 : decode b_St_fall 40 = .ok (.getfield 61, 3) := by decide +kernel
theorem d_St_fall_43 : decode b_St_fall 43 = .ok (.iconst 1, 1) := by decide +kernel
theorem d_St_fall_44 : decode b_St_fall 44 = .ok (.iadd, 1) := by decide +kernel
theorem d_St_fall_45 : decode b_St_fall 45 = .ok (.putfield 61, 3) := by decide +kernel
theorem d_St_fall_48 : decode b_St_fall 48 = .ok (.iconst 1, 1) := by decide +kernel
theorem d_St_fall_49 : decode b_St_fall 49 = .ok (.istore_n 1, 1) := by decide +kernel
theorem d_St_fall_50 : decode b_St_fall 50 = .ok (.iload_n 1, 1) := by decide +kernel
theorem d_St_fall_51 : decode b_St_fall 51 = .ok (.bipush 40, 2) := by decide +kernel
theorem d_St_fall_53 : decode b_St_fall 53 = .ok (.if_icmp .gt 38, 3) := by decide +kernel
theorem d_St_fall_56 : decode b_St_fall 56 = .ok (.aload_n 0, 1) := by decide +kernel
theorem d_St_fall_57 : decode b_St_fall 57 = .ok (.getfield 12, 3) := by decide +kernel
theorem d_St_fall_60 : decode b_St_fall 60 = .ok (.getfield 64, 3) := by decide +kernel
theorem d_St_fall_63 : decode b_St_fall 63 = .ok (.iload_n 1, 1) := by decide +kernel
theorem d_St_fall_64 : decode b_St_fall 64 = .ok (.iaload, 1) := by decide +kernel
theorem d_St_fall_65 : decode b_St_fall 65 = .ok (.iconst 1, 1) := by decide +kernel
theorem d_St_fall_66 : decode b_St_fall 66 = .ok (.if_icmp .ne 19, 3) := by decide +kernel
theorem d_St_fall_69 : decode b_St_fall 69 = .ok (.aload_n 0, 1) := by decide +kernel
theorem d_St_fall_70 : decode b_St_fall 70 = .ok (.getfield 12, 3) := by decide +kernel
theorem d_St_fall_73 : decode b_St_fall 73 = .ok (.getfield 64, 3) := by decide +kernel
theorem d_St_fall_76 : decode b_St_fall 76 = .ok (.iload_n 1, 1) := by decide +kernel
theorem d_St_fall_77 : decode b_St_fall 77 = .ok (.iconst 3, 1) := by decide +kernel
theorem d_St_fall_78 : decode b_St_fall 78 = .ok (.iastore, 1) := by decide +kernel
theorem d_St_fall_79 : decode b_St_fall 79 = .ok (.aload_n 0, 1) := by decide +kernel
theorem d_St_fall_80 : decode b_St_fall 80 = .ok (.bipush 6, 2) := by decide +kernel
theorem d_St_fall_82 : decode b_St_fall 82 = .ok (.invokevirtual 67, 3) := by decide +kernel
theorem d_St_fall_85 : decode b_St_fall 85 = .ok (.iinc 1 1, 3) := by decide +kernel
theorem d_St_fall_88 : decode b_St_fall 88 = .ok (.goto (-38), 3) := by decide +kernel
theorem d_St_fall_91 : decode b_St_fall 91 = .ok (.return_, 1) := by decide +kernel
theorem d_St_put_0 : decode b_St_put 0 = .ok (.iload_n 2, 1) := by decide +kernel
theorem d_St_put_1 : decode b_St_put 1 = .ok (.bipush 7, 2) := by decide +kernel
theorem d_St_put_3 : decode b_St_put 3 = .ok (.if_icmp .lt 5, 3) := by decide +kernel
theorem d_St_put_6 : decode b_St_put 6 = .ok (.iconst 1, 1) := by decide +kernel
theorem d_St_put_7 : decode b_St_put 7 = .ok (.ireturn, 1) := by decide +kernel
theorem d_St_put_8 : decode b_St_put 8 = .ok (.iconst 0, 1) := by decide +kernel
theorem d_St_put_9 : decode b_St_put 9 = .ok (.istore_n 3, 1) := by decide +kernel
theorem d_St_put_10 : decode b_St_put 10 = .ok (.iload_n 3, 1) := by decide +kernel
theorem d_St_put_11 : decode b_St_put 11 = .ok (.bipush 7, 2) := by decide +kernel
theorem d_St_put_13 : decode b_St_put 13 = .ok (.if_icmp .ge 41, 3) := by decide +kernel
theorem d_St_put_16 : decode b_St_put 16 = .ok (.aload_n 0, 1) := by decide +kernel
theorem d_St_put_17 : decode b_St_put 17 = .ok (.getfield 21, 3) := by decide +kernel
theorem d_St_put_20 : decode b_St_put 20 = .ok (.iload_n 1, 1) := by decide +kernel
theorem d_St_put_21 : decode b_St_put 21 = .ok (.iaload, 1) := by decide +kernel
theorem d_St_put_22 : decode b_St_put 22 = .ok (.aload_n 0, 1) := by decide +kernel
theorem d_St_put_23 : decode b_St_put 23 = .ok (.getfield 25, 3) := by decide +kernel
theorem d_St_put_26 : decode b_St_put 26 = .ok (.iand, 1) := by decide +kernel
theorem d_St_put_27 : decode b_St_put 27 = .ok (.i2l, 1) := by decide +kernel
theorem d_St_put_28 : decode b_St_put 28 = .ok (.iload_n 3, 1) := by decide +kernel
theorem d_St_put_29 : decode b_St_put 29 = .ok (.invokestatic 29, 3) := by decide +kernel
theorem d_St_put_32 : decode b_St_put 32 = .ok (.ifCond .eq 16, 3) := by decide +kernel
theorem d_St_put_35 : decode b_St_put 35 = .ok (.aload_n 0, 1) := by decide +kernel
theorem d_St_put_36 : decode b_St_put 36 = .ok (.iload_n 3, 1) := by decide +kernel
theorem d_St_put_37 : decode b_St_put 37 = .ok (.iload_n 2, 1) := by decide +kernel
theorem d_St_put_38 : decode b_St_put 38 = .ok (.iconst 1, 1) := by decide +kernel
theorem d_St_put_39 : decode b_St_put 39 = .ok (.iadd, 1) := by decide +kernel
theorem d_St_put_40 : decode b_St_put 40 = .ok (.invokevirtual 33, 3) := by decide +kernel
theorem d_St_put_43 : decode b_St_put 43 = .ok (.ifCond .ne 5, 3) := by decide +kernel
theorem d_St_put_46 : decode b_St_put 46 = .ok (.iconst 0, 1) := by decide +kernel
theorem d_St_put_47 : decode b_St_put 47 = .ok (.ireturn, 1) := by decide +kernel
theorem d_St_put_48 : decode b_St_put 48 = .ok (.iinc 3 1, 3) := by decide +kernel
theorem d_St_put_51 : decode b_St_put 51 = .ok (.goto (-41), 3) := by decide +kernel
theorem d_St_put_54 : decode b_St_put 54 = .ok (.aload_n 0, 1) := by decide +kernel
theorem d_St_put_55 : decode b_St_put 55 = .ok (.invokevirtual 37, 3) := by decide +kernel
theorem d_St_put_58 : decode b_St_put 58 = .ok (.ifCond .eq 9, 3) := by decide +kernel
theorem d_St_put_61 : decode b_St_put 61 = .ok (.aload_n 0, 1) := by decide +kernel
theorem d_St_put_62 : decode b_St_put 62 = .ok (.invokevirtual 41, 3) := by decide +kernel
theorem d_St_put_65 : decode b_St_put 65 = .ok (.iconst 0, 1) := by decide +kernel
theorem d_St_put_66 : decode b_St_put 66 = .ok (.ireturn, 1) := by decide +kernel
theorem d_St_put_67 : decode b_St_put 67 = .ok (.aload_n 0, 1) := by decide +kernel
theorem d_St_put_68 : decode b_St_put 68 = .ok (.getfield 18, 3) := by decide +kernel
theorem d_St_put_71 : decode b_St_put 71 = .ok (.aload_n 0, 1) := by decide +kernel
theorem d_St_put_72 : decode b_St_put 72 = .ok (.getfield 12, 3) := by decide +kernel
theorem d_St_put_75 : decode b_St_put 75 = .ok (.iload_n 1, 1) := by decide +kernel
theorem d_St_put_76 : decode b_St_put 76 = .ok (.invokevirtual 44, 3) := by decide +kernel
theorem d_St_put_79 : decode b_St_put 79 = .ok (.aload_n 0, 1) := by decide +kernel
theorem d_St_put_80 : decode b_St_put 80 = .ok (.iload_n 1, 1) := by decide +kernel
theorem d_St_put_81 : decode b_St_put 81 = .ok (.invokevirtual 48, 3) := by decide +kernel
theorem d_St_put_84 : decode b_St_put 84 = .ok (.iconst 1, 1) := by decide +kernel
theorem d_St_put_85 : decode b_St_put 85 = .ok (.ireturn, 1) := by decide +kernel
theorem d_St_putDirty_0 : decode b_St_putDirty 0 = .ok (.iconst 0, 1) := by decide +kernel
theorem d_St_putDirty_1 : decode b_St_putDirty 1 = .ok (.istore_n 2, 1) := by decide +kernel
theorem d_St_putDirty_2 : decode b_St_putDirty 2 = .ok (.iload_n 2, 1) := by decide +kernel
theorem d_St_putDirty_3 : decode b_St_putDirty 3 = .ok (.bipush 7, 2) := by decide +kernel
theorem d_St_putDirty_5 : decode b_St_putDirty 5 = .ok (.if_icmp .ge 34, 3) := by decide +kernel
theorem d_St_putDirty_8 : decode b_St_putDirty 8 = .ok (.iload_n 1, 1) := by decide +kernel
theorem d_St_putDirty_9 : decode b_St_putDirty 9 = .ok (.aload_n 0, 1) := by decide +kernel
theorem d_St_putDirty_10 : decode b_St_putDirty 10 = .ok (.getfield 25, 3) := by decide +kernel
theorem d_St_putDirty_13 : decode b_St_putDirty 13 = .ok (.iand, 1) := by decide +kernel
theorem d_St_putDirty_14 : decode b_St_putDirty 14 = .ok (.i2l, 1) := by decide +kernel
theorem d_St_putDirty_15 : decode b_St_putDirty 15 = .ok (.iload_n 2, 1) := by decide +kernel
theorem d_St_putDirty_16 : decode b_St_putDirty 16 = .ok (.invokestatic 29, 3) := by decide +kernel
theorem d_St_putDirty_19 : decode b_St_putDirty 19 = .ok (.ifCond .eq 14, 3) := by decide +kernel
theorem d_St_putDirty_22 : decode b_St_putDirty 22 = .ok (.aload_n 0, 1) := by decide +kernel
theorem d_St_putDirty_23 : decode b_St_putDirty 23 = .ok (.iload_n 2, 1) := by decide +kernel
theorem d_St_putDirty_24 : decode b_St_putDirty 24 = .ok (.iconst 0, 1) := by decide +kernel
theorem d_St_putDirty_25 : decode b_St_putDirty 25 = .ok (.invokevirtual 33, 3) := by decide +kernel
theorem d_St_putDirty_28 : decode b_St_putDirty 28 = .ok (.ifCond .ne 5, 3) := by decide +kernel
theorem d_St_putDirty_31 : decode b_St_putDirty 31 = .ok (.iconst 0, 1) := by decide +kernel
theorem d_St_putDirty_32 : decode b_St_putDirty 32 = .ok (.ireturn, 1) := by decide +kernel
theorem d_St_putDirty_33 : decode b_St_putDirty 33 = .ok (.iinc 2 1, 3) := by decide +kernel
theorem d_St_putDirty_36 : decode b_St_putDirty 36 = .ok (.goto (-34), 3) := by decide +kernel
theorem d_St_putDirty_39 : decode b_St_putDirty 39 = .ok (.iconst 1, 1) := by decide +kernel
theorem d_St_putDirty_40 : decode b_St_putDirty 40 = .ok (.ireturn, 1) := by decide +kernel
theorem d_St_mustPrecede_0 : decode b_St_mustPrecede 0 = .ok (.aload_n 0, 1) := by decide +kernel
theorem d_St_mustPrecede_1 : decode b_St_mustPrecede 1 = .ok (.getfield 21, 3) := by decide +kernel
theorem d_St_mustPrecede_4 : decode b_St_mustPrecede 4 = .ok (.iload_n 2, 1) := by decide +kernel
theorem d_St_mustPrecede_5 : decode b_St_mustPrecede 5 = .ok (.iaload, 1) := by decide +kernel
theorem d_St_mustPrecede_6 : decode b_St_mustPrecede 6 = .ok (.istore_n 3, 1) := by decide +kernel
theorem d_St_mustPrecede_7 : decode b_St_mustPrecede 7 = .ok (.iconst 0, 1) := by decide +kernel
theorem d_St_mustPrecede_8 : decode b_St_mustPrecede 8 = .ok (.istore 4, 2) := by decide +kernel
theorem d_St_mustPrecede_10 : decode b_St_mustPrecede 10 = .ok (.iload 4, 2) := by decide +kernel
theorem d_St_mustPrecede_12 : decode b_St_mustPrecede 12 = .ok (.bipush 7, 2) := by decide +kernel
theorem d_St_mustPrecede_14 : decode b_St_mustPrecede 14 = .ok (.if_icmp .ge 45, 3) := by decide +kernel
theorem d_St_mustPrecede_17 : decode b_St_mustPrecede 17 = .ok (.iconst 0, 1) := by decide +kernel
theorem d_St_mustPrecede_18 : decode b_St_mustPrecede 18 = .ok (.istore 5, 2) := by decide +kernel
theorem d_St_mustPrecede_20 : decode b_St_mustPrecede 20 = .ok (.iload 5, 2) := by decide +kernel
theorem d_St_mustPrecede_22 : decode b_St_mustPrecede 22 = .ok (.bipush 7, 2) := by decide +kernel
theorem d_St_mustPrecede_24 : decode b_St_mustPrecede 24 = .ok (.if_icmp .ge 29, 3) := by decide +kernel
theorem d_St_mustPrecede_27 : decode b_St_mustPrecede 27 = .ok (.iload_n 3, 1) := by decide +kernel
theorem d_St_mustPrecede_28 : decode b_St_mustPrecede 28 = .ok (.i2l, 1) := by decide +kernel
theorem d_St_mustPrecede_29 : decode b_St_mustPrecede 29 = .ok (.iload 5, 2) := by decide +kernel
theorem d_St_mustPrecede_31 : decode b_St_mustPrecede 31 = .ok (.invokestatic 29, 3) := by decide +kernel
theorem d_St_mustPrecede_34 : decode b_St_mustPrecede 34 = .ok (.ifCond .eq 13, 3) := by decide +kernel
theorem d_St_mustPrecede_37 : decode b_St_mustPrecede 37 = .ok (.iload_n 3, 1) := by decide +kernel
theorem d_St_mustPrecede_38 : decode b_St_mustPrecede 38 = .ok (.aload_n 0, 1) := by decide +kernel
theorem d_St_mustPrecede_39 : decode b_St_mustPrecede 39 = .ok (.getfield 21, 3) := by decide +kernel
theorem d_St_mustPrecede_42 : decode b_St_mustPrecede 42 = .ok (.iload 5, 2) := by decide +kernel
theorem d_St_mustPrecede_44 : decode b_St_mustPrecede 44 = .ok (.iaload, 1) := by decide +kernel
theorem d_St_mustPrecede_45 : decode b_St_mustPrecede 45 = .ok (.ior, 1) := by decide +kernel
theorem d_St_mustPrecede_46 : decode b_St_mustPrecede 46 = .ok (.istore_n 3, 1) := by decide +kernel
theorem d_St_mustPrecede_47 : decode b_St_mustPrecede 47 = .ok (.iinc 5 1, 3) := by decide +kernel
theorem d_St_mustPrecede_50 : decode b_St_mustPrecede 50 = .ok (.goto (-30), 3) := by decide +kernel
theorem d_St_mustPrecede_53 : decode b_St_mustPrecede 53 = .ok (.iinc 4 1, 3) := by decide +kernel
theorem d_St_mustPrecede_56 : decode b_St_mustPrecede 56 = .ok (.goto (-46), 3) := by decide +kernel
theorem d_St_mustPrecede_59 : decode b_St_mustPrecede 59 = .ok (.iload_n 3, 1) := by decide +kernel
theorem d_St_mustPrecede_60 : decode b_St_mustPrecede 60 = .ok (.i2l, 1) := by decide +kernel
theorem d_St_mustPrecede_61 : decode b_St_mustPrecede 61 = .ok (.iload_n 1, 1) := by decide +kernel
theorem d_St_mustPrecede_62 : decode b_St_mustPrecede 62 = .ok (.invokestatic 29, 3) := by decide +kernel
theorem d_St_mustPrecede_65 : decode b_St_mustPrecede 65 = .ok (.ireturn, 1) := by decide +kernel
theorem d_St_note_0 : decode b_St_note 0 = .ok (.iload_n 1, 1) := by decide +kernel
theorem d_St_note_1 : decode b_St_note 1 = .ok (.iload_n 2, 1) := by decide +kernel
theorem d_St_note_2 : decode b_St_note 2 = .ok (.if_icmp .ne 5, 3) := by decide +kernel
theorem d_St_note_5 : decode b_St_note 5 = .ok (.iconst 1, 1) := by decide +kernel
theorem d_St_note_6 : decode b_St_note 6 = .ok (.ireturn, 1) := by decide +kernel
theorem d_St_note_7 : decode b_St_note 7 = .ok (.aload_n 0, 1) := by decide +kernel
theorem d_St_note_8 : decode b_St_note 8 = .ok (.iload_n 2, 1) := by decide +kernel
theorem d_St_note_9 : decode b_St_note 9 = .ok (.iload_n 1, 1) := by decide +kernel
theorem d_St_note_10 : decode b_St_note 10 = .ok (.invokevirtual 58, 3) := by decide +kernel
theorem d_St_note_13 : decode b_St_note 13 = .ok (.ifCond .eq 14, 3) := by decide +kernel
theorem d_St_note_16 : decode b_St_note 16 = .ok (.aload_n 0, 1) := by decide +kernel
theorem d_St_note_17 : decode b_St_note 17 = .ok (.iload_n 2, 1) := by decide +kernel
theorem d_St_note_18 : decode b_St_note 18 = .ok (.iconst 0, 1) := by decide +kernel
theorem d_St_note_19 : decode b_St_note 19 = .ok (.invokevirtual 33, 3) := by decide +kernel
theorem d_St_note_22 : decode b_St_note 22 = .ok (.ifCond .ne 5, 3) := by decide +kernel
theorem d_St_note_25 : decode b_St_note 25 = .ok (.iconst 0, 1) := by decide +kernel
theorem d_St_note_26 : decode b_St_note 26 = .ok (.ireturn, 1) := by decide +kernel
theorem d_St_note_27 : decode b_St_note 27 = .ok (.aload_n 0, 1) := by decide +kernel
theorem d_St_note_28 : decode b_St_note 28 = .ok (.getfield 21, 3) := by decide +kernel
theorem d_St_note_31 : decode b_St_note 31 = .ok (.iload_n 2, 1) := by decide +kernel
theorem d_St_note_32 : decode b_St_note 32 = .ok (.dup2, 1) := by decide +kernel
theorem d_St_note_33 : decode b_St_note 33 = .ok (.iaload, 1) := by decide +kernel
theorem d_St_note_34 : decode b_St_note 34 = .ok (.iconst 1, 1) := by decide +kernel
theorem d_St_note_35 : decode b_St_note 35 = .ok (.iload_n 1, 1) := by decide +kernel
theorem d_St_note_36 : decode b_St_note 36 = .ok (.ishl, 1) := by decide +kernel
theorem d_St_note_37 : decode b_St_note 37 = .ok (.ior, 1) := by decide +kernel
theorem d_St_note_38 : decode b_St_note 38 = .ok (.iastore, 1) := by decide +kernel
theorem d_St_note_39 : decode b_St_note 39 = .ok (.iconst 1, 1) := by decide +kernel
theorem d_St_note_40 : decode b_St_note 40 = .ok (.ireturn, 1) := by decide +kernel
