theorem d_Mo_init_0 : decode b_Mo_init 0 = .ok (.aload_n 0, 1) := by decide +kernel
theorem d_Mo_init_1 : decode b_Mo_init 1 = .ok (.invokespecial 1, 3) := by decide +kernel
theorem d_Mo_init_4 : decode b_Mo_init 4 = .ok (.aload_n 0, 1) := by decide +kernel
theorem d_Mo_init_5 : decode b_Mo_init 5 = .ok (.bipush 15, 2) := by decide +kernel
theorem d_Mo_init_7 : decode b_Mo_init 7 = .ok (.newarray .int, 2) := by decide +kernel
theorem d_Mo_init_9 : decode b_Mo_init 9 = .ok (.putfield 7, 3) := by decide +kernel
theorem d_Mo_init_12 : decode b_Mo_init 12 = .ok (.aload_n 0, 1) := by decide +kernel
theorem d_Mo_init_13 : decode b_Mo_init 13 = .ok (.bipush 15, 2) := by decide +kernel
theorem d_Mo_init_15 : decode b_Mo_init 15 = .ok (.newarray .int, 2) := by decide +kernel
theorem d_Mo_init_17 : decode b_Mo_init 17 = .ok (.putfield 13, 3) := by decide +kernel
theorem d_Mo_init_20 : decode b_Mo_init 20 = .ok (.aload_n 0, 1) := by decide +kernel
theorem d_Mo_init_21 : decode b_Mo_init 21 = .ok (.bipush 15, 2) := by decide +kernel
theorem d_Mo_init_23 : decode b_Mo_init 23 = .ok (.newarray .int, 2) := by decide +kernel
theorem d_Mo_init_25 : decode b_Mo_init 25 = .ok (.putfield 16, 3) := by decide +kernel
theorem d_Mo_init_28 : decode b_Mo_init 28 = .ok (.aload_n 0, 1) := by decide +kernel
theorem d_Mo_init_29 : decode b_Mo_init 29 = .ok (.bipush 15, 2) := by decide +kernel
theorem d_Mo_init_31 : decode b_Mo_init 31 = .ok (.newarray .int, 2) := by decide +kernel
theorem d_Mo_init_33 : decode b_Mo_init 33 = .ok (.putfield 19, 3) := by decide +kernel
theorem d_Mo_init_36 : decode b_Mo_init 36 = .ok (.aload_n 0, 1) := by decide +kernel
theorem d_Mo_init_37 : decode b_Mo_init 37 = .ok (.bipush 15, 2) := by decide +kernel
theorem d_Mo_init_39 : decode b_Mo_init 39 = .ok (.newarray .int, 2) := by decide +kernel
theorem d_Mo_init_41 : decode b_Mo_init 41 = .ok (.putfield 22, 3) := by decide +kernel
theorem d_Mo_init_44 : decode b_Mo_init 44 = .ok (.aload_n 0, 1) := by decide +kernel
theorem d_Mo_init_45 : decode b_Mo_init 45 = .ok (.bipush 15, 2) := by decide +kernel
theorem d_Mo_init_47 : decode b_Mo_init 47 = .ok (.newarray .int, 2) := by decide +kernel
theorem d_Mo_init_49 : decode b_Mo_init 49 = .ok (.putfield 25, 3) := by decide +kernel
theorem d_Mo_init_52 : decode b_Mo_init 52 = .ok (.aload_n 0, 1) := by decide +kernel
theorem d_Mo_init_53 : decode b_Mo_init 53 = .ok (.bipush 41, 2) := by decide +kernel
theorem d_Mo_init_55 : decode b_Mo_init 55 = .ok (.newarray .int, 2) := by decide +kernel
theorem d_Mo_init_57 : decode b_Mo_init 57 = .ok (.putfield 28, 3) := by decide +kernel
theorem d_Mo_init_60 : decode b_Mo_init 60 = .ok (.aload_n 0, 1) := by decide +kernel
theorem d_Mo_init_61 : decode b_Mo_init 61 = .ok (.bipush 41, 2) := by decide +kernel
theorem d_Mo_init_63 : decode b_Mo_init 63 = .ok (.newarray .int, 2) := by decide +kernel
theorem d_Mo_init_65 : decode b_Mo_init 65 = .ok (.putfield 31, 3) := by decide +kernel
theorem d_Mo_init_68 : decode b_Mo_init 68 = .ok (.aload_n 0, 1) := by decide +kernel
theorem d_Mo_init_69 : decode b_Mo_init 69 = .ok (.bipush 7, 2) := by decide +kernel
theorem d_Mo_init_71 : decode b_Mo_init 71 = .ok (.newarray .boolean, 2) := by decide +kernel
theorem d_Mo_init_73 : decode b_Mo_init 73 = .ok (.putfield 34, 3) := by decide +kernel
theorem d_Mo_init_76 : decode b_Mo_init 76 = .ok (.aload_n 0, 1) := by decide +kernel
theorem d_Mo_init_77 : decode b_Mo_init 77 = .ok (.bipush 7, 2) := by decide +kernel
theorem d_Mo_init_79 : decode b_Mo_init 79 = .ok (.newarray .int, 2) := by decide +kernel
theorem d_Mo_init_81 : decode b_Mo_init 81 = .ok (.putfield 38, 3) := by decide +kernel
theorem d_Mo_init_84 : decode b_Mo_init 84 = .ok (.aload_n 0, 1) := by decide +kernel
theorem d_Mo_init_85 : decode b_Mo_init 85 = .ok (.bipush 41, 2) := by decide +kernel
theorem d_Mo_init_87 : decode b_Mo_init 87 = .ok (.newarray .int, 2) := by decide +kernel
theorem d_Mo_init_89 : decode b_Mo_init 89 = .ok (.putfield 41, 3) := by decide +kernel
theorem d_Mo_init_92 : decode b_Mo_init 92 = .ok (.aload_n 0, 1) := by decide +kernel
theorem d_Mo_init_93 : decode b_Mo_init 93 = .ok (.bipush 41, 2) := by decide +kernel
theorem d_Mo_init_95 : decode b_Mo_init 95 = .ok (.newarray .long, 2) := by decide +kernel
theorem d_Mo_init_97 : decode b_Mo_init 97 = .ok (.putfield 44, 3) := by decide +kernel
theorem d_Mo_init_100 : decode b_Mo_init 100 = .ok (.aload_n 0, 1) := by decide +kernel
theorem d_Mo_init_101 : decode b_Mo_init 101 = .ok (.bipush 8, 2) := by decide +kernel
theorem d_Mo_init_103 : decode b_Mo_init 103 = .ok (.newarray .int, 2) := by decide +kernel
theorem d_Mo_init_105 : decode b_Mo_init 105 = .ok (.putfield 48, 3) := by decide +kernel
theorem d_Mo_init_108 : decode b_Mo_init 108 = .ok (.iconst 0, 1) := by decide +kernel
theorem d_Mo_init_109 : decode b_Mo_init 109 = .ok (.istore_n 1, 1) := by decide +kernel
theorem d_Mo_init_110 : decode b_Mo_init 110 = .ok (.iload_n 1, 1) := by decide +kernel
theorem d_Mo_init_111 : decode b_Mo_init 111 = .ok (.bipush 15, 2) := by decide +kernel
theorem d_Mo_init_113 : decode b_Mo_init 113 = .ok (.if_icmp .ge 23, 3) := by decide +kernel
theorem d_Mo_init_116 : decode b_Mo_init 116 = .ok (.aload_n 0, 1) := by decide +kernel
theorem d_Mo_init_117 : decode b_Mo_init 117 = .ok (.getfield 16, 3) := by decide +kernel
theorem d_Mo_init_120 : decode b_Mo_init 120 = .ok (.iload_n 1, 1) := by decide +kernel
theorem d_Mo_init_121 : decode b_Mo_init 121 = .ok (.iconst (-1), 1) := by decide +kernel
theorem d_Mo_init_122 : decode b_Mo_init 122 = .ok (.iastore, 1) := by decide +kernel
theorem d_Mo_init_123 : decode b_Mo_init 123 = .ok (.aload_n 0, 1) := by decide +kernel
theorem d_Mo_init_124 : decode b_Mo_init 124 = .ok (.getfield 25, 3) := by decide +kernel
theorem d_Mo_init_127 : decode b_Mo_init 127 = .ok (.iload_n 1, 1) := by decide +kernel
theorem d_Mo_init_128 : decode b_Mo_init 128 = .ok (.iconst (-1), 1) := by decide +kernel
theorem d_Mo_init_129 : decode b_Mo_init 129 = .ok (.iastore, 1) := by decide +kernel
theorem d_Mo_init_130 : decode b_Mo_init 130 = .ok (.iinc 1 1, 3) := by decide +kernel
theorem d_Mo_init_133 : decode b_Mo_init 133 = .ok (.goto (-23), 3) := by decide +kernel
theorem d_Mo_init_136 : decode b_Mo_init 136 = .ok (.return_, 1) := by decide +kernel
theorem d_Mo_thrown_0 : decode b_Mo_thrown 0 = .ok (.aload_n 0, 1) := by decide +kernel
theorem d_Mo_thrown_1 : decode b_Mo_thrown 1 = .ok (.getfield 51, 3) := by decide +kernel
theorem d_Mo_thrown_4 : decode b_Mo_thrown 4 = .ok (.ireturn, 1) := by decide +kernel
theorem d_Mo_raise_0 : decode b_Mo_raise 0 = .ok (.aload_n 0, 1) := by decide +kernel
theorem d_Mo_raise_1 : decode b_Mo_raise 1 = .ok (.iload_n 1, 1) := by decide +kernel
theorem d_Mo_raise_2 : decode b_Mo_raise 2 = .ok (.putfield 51, 3) := by decide +kernel
theorem d_Mo_raise_5 : decode b_Mo_raise 5 = .ok (.iconst 0, 1) := by decide +kernel
theorem d_Mo_raise_6 : decode b_Mo_raise 6 = .ok (.ireturn, 1) := by decide +kernel
theorem d_Mo_in_0 : decode b_Mo_in 0 = .ok (.iload_n 0, 1) := by decide +kernel
theorem d_Mo_in_1 : decode b_Mo_in 1 = .ok (.iload_n 1, 1) := by decide +kernel
theorem d_Mo_in_2 : decode b_Mo_in 2 = .ok (.if_icmp .lt 12, 3) := by decide +kernel
theorem d_Mo_in_5 : decode b_Mo_in 5 = .ok (.iload_n 0, 1) := by decide +kernel
theorem d_Mo_in_6 : decode b_Mo_in 6 = .ok (.iload_n 2, 1) := by decide +kernel
theorem d_Mo_in_7 : decode b_Mo_in 7 = .ok (.if_icmp .gt 7, 3) := by decide +kernel
theorem d_Mo_in_10 : decode b_Mo_in 10 = .ok (.iconst 1, 1) := by decide +kernel
theorem d_Mo_in_11 : decode b_Mo_in 11 = .ok (.goto 4, 3) := by decide +kernel
theorem d_Mo_in_14 : decode b_Mo_in 14 = .ok (.iconst 0, 1) := by decide +kernel
theorem d_Mo_in_15 : decode b_Mo_in 15 = .ok (.ireturn, 1) := by decide +kernel
theorem d_Mo_pageOf_0 : decode b_Mo_pageOf 0 = .ok (.iload_n 0, 1) := by decide +kernel
theorem d_Mo_pageOf_1 : decode b_Mo_pageOf 1 = .ok (.bipush 6, 2) := by decide +kernel
theorem d_Mo_pageOf_3 : decode b_Mo_pageOf 3 = .ok (.if_icmp .ge 9, 3) := by decide +kernel
theorem d_Mo_pageOf_6 : decode b_Mo_pageOf 6 = .ok (.iload_n 0, 1) := by decide +kernel
theorem d_Mo_pageOf_7 : decode b_Mo_pageOf 7 = .ok (.iconst 2, 1) := by decide +kernel
theorem d_Mo_pageOf_8 : decode b_Mo_pageOf 8 = .ok (.idiv, 1) := by decide +kernel
theorem d_Mo_pageOf_9 : decode b_Mo_pageOf 9 = .ok (.goto 11, 3) := by decide +kernel
theorem d_Mo_pageOf_12 : decode b_Mo_pageOf 12 = .ok (.iconst 3, 1) := by decide +kernel
theorem d_Mo_pageOf_13 : decode b_Mo_pageOf 13 = .ok (.iload_n 0, 1) := by decide +kernel
theorem d_Mo_pageOf_14 : decode b_Mo_pageOf 14 = .ok (.bipush 6, 2) := by decide +kernel
theorem d_Mo_pageOf_16 : decode b_Mo_pageOf 16 = .ok (.isub, 1) := by decide +kernel
theorem d_Mo_pageOf_17 : decode b_Mo_pageOf 17 = .ok (.iconst 3, 1) := by decide +kernel
theorem d_Mo_pageOf_18 : decode b_Mo_pageOf 18 = .ok (.idiv, 1) := by decide +kernel
theorem d_Mo_pageOf_19 : decode b_Mo_pageOf 19 = .ok (.iadd, 1) := by decide +kernel
theorem d_Mo_pageOf_20 : decode b_Mo_pageOf 20 = .ok (.ireturn, 1) := by decide +kernel
theorem d_Mo_fall_0 : decode b_Mo_fall 0 = .ok (.iconst 0, 1) := by decide +kernel
theorem d_Mo_fall_1 : decode b_Mo_fall 1 = .ok (.istore_n 1, 1) := by decide +kernel
theorem d_Mo_fall_2 : decode b_Mo_fall 2 = .ok (.iload_n 1, 1) := by decide +kernel
theorem d_Mo_fall_3 : decode b_Mo_fall 3 = .ok (.bipush 15, 2) := by decide +kernel
theorem d_Mo_fall_5 : decode b_Mo_fall 5 = .ok (.if_icmp .ge 45, 3) := by decide +kernel
theorem d_Mo_fall_8 : decode b_Mo_fall 8 = .ok (.aload_n 0, 1) := by decide +kernel
theorem d_Mo_fall_9 : decode b_Mo_fall 9 = .ok (.getfield 7, 3) := by decide +kernel
theorem d_Mo_fall_12 : decode b_Mo_fall 12 = .ok (.iload_n 1, 1) := by decide +kernel
theorem d_Mo_fall_13 : decode b_Mo_fall 13 = .ok (.aload_n 0, 1) := by decide +kernel
theorem d_Mo_fall_14 : decode b_Mo_fall 14 = .ok (.getfield 19, 3) := by decide +kernel
theorem d_Mo_fall_17 : decode b_Mo_fall 17 = .ok (.iload_n 1, 1) := by decide +kernel
theorem d_Mo_fall_18 : decode b_Mo_fall 18 = .ok (.iaload, 1) := by decide +kernel
theorem d_Mo_fall_19 : decode b_Mo_fall 19 = .ok (.iastore, 1) := by decide +kernel
theorem d_Mo_fall_20 : decode b_Mo_fall 20 = .ok (.aload_n 0, 1) := by decide +kernel
theorem d_Mo_fall_21 : decode b_Mo_fall 21 = .ok (.getfield 13, 3) := by decide +kernel
theorem d_Mo_fall_24 : decode b_Mo_fall 24 = .ok (.iload_n 1, 1) := by decide +kernel
theorem d_Mo_fall_25 : decode b_Mo_fall 25 = .ok (.aload_n 0, 1) := by decide +kernel
theorem d_Mo_fall_26 : decode b_Mo_fall 26 = .ok (.getfield 22, 3) := by decide +kernel
theorem d_Mo_fall_29 : decode b_Mo_fall 29 = .ok (.iload_n 1, 1) := by decide +kernel
theorem d_Mo_fall_30 : decode b_Mo_fall 30 = .ok (.iaload, 1) := by decide +kernel
theorem d_Mo_fall_31 : decode b_Mo_fall 31 = .ok (.iastore, 1) := by decide +kernel
theorem d_Mo_fall_32 : decode b_Mo_fall 32 = .ok (.aload_n 0, 1) := by decide +kernel
theorem d_Mo_fall_33 : decode b_Mo_fall 33 = .ok (.getfield 16, 3) := by decide +kernel
theorem d_Mo_fall_36 : decode b_Mo_fall 36 = .ok (.iload_n 1, 1) := by decide +kernel
theorem d_Mo_fall_37 : decode b_Mo_fall 37 = .ok (.aload_n 0, 1) := by decide +kernel
theorem d_Mo_fall_38 : decode b_Mo_fall 38 = .ok (.getfield 25, 3) := by decide +kernel
theorem d_Mo_fall_41 : decode b_Mo_fall 41 = .ok (.iload_n 1, 1) := by decide +kernel
theorem d_Mo_fall_42 : decode b_Mo_fall 42 = .ok (.iaload, 1) := by decide +kernel
theorem d_Mo_fall_43 : decode b_Mo_fall 43 = .ok (.iastore, 1) := by decide +kernel
theorem d_Mo_fall_44 : decode b_Mo_fall 44 = .ok (.iinc 1 1, 3) := by decide +kernel
theorem d_Mo_fall_47 : decode b_Mo_fall 47 = .ok (.goto (-45), 3) := by decide +kernel
theorem d_Mo_fall_50 : decode b_Mo_fall 50 = .ok (.iconst 0, 1) := by decide +kernel
theorem d_Mo_fall_51 : decode b_Mo_fall 51 = .ok (.istore_n 1, 1) := by decide +kernel
theorem d_Mo_fall_52 : decode b_Mo_fall 52 = .ok (.iload_n 1, 1) := by decide +kernel
theorem d_Mo_fall_53 : decode b_Mo_fall 53 = .ok (.bipush 7, 2) := by decide +kernel
theorem d_Mo_fall_55 : decode b_Mo_fall 55 = .ok (.if_icmp .ge 23, 3) := by decide +kernel
theorem d_Mo_fall_58 : decode b_Mo_fall 58 = .ok (.aload_n 0, 1) := by decide +kernel
theorem d_Mo_fall_59 : decode b_Mo_fall 59 = .ok (.getfield 34, 3) := by decide +kernel
theorem d_Mo_fall_62 : decode b_Mo_fall 62 = .ok (.iload_n 1, 1) := by decide +kernel
theorem d_Mo_fall_63 : decode b_Mo_fall 63 = .ok (.iconst 0, 1) := by decide +kernel
theorem d_Mo_fall_64 : decode b_Mo_fall 64 = .ok (.bastore, 1) := by decide +kernel
theorem d_Mo_fall_65 : decode b_Mo_fall 65 = .ok (.aload_n 0, 1) := by decide +kernel
theorem d_Mo_fall_66 : decode b_Mo_fall 66 = .ok (.getfield 38, 3) := by decide +kernel
theorem d_Mo_fall_69 : decode b_Mo_fall 69 = .ok (.iload_n 1, 1) := by decide +kernel
theorem d_Mo_fall_70 : decode b_Mo_fall 70 = .ok (.iconst 0, 1) := by decide +kernel
theorem d_Mo_fall_71 : decode b_Mo_fall 71 = .ok (.iastore, 1) := by decide +kernel
theorem d_Mo_fall_72 : decode b_Mo_fall 72 = .ok (.iinc 1 1, 3) := by decide +kernel
theorem d_Mo_fall_75 : decode b_Mo_fall 75 = .ok (.goto (-23), 3) := by decide +kernel
theorem d_Mo_fall_78 : decode b_Mo_fall 78 = .ok (.iconst 1, 1) := by decide +kernel
theorem d_Mo_fall_79 : decode b_Mo_fall 79 = .ok (.istore_n 1, 1) := by decide +kernel
theorem d_Mo_fall_80 : decode b_Mo_fall 80 = .ok (.iload_n 1, 1) := by decide +kernel
theorem d_Mo_fall_81 : decode b_Mo_fall 81 = .ok (.bipush 40, 2) := by decide +kernel
theorem d_Mo_fall_83 : decode b_Mo_fall 83 = .ok (.if_icmp .gt 49, 3) := by decide +kernel
theorem d_Mo_fall_86 : decode b_Mo_fall 86 = .ok (.aload_n 0, 1) := by decide +kernel
theorem d_Mo_fall_87 : decode b_Mo_fall 87 = .ok (.getfield 28, 3) := by decide +kernel
theorem d_Mo_fall_90 : decode b_Mo_fall 90 = .ok (.iload_n 1, 1) := by decide +kernel
theorem d_Mo_fall_91 : decode b_Mo_fall 91 = .ok (.aload_n 0, 1) := by decide +kernel
theorem d_Mo_fall_92 : decode b_Mo_fall 92 = .ok (.getfield 31, 3) := by decide +kernel
theorem d_Mo_fall_95 : decode b_Mo_fall 95 = .ok (.iload_n 1, 1) := by decide +kernel
theorem d_Mo_fall_96 : decode b_Mo_fall 96 = .ok (.iaload, 1) := by decide +kernel
theorem d_Mo_fall_97 : decode b_Mo_fall 97 = .ok (.iastore, 1) := by decide +kernel
theorem d_Mo_fall_98 : decode b_Mo_fall 98 = .ok (.aload_n 0, 1) := by decide +kernel
theorem d_Mo_fall_99 : decode b_Mo_fall 99 = .ok (.getfield 28, 3) := by decide +kernel
theorem d_Mo_fall_102 : decode b_Mo_fall 102 = .ok (.iload_n 1, 1) := by decide +kernel
theorem d_Mo_fall_103 : decode b_Mo_fall 103 = .ok (.iaload, 1) := by decide +kernel
theorem d_Mo_fall_104 : decode b_Mo_fall 104 = .ok (.iconst 1, 1) := by decide +kernel
theorem d_Mo_fall_105 : decode b_Mo_fall 105 = .ok (.if_icmp .eq 6, 3) := by decide +kernel
theorem d_Mo_fall_108 : decode b_Mo_fall 108 = .ok (.goto 18, 3) := by decide +kernel
theorem d_Mo_fall_111 : decode b_Mo_fall 111 = .ok (.aload_n 0, 1) := by decide +kernel
theorem d_Mo_fall_112 : decode b_Mo_fall 112 = .ok (.getfield 28, 3) := by decide +kernel
theorem d_Mo_fall_115 : decode b_Mo_fall 115 = .ok (.iload_n 1, 1) := by decide +kernel
theorem d_Mo_fall_116 : decode b_Mo_fall 116 = .ok (.iconst 3, 1) := by decide +kernel
theorem d_Mo_fall_117 : decode b_Mo_fall 117 = .ok (.iastore, 1) := by decide +kernel
theorem d_Mo_fall_118 : decode b_Mo_fall 118 = .ok (.aload_n 0, 1) := by decide +kernel
theorem d_Mo_fall_119 : decode b_Mo_fall 119 = .ok (.getfield 34, 3) := by decide +kernel
theorem d_Mo_fall_122 : decode b_Mo_fall 122 = .ok (.bipush 6, 2) := by decide +kernel
theorem d_Mo_fall_124 : decode b_Mo_fall 124 = .ok (.iconst 1, 1) := by decide +kernel
theorem d_Mo_fall_125 : decode b_Mo_fall 125 = .ok (.bastore, 1) := by decide +kernel
theorem d_Mo_fall_126 : decode b_Mo_fall 126 = .ok (.iinc 1 1, 3) := by decide +kernel
theorem d_Mo_fall_129 : decode b_Mo_fall 129 = .ok (.goto (-49), 3) := by decide +kernel
theorem d_Mo_fall_132 : decode b_Mo_fall 132 = .ok (.aload_n 0, 1) := by decide +kernel
theorem d_Mo_fall_133 : decode b_Mo_fall 133 = .ok (.dup, 1) := by decide +kernel
theorem d_Mo_fall_134 : decode b_Mo_fall 134 = .ok (.getfield 55, 3) := by decide +kernel
theorem d_Mo_fall_137 : decode b_Mo_fall 137 = .ok (.iconst 1, 1) := by decide +kernel
theorem d_Mo_fall_138 : decode b_Mo_fall 138 = .ok (.iadd, 1) := by decide +kernel
theorem d_Mo_fall_139 : decode b_Mo_fall 139 = .ok (.putfield 55, 3) := by decide +kernel
theorem d_Mo_fall_142 : decode b_Mo_fall 142 = .ok (.aload_n 0, 1) := by decide +kernel
theorem d_Mo_fall_143 : decode b_Mo_fall 143 = .ok (.iconst 1, 1) := by decide +kernel
theorem d_Mo_fall_144 : decode b_Mo_fall 144 = .ok (.putfield 58, 3) := by decide +kernel
theorem d_Mo_fall_147 : decode b_Mo_fall 147 = .ok (.return_, 1) := by decide +kernel
theorem d_Mo_put_0 : decode b_Mo_put 0 = .ok (.aload_n 0, 1) := by decide +kernel
theorem d_Mo_put_1 : decode b_Mo_put 1 = .ok (.getfield 62, 3) := by decide +kernel
theorem d_Mo_put_4 : decode b_Mo_put 4 = .ok (.iconst 1, 1) := by decide +kernel
theorem d_Mo_put_5 : decode b_Mo_put 5 = .ok (.if_icmp .ne 13, 3) := by decide +kernel
theorem d_Mo_put_8 : decode b_Mo_put 8 = .ok (.aload_n 0, 1) := by decide +kernel
theorem d_Mo_put_9 : decode b_Mo_put 9 = .ok (.iconst 0, 1) := by decide +kernel
theorem d_Mo_put_10 : decode b_Mo_put 10 = .ok (.putfield 62, 3) := by decide +kernel
theorem d_Mo_put_13 : decode b_Mo_put 13 = .ok (.aload_n 0, 1) := by decide +kernel
theorem d_Mo_put_14 : decode b_Mo_put 14 = .ok (.invokevirtual 65, 3) := by decide +kernel
theorem d_Mo_put_17 : decode b_Mo_put 17 = .ok (.return_, 1) := by decide +kernel
theorem d_Mo_put_18 : decode b_Mo_put 18 = .ok (.aload_n 0, 1) := by decide +kernel
theorem d_Mo_put_19 : decode b_Mo_put 19 = .ok (.getfield 62, 3) := by decide +kernel
theorem d_Mo_put_22 : decode b_Mo_put 22 = .ok (.ifCond .le 13, 3) := by decide +kernel
theorem d_Mo_put_25 : decode b_Mo_put 25 = .ok (.aload_n 0, 1) := by decide +kernel
theorem d_Mo_put_26 : decode b_Mo_put 26 = .ok (.dup, 1) := by decide +kernel
theorem d_Mo_put_27 : decode b_Mo_put 27 = .ok (.getfield 62, 3) := by decide +kernel
theorem d_Mo_put_30 : decode b_Mo_put 30 = .ok (.iconst 1, 1) := by decide +kernel
theorem d_Mo_put_31 : decode b_Mo_put 31 = .ok (.isub, 1) := by decide +kernel
theorem d_Mo_put_32 : decode b_Mo_put 32 = .ok (.putfield 62, 3) := by decide +kernel
theorem d_Mo_put_35 : decode b_Mo_put 35 = .ok (.iconst 0, 1) := by decide +kernel
theorem d_Mo_put_36 : decode b_Mo_put 36 = .ok (.istore_n 2, 1) := by decide +kernel
theorem d_Mo_put_37 : decode b_Mo_put 37 = .ok (.iload_n 2, 1) := by decide +kernel
theorem d_Mo_put_38 : decode b_Mo_put 38 = .ok (.bipush 15, 2) := by decide +kernel
theorem d_Mo_put_40 : decode b_Mo_put 40 = .ok (.if_icmp .ge 56, 3) := by decide +kernel
theorem d_Mo_put_43 : decode b_Mo_put 43 = .ok (.iload_n 2, 1) := by decide +kernel
theorem d_Mo_put_44 : decode b_Mo_put 44 = .ok (.invokestatic 68, 3) := by decide +kernel
theorem d_Mo_put_47 : decode b_Mo_put 47 = .ok (.iload_n 1, 1) := by decide +kernel
theorem d_Mo_put_48 : decode b_Mo_put 48 = .ok (.if_icmp .eq 6, 3) := by decide +kernel
theorem d_Mo_put_51 : decode b_Mo_put 51 = .ok (.goto 39, 3) := by decide +kernel
theorem d_Mo_put_54 : decode b_Mo_put 54 = .ok (.aload_n 0, 1) := by decide +kernel
theorem d_Mo_put_55 : decode b_Mo_put 55 = .ok (.getfield 19, 3) := by decide +kernel
theorem d_Mo_put_58 : decode b_Mo_put 58 = .ok (.iload_n 2, 1) := by decide +kernel
theorem d_Mo_put_59 : decode b_Mo_put 59 = .ok (.aload_n 0, 1) := by decide +kernel
theorem d_Mo_put_60 : decode b_Mo_put 60 = .ok (.getfield 7, 3) := by decide +kernel
theorem d_Mo_put_63 : decode b_Mo_put 63 = .ok (.iload_n 2, 1) := by decide +kernel
theorem d_Mo_put_64 : decode b_Mo_put 64 = .ok (.iaload, 1) := by decide +kernel
theorem d_Mo_put_65 : decode b_Mo_put 65 = .ok (.iastore, 1) := by decide +kernel
theorem d_Mo_put_66 : decode b_Mo_put 66 = .ok (.aload_n 0, 1) := by decide +kernel
theorem d_Mo_put_67 : decode b_Mo_put 67 = .ok (.getfield 22, 3) := by decide +kernel
theorem d_Mo_put_70 : decode b_Mo_put 70 = .ok (.iload_n 2, 1) := by decide +kernel
theorem d_Mo_put_71 : decode b_Mo_put 71 = .ok (.aload_n 0, 1) := by decide +kernel
theorem d_Mo_put_72 : decode b_Mo_put 72 = .ok (.getfield 13, 3) := by decide +kernel
theorem d_Mo_put_75 : decode b_Mo_put 75 = .ok (.iload_n 2, 1) := by decide +kernel
theorem d_Mo_put_76 : decode b_Mo_put 76 = .ok (.iaload, 1) := by decide +kernel
theorem d_Mo_put_77 : decode b_Mo_put 77 = .ok (.iastore, 1) := by decide +kernel
theorem d_Mo_put_78 : decode b_Mo_put 78 = .ok (.aload_n 0, 1) := by decide +kernel
theorem d_Mo_put_79 : decode b_Mo_put 79 = .ok (.getfield 25, 3) := by decide +kernel
theorem d_Mo_put_82 : decode b_Mo_put 82 = .ok (.iload_n 2, 1) := by decide +kernel
theorem d_Mo_put_83 : decode b_Mo_put 83 = .ok (.aload_n 0, 1) := by decide +kernel
theorem d_Mo_put_84 : decode b_Mo_put 84 = .ok (.getfield 16, 3) := by decide +kernel
theorem d_Mo_put_87 : decode b_Mo_put 87 = .ok (.iload_n 2, 1) := by decide +kernel
theorem d_Mo_put_88 : decode b_Mo_put 88 = .ok (.iaload, 1) := by decide +kernel
theorem d_Mo_put_89 : decode b_Mo_put 89 = .ok (.iastore, 1) := by decide +kernel
theorem d_Mo_put_90 : decode b_Mo_put 90 = .ok (.iinc 2 1, 3) := by decide +kernel
theorem d_Mo_put_93 : decode b_Mo_put 93 = .ok (.goto (-56), 3) := by decide +kernel
theorem d_Mo_put_96 : decode b_Mo_put 96 = .ok (.iconst 1, 1) := by decide +kernel
theorem d_Mo_put_97 : decode b_Mo_put 97 = .ok (.istore_n 2, 1) := by decide +kernel
theorem d_Mo_put_98 : decode b_Mo_put 98 = .ok (.iload_n 2, 1) := by decide +kernel
theorem d_Mo_put_99 : decode b_Mo_put 99 = .ok (.bipush 40, 2) := by decide +kernel
theorem d_Mo_put_101 : decode b_Mo_put 101 = .ok (.if_icmp .gt 27, 3) := by decide +kernel
theorem d_Mo_put_104 : decode b_Mo_put 104 = .ok (.iload_n 1, 1) := by decide +kernel
theorem d_Mo_put_105 : decode b_Mo_put 105 = .ok (.bipush 6, 2) := by decide +kernel
theorem d_Mo_put_107 : decode b_Mo_put 107 = .ok (.if_icmp .ne 21, 3) := by decide +kernel
theorem d_Mo_put_110 : decode b_Mo_put 110 = .ok (.aload_n 0, 1) := by decide +kernel
theorem d_Mo_put_111 : decode b_Mo_put 111 = .ok (.getfield 31, 3) := by decide +kernel
theorem d_Mo_put_114 : decode b_Mo_put 114 = .ok (.iload_n 2, 1) := by decide +kernel
theorem d_Mo_put_115 : decode b_Mo_put 115 = .ok (.aload_n 0, 1) := by decide +kernel
theorem d_Mo_put_116 : decode b_Mo_put 116 = .ok (.getfield 28, 3) := by decide +kernel
theorem d_Mo_put_119 : decode b_Mo_put 119 = .ok (.iload_n 2, 1) := by decide +kernel
theorem d_Mo_put_120 : decode b_Mo_put 120 = .ok (.iaload, 1) := by decide +kernel
theorem d_Mo_put_121 : decode b_Mo_put 121 = .ok (.iastore, 1) := by decide +kernel
theorem d_Mo_put_122 : decode b_Mo_put 122 = .ok (.iinc 2 1, 3) := by decide +kernel
theorem d_Mo_put_125 : decode b_Mo_put 125 = .ok (.goto (-27), 3) := by decide +kernel
theorem d_Mo_put_128 : decode b_Mo_put 128 = .ok (.aload_n 0, 1) := by decide +kernel
theorem d_Mo_put_129 : decode b_Mo_put 129 = .ok (.getfield 34, 3) := by decide +kernel
theorem d_Mo_put_132 : decode b_Mo_put 132 = .ok (.iload_n 1, 1) := by decide +kernel
theorem d_Mo_put_133 : decode b_Mo_put 133 = .ok (.iconst 0, 1) := by decide +kernel
theorem d_Mo_put_134 : decode b_Mo_put 134 = .ok (.bastore, 1) := by decide +kernel
theorem d_Mo_put_135 : decode b_Mo_put 135 = .ok (.iconst 0, 1) := by decide +kernel
theorem d_Mo_put_136 : decode b_Mo_put 136 = .ok (.istore_n 2, 1) := by decide +kernel
theorem d_Mo_put_137 : decode b_Mo_put 137 = .ok (.iload_n 2, 1) := by decide +kernel
theorem d_Mo_put_138 : decode b_Mo_put 138 = .ok (.bipush 7, 2) := by decide +kernel
theorem d_Mo_put_140 : decode b_Mo_put 140 = .ok (.if_icmp .ge 23, 3) := by decide +kernel
theorem d_Mo_put_143 : decode b_Mo_put 143 = .ok (.aload_n 0, 1) := by decide +kernel
theorem d_Mo_put_144 : decode b_Mo_put 144 = .ok (.getfield 38, 3) := by decide +kernel
theorem d_Mo_put_147 : decode b_Mo_put 147 = .ok (.iload_n 2, 1) := by decide +kernel
theorem d_Mo_put_148 : decode b_Mo_put 148 = .ok (.dup2, 1) := by decide +kernel
theorem d_Mo_put_149 : decode b_Mo_put 149 = .ok (.iaload, 1) := by decide +kernel
theorem d_Mo_put_150 : decode b_Mo_put 150 = .ok (.iconst 1, 1) := by decide +kernel
theorem d_Mo_put_151 : decode b_Mo_put 151 = .ok (.iload_n 1, 1) := by decide +kernel
theorem d_Mo_put_152 : decode b_Mo_put 152 = .ok (.ishl, 1) := by decide +kernel
theorem d_Mo_put_153 : decode b_Mo_put 153 = .ok (.iconst (-1), 1) := by decide +kernel
theorem d_Mo_put_154 : decode b_Mo_put 154 = .ok (.ixor, 1) := by decide +kernel
theorem d_Mo_put_155 : decode b_Mo_put 155 = .ok (.iand, 1) := by decide +kernel
theorem d_Mo_put_156 : decode b_Mo_put 156 = .ok (.iastore, 1) := by decide +kernel
theorem d_Mo_put_157 : decode b_Mo_put 157 = .ok (.iinc 2 1, 3) := by decide +kernel
theorem d_Mo_put_160 : decode b_Mo_put 160 = .ok (.goto (-23), 3) := by decide +kernel
theorem d_Mo_put_163 : decode b_Mo_put 163 = .ok (.aload_n 0, 1) := by decide +kernel
theorem d_Mo_put_164 : decode b_Mo_put 164 = .ok (.dup, 1) := by decide +kernel
theorem d_Mo_put_165 : decode b_Mo_put 165 = .ok (.getfield 72, 3) := by decide +kernel
theorem d_Mo_put_168 : decode b_Mo_put 168 = .ok (.iconst 1, 1) := by decide +kernel
theorem d_Mo_put_169 : decode b_Mo_put 169 = .ok (.iadd, 1) := by decide +kernel
theorem d_Mo_put_170 : decode b_Mo_put 170 = .ok (.putfield 72, 3) := by decide +kernel
theorem d_Mo_put_173 : decode b_Mo_put 173 = .ok (.return_, 1) := by decide +kernel
theorem d_Mo_waitsFor_0 : decode b_Mo_waitsFor 0 = .ok (.iconst 0, 1) := by decide +kernel
theorem d_Mo_waitsFor_1 : decode b_Mo_waitsFor 1 = .ok (.istore_n 2, 1) := by decide +kernel
theorem d_Mo_waitsFor_2 : decode b_Mo_waitsFor 2 = .ok (.iload_n 2, 1) := by decide +kernel
theorem d_Mo_waitsFor_3 : decode b_Mo_waitsFor 3 = .ok (.bipush 7, 2) := by decide +kernel
theorem d_Mo_waitsFor_5 : decode b_Mo_waitsFor 5 = .ok (.if_icmp .ge 33, 3) := by decide +kernel
theorem d_Mo_waitsFor_8 : decode b_Mo_waitsFor 8 = .ok (.aload_n 0, 1) := by decide +kernel
theorem d_Mo_waitsFor_9 : decode b_Mo_waitsFor 9 = .ok (.getfield 38, 3) := by decide +kernel
theorem d_Mo_waitsFor_12 : decode b_Mo_waitsFor 12 = .ok (.iload_n 1, 1) := by decide +kernel
theorem d_Mo_waitsFor_13 : decode b_Mo_waitsFor 13 = .ok (.iaload, 1) := by decide +kernel
theorem d_Mo_waitsFor_14 : decode b_Mo_waitsFor 14 = .ok (.iload_n 2, 1) := by decide +kernel
theorem d_Mo_waitsFor_15 : decode b_Mo_waitsFor 15 = .ok (.ishr, 1) := by decide +kernel
theorem d_Mo_waitsFor_16 : decode b_Mo_waitsFor 16 = .ok (.iconst 1, 1) := by decide +kernel
theorem d_Mo_waitsFor_17 : decode b_Mo_waitsFor 17 = .ok (.iand, 1) := by decide +kernel
theorem d_Mo_waitsFor_18 : decode b_Mo_waitsFor 18 = .ok (.ifCond .eq 14, 3) := by decide +kernel
theorem d_Mo_waitsFor_21 : decode b_Mo_waitsFor 21 = .ok (.aload_n 0, 1) := by decide +kernel
theorem d_Mo_waitsFor_22 : decode b_Mo_waitsFor 22 = .ok (.getfield 34, 3) := by decide +kernel
theorem d_Mo_waitsFor_25 : decode b_Mo_waitsFor 25 = .ok (.iload_n 2, 1) := by decide +kernel
theorem d_Mo_waitsFor_26 : decode b_Mo_waitsFor 26 = .ok (.baload, 1) := by decide +kernel
theorem d_Mo_waitsFor_27 : decode b_Mo_waitsFor 27 = .ok (.ifCond .eq 5, 3) := by decide +kernel
theorem d_Mo_waitsFor_30 : decode b_Mo_waitsFor 30 = .ok (.iload_n 2, 1) := by decide +kernel
theorem d_Mo_waitsFor_31 : decode b_Mo_waitsFor 31 = .ok (.ireturn, 1) := by decide +kernel
theorem d_Mo_waitsFor_32 : decode b_Mo_waitsFor 32 = .ok (.iinc 2 1, 3) := by decide +kernel
theorem d_Mo_waitsFor_35 : decode b_Mo_waitsFor 35 = .ok (.goto (-33), 3) := by decide +kernel
theorem d_Mo_waitsFor_38 : decode b_Mo_waitsFor 38 = .ok (.iconst (-1), 1) := by decide +kernel
theorem d_Mo_waitsFor_39 : decode b_Mo_waitsFor 39 = .ok (.ireturn, 1) := by decide +kernel
theorem d_Mo_store_0 : decode b_Mo_store 0 = .ok (.aload_n 0, 1) := by decide +kernel
theorem d_Mo_store_1 : decode b_Mo_store 1 = .ok (.getfield 48, 3) := by decide +kernel
theorem d_Mo_store_4 : decode b_Mo_store 4 = .ok (.iconst 0, 1) := by decide +kernel
theorem d_Mo_store_5 : decode b_Mo_store 5 = .ok (.iload_n 1, 1) := by decide +kernel
theorem d_Mo_store_6 : decode b_Mo_store 6 = .ok (.iastore, 1) := by decide +kernel
theorem d_Mo_store_7 : decode b_Mo_store 7 = .ok (.iconst 1, 1) := by decide +kernel
theorem d_Mo_store_8 : decode b_Mo_store 8 = .ok (.istore_n 2, 1) := by decide +kernel
theorem d_Mo_store_9 : decode b_Mo_store 9 = .ok (.iload_n 2, 1) := by decide +kernel
theorem d_Mo_store_10 : decode b_Mo_store 10 = .ok (.ifCond .le 58, 3) := by decide +kernel
theorem d_Mo_store_13 : decode b_Mo_store 13 = .ok (.aload_n 0, 1) := by decide +kernel
theorem d_Mo_store_14 : decode b_Mo_store 14 = .ok (.getfield 58, 3) := by decide +kernel
theorem d_Mo_store_17 : decode b_Mo_store 17 = .ok (.ifCond .ne 51, 3) := by decide +kernel
theorem d_Mo_store_20 : decode b_Mo_store 20 = .ok (.aload_n 0, 1) := by decide +kernel
theorem d_Mo_store_21 : decode b_Mo_store 21 = .ok (.aload_n 0, 1) := by decide +kernel
theorem d_Mo_store_22 : decode b_Mo_store 22 = .ok (.getfield 48, 3) := by decide +kernel
theorem d_Mo_store_25 : decode b_Mo_store 25 = .ok (.iload_n 2, 1) := by decide +kernel
theorem d_Mo_store_26 : decode b_Mo_store 26 = .ok (.iconst 1, 1) := by decide +kernel
theorem d_Mo_store_27 : decode b_Mo_store 27 = .ok (.isub, 1) := by decide +kernel
theorem d_Mo_store_28 : decode b_Mo_store 28 = .ok (.iaload, 1) := by decide +kernel
theorem d_Mo_store_29 : decode b_Mo_store 29 = .ok (.invokevirtual 75, 3) := by decide +kernel
theorem d_Mo_store_32 : decode b_Mo_store 32 = .ok (.istore_n 3, 1) := by decide +kernel
theorem d_Mo_store_33 : decode b_Mo_store 33 = .ok (.iload_n 3, 1) := by decide +kernel
theorem d_Mo_store_34 : decode b_Mo_store 34 = .ok (.ifCond .lt 16, 3) := by decide +kernel
theorem d_Mo_store_37 : decode b_Mo_store 37 = .ok (.aload_n 0, 1) := by decide +kernel
theorem d_Mo_store_38 : decode b_Mo_store 38 = .ok (.getfield 48, 3) := by decide +kernel
theorem d_Mo_store_41 : decode b_Mo_store 41 = .ok (.iload_n 2, 1) := by decide +kernel
theorem d_Mo_store_42 : decode b_Mo_store 42 = .ok (.iload_n 3, 1) := by decide +kernel
theorem d_Mo_store_43 : decode b_Mo_store 43 = .ok (.iastore, 1) := by decide +kernel
theorem d_Mo_store_44 : decode b_Mo_store 44 = .ok (.iinc 2 1, 3) := by decide +kernel
theorem d_Mo_store_47 : decode b_Mo_store 47 = .ok (.goto 18, 3) := by decide +kernel
theorem d_Mo_store_50 : decode b_Mo_store 50 = .ok (.aload_n 0, 1) := by decide +kernel
theorem d_Mo_store_51 : decode b_Mo_store 51 = .ok (.aload_n 0, 1) := by decide +kernel
theorem d_Mo_store_52 : decode b_Mo_store 52 = .ok (.getfield 48, 3) := by decide +kernel
theorem d_Mo_store_55 : decode b_Mo_store 55 = .ok (.iload_n 2, 1) := by decide +kernel
theorem d_Mo_store_56 : decode b_Mo_store 56 = .ok (.iconst 1, 1) := by decide +kernel
theorem d_Mo_store_57 : decode b_Mo_store 57 = .ok (.isub, 1) := by decide +kernel
theorem d_Mo_store_58 : decode b_Mo_store 58 = .ok (.iaload, 1) := by decide +kernel
theorem d_Mo_store_59 : decode b_Mo_store 59 = .ok (.invokevirtual 78, 3) := by decide +kernel
theorem d_Mo_store_62 : decode b_Mo_store 62 = .ok (.iinc 2 (-1), 3) := by decide +kernel
theorem d_Mo_store_65 : decode b_Mo_store 65 = .ok (.goto (-56), 3) := by decide +kernel
theorem d_Mo_store_68 : decode b_Mo_store 68 = .ok (.return_, 1) := by decide +kernel
theorem d_Mo_before_0 : decode b_Mo_before 0 = .ok (.aload_n 0, 1) := by decide +kernel
theorem d_Mo_before_1 : decode b_Mo_before 1 = .ok (.getfield 38, 3) := by decide +kernel
theorem d_Mo_before_4 : decode b_Mo_before 4 = .ok (.iload_n 1, 1) := by decide +kernel
theorem d_Mo_before_5 : decode b_Mo_before 5 = .ok (.iaload, 1) := by decide +kernel
theorem d_Mo_before_6 : decode b_Mo_before 6 = .ok (.istore_n 2, 1) := by decide +kernel
theorem d_Mo_before_7 : decode b_Mo_before 7 = .ok (.iconst 0, 1) := by decide +kernel
theorem d_Mo_before_8 : decode b_Mo_before 8 = .ok (.istore_n 3, 1) := by decide +kernel
theorem d_Mo_before_9 : decode b_Mo_before 9 = .ok (.iload_n 3, 1) := by decide +kernel
theorem d_Mo_before_10 : decode b_Mo_before 10 = .ok (.bipush 7, 2) := by decide +kernel
theorem d_Mo_before_12 : decode b_Mo_before 12 = .ok (.if_icmp .ge 44, 3) := by decide +kernel
theorem d_Mo_before_15 : decode b_Mo_before 15 = .ok (.iconst 0, 1) := by decide +kernel
theorem d_Mo_before_16 : decode b_Mo_before 16 = .ok (.istore 4, 2) := by decide +kernel
theorem d_Mo_before_18 : decode b_Mo_before 18 = .ok (.iload 4, 2) := by decide +kernel
theorem d_Mo_before_20 : decode b_Mo_before 20 = .ok (.bipush 7, 2) := by decide +kernel
theorem d_Mo_before_22 : decode b_Mo_before 22 = .ok (.if_icmp .ge 28, 3) := by decide +kernel
theorem d_Mo_before_25 : decode b_Mo_before 25 = .ok (.iload_n 2, 1) := by decide +kernel
theorem d_Mo_before_26 : decode b_Mo_before 26 = .ok (.iload 4, 2) := by decide +kernel
theorem d_Mo_before_28 : decode b_Mo_before 28 = .ok (.ishr, 1) := by decide +kernel
theorem d_Mo_before_29 : decode b_Mo_before 29 = .ok (.iconst 1, 1) := by decide +kernel
theorem d_Mo_before_30 : decode b_Mo_before 30 = .ok (.iand, 1) := by decide +kernel
theorem d_Mo_before_31 : decode b_Mo_before 31 = .ok (.ifCond .eq 13, 3) := by decide +kernel
theorem d_Mo_before_34 : decode b_Mo_before 34 = .ok (.iload_n 2, 1) := by decide +kernel
theorem d_Mo_before_35 : decode b_Mo_before 35 = .ok (.aload_n 0, 1) := by decide +kernel
theorem d_Mo_before_36 : decode b_Mo_before 36 = .ok (.getfield 38, 3) := by decide +kernel
theorem d_Mo_before_39 : decode b_Mo_before 39 = .ok (.iload 4, 2) := by decide +kernel
theorem d_Mo_before_41 : decode b_Mo_before 41 = .ok (.iaload, 1) := by decide +kernel
theorem d_Mo_before_42 : decode b_Mo_before 42 = .ok (.ior, 1) := by decide +kernel
theorem d_Mo_before_43 : decode b_Mo_before 43 = .ok (.istore_n 2, 1) := by decide +kernel
theorem d_Mo_before_44 : decode b_Mo_before 44 = .ok (.iinc 4 1, 3) := by decide +kernel
theorem d_Mo_before_47 : decode b_Mo_before 47 = .ok (.goto (-29), 3) := by decide +kernel
theorem d_Mo_before_50 : decode b_Mo_before 50 = .ok (.iinc 3 1, 3) := by decide +kernel
theorem d_Mo_before_53 : decode b_Mo_before 53 = .ok (.goto (-44), 3) := by decide +kernel
theorem d_Mo_before_56 : decode b_Mo_before 56 = .ok (.iload_n 2, 1) := by decide +kernel
theorem d_Mo_before_57 : decode b_Mo_before 57 = .ok (.ireturn, 1) := by decide +kernel
theorem d_Mo_note_0 : decode b_Mo_note 0 = .ok (.aload_n 0, 1) := by decide +kernel
theorem d_Mo_note_1 : decode b_Mo_note 1 = .ok (.getfield 58, 3) := by decide +kernel
theorem d_Mo_note_4 : decode b_Mo_note 4 = .ok (.ifCond .eq 4, 3) := by decide +kernel
theorem d_Mo_note_7 : decode b_Mo_note 7 = .ok (.return_, 1) := by decide +kernel
theorem d_Mo_note_8 : decode b_Mo_note 8 = .ok (.aload_n 0, 1) := by decide +kernel
theorem d_Mo_note_9 : decode b_Mo_note 9 = .ok (.iload_n 1, 1) := by decide +kernel
theorem d_Mo_note_10 : decode b_Mo_note 10 = .ok (.invokevirtual 82, 3) := by decide +kernel
theorem d_Mo_note_13 : decode b_Mo_note 13 = .ok (.iload_n 2, 1) := by decide +kernel
theorem d_Mo_note_14 : decode b_Mo_note 14 = .ok (.ishr, 1) := by decide +kernel
theorem d_Mo_note_15 : decode b_Mo_note 15 = .ok (.iconst 1, 1) := by decide +kernel
theorem d_Mo_note_16 : decode b_Mo_note 16 = .ok (.iand, 1) := by decide +kernel
theorem d_Mo_note_17 : decode b_Mo_note 17 = .ok (.ifCond .eq 8, 3) := by decide +kernel
theorem d_Mo_note_20 : decode b_Mo_note 20 = .ok (.aload_n 0, 1) := by decide +kernel
theorem d_Mo_note_21 : decode b_Mo_note 21 = .ok (.iload_n 2, 1) := by decide +kernel
theorem d_Mo_note_22 : decode b_Mo_note 22 = .ok (.invokevirtual 85, 3) := by decide +kernel
theorem d_Mo_note_25 : decode b_Mo_note 25 = .ok (.aload_n 0, 1) := by decide +kernel
theorem d_Mo_note_26 : decode b_Mo_note 26 = .ok (.getfield 58, 3) := by decide +kernel
theorem d_Mo_note_29 : decode b_Mo_note 29 = .ok (.ifCond .ne 20, 3) := by decide +kernel
theorem d_Mo_note_32 : decode b_Mo_note 32 = .ok (.iload_n 1, 1) := by decide +kernel
theorem d_Mo_note_33 : decode b_Mo_note 33 = .ok (.iload_n 2, 1) := by decide +kernel
theorem d_Mo_note_34 : decode b_Mo_note 34 = .ok (.if_icmp .eq 15, 3) := by decide +kernel
theorem d_Mo_note_37 : decode b_Mo_note 37 = .ok (.aload_n 0, 1) := by decide +kernel
theorem d_Mo_note_38 : decode b_Mo_note 38 = .ok (.getfield 38, 3) := by decide +kernel
theorem d_Mo_note_41 : decode b_Mo_note 41 = .ok (.iload_n 2, 1) := by decide +kernel
theorem d_Mo_note_42 : decode b_Mo_note 42 = .ok (.dup2, 1) := by decide +kernel
theorem d_Mo_note_43 : decode b_Mo_note 43 = .ok (.iaload, 1) := by decide +kernel
theorem d_Mo_note_44 : decode b_Mo_note 44 = .ok (.iconst 1, 1) := by decide +kernel
theorem d_Mo_note_45 : decode b_Mo_note 45 = .ok (.iload_n 1, 1) := by decide +kernel
theorem d_Mo_note_46 : decode b_Mo_note 46 = .ok (.ishl, 1) := by decide +kernel
theorem d_Mo_note_47 : decode b_Mo_note 47 = .ok (.ior, 1) := by decide +kernel
theorem d_Mo_note_48 : decode b_Mo_note 48 = .ok (.iastore, 1) := by decide +kernel
theorem d_Mo_note_49 : decode b_Mo_note 49 = .ok (.return_, 1) := by decide +kernel
theorem d_Mo_done_0 : decode b_Mo_done 0 = .ok (.aload_n 0, 1) := by decide +kernel
theorem d_Mo_done_1 : decode b_Mo_done 1 = .ok (.getfield 58, 3) := by decide +kernel
theorem d_Mo_done_4 : decode b_Mo_done 4 = .ok (.ifCond .eq 8, 3) := by decide +kernel
theorem d_Mo_done_7 : decode b_Mo_done 7 = .ok (.bipush (-9), 2) := by decide +kernel
theorem d_Mo_done_9 : decode b_Mo_done 9 = .ok (.goto 4, 3) := by decide +kernel
theorem d_Mo_done_12 : decode b_Mo_done 12 = .ok (.iload_n 1, 1) := by decide +kernel
theorem d_Mo_done_13 : decode b_Mo_done 13 = .ok (.ireturn, 1) := by decide +kernel
theorem d_Mo_begun_0 : decode b_Mo_begun 0 = .ok (.aload_n 0, 1) := by decide +kernel
theorem d_Mo_begun_1 : decode b_Mo_begun 1 = .ok (.iconst 0, 1) := by decide +kernel
theorem d_Mo_begun_2 : decode b_Mo_begun 2 = .ok (.putfield 51, 3) := by decide +kernel
theorem d_Mo_begun_5 : decode b_Mo_begun 5 = .ok (.aload_n 0, 1) := by decide +kernel
theorem d_Mo_begun_6 : decode b_Mo_begun 6 = .ok (.iconst 0, 1) := by decide +kernel
theorem d_Mo_begun_7 : decode b_Mo_begun 7 = .ok (.putfield 58, 3) := by decide +kernel
theorem d_Mo_begun_10 : decode b_Mo_begun 10 = .ok (.aload_n 0, 1) := by decide +kernel
theorem d_Mo_begun_11 : decode b_Mo_begun 11 = .ok (.iconst 0, 1) := by decide +kernel
theorem d_Mo_begun_12 : decode b_Mo_begun 12 = .ok (.putfield 88, 3) := by decide +kernel
theorem d_Mo_begun_15 : decode b_Mo_begun 15 = .ok (.return_, 1) := by decide +kernel
theorem d_Mo_actives_0 : decode b_Mo_actives 0 = .ok (.iconst 0, 1) := by decide +kernel
theorem d_Mo_actives_1 : decode b_Mo_actives 1 = .ok (.istore_n 1, 1) := by decide +kernel
theorem d_Mo_actives_2 : decode b_Mo_actives 2 = .ok (.iconst 1, 1) := by decide +kernel
theorem d_Mo_actives_3 : decode b_Mo_actives 3 = .ok (.istore_n 2, 1) := by decide +kernel
theorem d_Mo_actives_4 : decode b_Mo_actives 4 = .ok (.iload_n 2, 1) := by decide +kernel
theorem d_Mo_actives_5 : decode b_Mo_actives 5 = .ok (.bipush 40, 2) := by decide +kernel
theorem d_Mo_actives_7 : decode b_Mo_actives 7 = .ok (.if_icmp .gt 22, 3) := by decide +kernel
theorem d_Mo_actives_10 : decode b_Mo_actives 10 = .ok (.aload_n 0, 1) := by decide +kernel
theorem d_Mo_actives_11 : decode b_Mo_actives 11 = .ok (.getfield 28, 3) := by decide +kernel
theorem d_Mo_actives_14 : decode b_Mo_actives 14 = .ok (.iload_n 2, 1) := by decide +kernel
theorem d_Mo_actives_15 : decode b_Mo_actives 15 = .ok (.iaload, 1) := by decide +kernel
theorem d_Mo_actives_16 : decode b_Mo_actives 16 = .ok (.iconst 1, 1) := by decide +kernel
theorem d_Mo_actives_17 : decode b_Mo_actives 17 = .ok (.if_icmp .ne 6, 3) := by decide +kernel
theorem d_Mo_actives_20 : decode b_Mo_actives 20 = .ok (.iinc 1 1, 3) := by decide +kernel
theorem d_Mo_actives_23 : decode b_Mo_actives 23 = .ok (.iinc 2 1, 3) := by decide +kernel
theorem d_Mo_actives_26 : decode b_Mo_actives 26 = .ok (.goto (-22), 3) := by decide +kernel
theorem d_Mo_actives_29 : decode b_Mo_actives 29 = .ok (.iload_n 1, 1) := by decide +kernel
theorem d_Mo_actives_30 : decode b_Mo_actives 30 = .ok (.ireturn, 1) := by decide +kernel
theorem d_Mo_idle_0 : decode b_Mo_idle 0 = .ok (.iload_n 1, 1) := by decide +kernel
theorem d_Mo_idle_1 : decode b_Mo_idle 1 = .ok (.iconst 1, 1) := by decide +kernel
theorem d_Mo_idle_2 : decode b_Mo_idle 2 = .ok (.bipush 40, 2) := by decide +kernel
theorem d_Mo_idle_4 : decode b_Mo_idle 4 = .ok (.invokestatic 91, 3) := by decide +kernel
theorem d_Mo_idle_7 : decode b_Mo_idle 7 = .ok (.ifCond .eq 13, 3) := by decide +kernel
theorem d_Mo_idle_10 : decode b_Mo_idle 10 = .ok (.aload_n 0, 1) := by decide +kernel
theorem d_Mo_idle_11 : decode b_Mo_idle 11 = .ok (.getfield 28, 3) := by decide +kernel
theorem d_Mo_idle_14 : decode b_Mo_idle 14 = .ok (.iload_n 1, 1) := by decide +kernel
theorem d_Mo_idle_15 : decode b_Mo_idle 15 = .ok (.iaload, 1) := by decide +kernel
theorem d_Mo_idle_16 : decode b_Mo_idle 16 = .ok (.iconst 1, 1) := by decide +kernel
theorem d_Mo_idle_17 : decode b_Mo_idle 17 = .ok (.if_icmp .eq 7, 3) := by decide +kernel
theorem d_Mo_idle_20 : decode b_Mo_idle 20 = .ok (.iconst 1, 1) := by decide +kernel
theorem d_Mo_idle_21 : decode b_Mo_idle 21 = .ok (.goto 4, 3) := by decide +kernel
theorem d_Mo_idle_24 : decode b_Mo_idle 24 = .ok (.iconst 0, 1) := by decide +kernel
theorem d_Mo_idle_25 : decode b_Mo_idle 25 = .ok (.ireturn, 1) := by decide +kernel
theorem d_Mo_begin_0 : decode b_Mo_begin 0 = .ok (.aload_n 0, 1) := by decide +kernel
theorem d_Mo_begin_1 : decode b_Mo_begin 1 = .ok (.invokevirtual 95, 3) := by decide +kernel
theorem d_Mo_begin_4 : decode b_Mo_begin 4 = .ok (.iconst 1, 1) := by decide +kernel
theorem d_Mo_begin_5 : decode b_Mo_begin 5 = .ok (.istore_n 1, 1) := by decide +kernel
theorem d_Mo_begin_6 : decode b_Mo_begin 6 = .ok (.iload_n 1, 1) := by decide +kernel
theorem d_Mo_begin_7 : decode b_Mo_begin 7 = .ok (.bipush 40, 2) := by decide +kernel
theorem d_Mo_begin_9 : decode b_Mo_begin 9 = .ok (.if_icmp .gt 18, 3) := by decide +kernel
theorem d_Mo_begin_12 : decode b_Mo_begin 12 = .ok (.aload_n 0, 1) := by decide +kernel
theorem d_Mo_begin_13 : decode b_Mo_begin 13 = .ok (.getfield 28, 3) := by decide +kernel
theorem d_Mo_begin_16 : decode b_Mo_begin 16 = .ok (.iload_n 1, 1) := by decide +kernel
theorem d_Mo_begin_17 : decode b_Mo_begin 17 = .ok (.iaload, 1) := by decide +kernel
theorem d_Mo_begin_18 : decode b_Mo_begin 18 = .ok (.ifCond .eq 9, 3) := by decide +kernel
theorem d_Mo_begin_21 : decode b_Mo_begin 21 = .ok (.iinc 1 1, 3) := by decide +kernel
theorem d_Mo_begin_24 : decode b_Mo_begin 24 = .ok (.goto (-18), 3) := by decide +kernel
theorem d_Mo_begin_27 : decode b_Mo_begin 27 = .ok (.iload_n 1, 1) := by decide +kernel
theorem d_Mo_begin_28 : decode b_Mo_begin 28 = .ok (.bipush 40, 2) := by decide +kernel
theorem d_Mo_begin_30 : decode b_Mo_begin 30 = .ok (.if_icmp .gt 11, 3) := by decide +kernel
theorem d_Mo_begin_33 : decode b_Mo_begin 33 = .ok (.aload_n 0, 1) := by decide +kernel
theorem d_Mo_begin_34 : decode b_Mo_begin 34 = .ok (.invokevirtual 98, 3) := by decide +kernel
theorem d_Mo_begin_37 : decode b_Mo_begin 37 = .ok (.iconst 4, 1) := by decide +kernel
theorem d_Mo_begin_38 : decode b_Mo_begin 38 = .ok (.if_icmp .ne 9, 3) := by decide +kernel
theorem d_Mo_begin_41 : decode b_Mo_begin 41 = .ok (.aload_n 0, 1) := by decide +kernel
theorem d_Mo_begin_42 : decode b_Mo_begin 42 = .ok (.iconst 1, 1) := by decide +kernel
theorem d_Mo_begin_43 : decode b_Mo_begin 43 = .ok (.invokevirtual 102, 3) := by decide +kernel
theorem d_Mo_begin_46 : decode b_Mo_begin 46 = .ok (.ireturn, 1) := by decide +kernel
theorem d_Mo_begin_47 : decode b_Mo_begin 47 = .ok (.aload_n 0, 1) := by decide +kernel
theorem d_Mo_begin_48 : decode b_Mo_begin 48 = .ok (.getfield 28, 3) := by decide +kernel
theorem d_Mo_begin_51 : decode b_Mo_begin 51 = .ok (.iload_n 1, 1) := by decide +kernel
theorem d_Mo_begin_52 : decode b_Mo_begin 52 = .ok (.iconst 1, 1) := by decide +kernel
theorem d_Mo_begin_53 : decode b_Mo_begin 53 = .ok (.iastore, 1) := by decide +kernel
theorem d_Mo_begin_54 : decode b_Mo_begin 54 = .ok (.aload_n 0, 1) := by decide +kernel
theorem d_Mo_begin_55 : decode b_Mo_begin 55 = .ok (.getfield 41, 3) := by decide +kernel
theorem d_Mo_begin_58 : decode b_Mo_begin 58 = .ok (.iload_n 1, 1) := by decide +kernel
theorem d_Mo_begin_59 : decode b_Mo_begin 59 = .ok (.iconst 0, 1) := by decide +kernel
theorem d_Mo_begin_60 : decode b_Mo_begin 60 = .ok (.iastore, 1) := by decide +kernel
theorem d_Mo_begin_61 : decode b_Mo_begin 61 = .ok (.aload_n 0, 1) := by decide +kernel
theorem d_Mo_begin_62 : decode b_Mo_begin 62 = .ok (.getfield 44, 3) := by decide +kernel
theorem d_Mo_begin_65 : decode b_Mo_begin 65 = .ok (.iload_n 1, 1) := by decide +kernel
theorem d_Mo_begin_66 : decode b_Mo_begin 66 = .ok (.lconst 0, 1) := by decide +kernel
theorem d_Mo_begin_67 : decode b_Mo_begin 67 = .ok (.lastore, 1) := by decide +kernel
theorem d_Mo_begin_68 : decode b_Mo_begin 68 = .ok (.iconst 1, 1) := by decide +kernel
theorem d_Mo_begin_69 : decode b_Mo_begin 69 = .ok (.istore_n 2, 1) := by decide +kernel
theorem d_Mo_begin_70 : decode b_Mo_begin 70 = .ok (.iload_n 2, 1) := by decide +kernel
theorem d_Mo_begin_71 : decode b_Mo_begin 71 = .ok (.bipush 40, 2) := by decide +kernel
theorem d_Mo_begin_73 : decode b_Mo_begin 73 = .ok (.if_icmp .gt 31, 3) := by decide +kernel
theorem d_Mo_begin_76 : decode b_Mo_begin 76 = .ok (.aload_n 0, 1) := by decide +kernel
theorem d_Mo_begin_77 : decode b_Mo_begin 77 = .ok (.getfield 28, 3) := by decide +kernel
theorem d_Mo_begin_80 : decode b_Mo_begin 80 = .ok (.iload_n 2, 1) := by decide +kernel
theorem d_Mo_begin_81 : decode b_Mo_begin 81 = .ok (.iaload, 1) := by decide +kernel
theorem d_Mo_begin_82 : decode b_Mo_begin 82 = .ok (.iconst 2, 1) := by decide +kernel
theorem d_Mo_begin_83 : decode b_Mo_begin 83 = .ok (.if_icmp .ne 15, 3) := by decide +kernel
theorem d_Mo_begin_86 : decode b_Mo_begin 86 = .ok (.aload_n 0, 1) := by decide +kernel
theorem d_Mo_begin_87 : decode b_Mo_begin 87 = .ok (.getfield 44, 3) := by decide +kernel
theorem d_Mo_begin_90 : decode b_Mo_begin 90 = .ok (.iload_n 1, 1) := by decide +kernel
theorem d_Mo_begin_91 : decode b_Mo_begin 91 = .ok (.dup2, 1) := by decide +kernel
theorem d_Mo_begin_92 : decode b_Mo_begin 92 = .ok (.laload, 1) := by decide +kernel
theorem d_Mo_begin_93 : decode b_Mo_begin 93 = .ok (.lconst 1, 1) := by decide +kernel
theorem d_Mo_begin_94 : decode b_Mo_begin 94 = .ok (.iload_n 2, 1) := by decide +kernel
theorem d_Mo_begin_95 : decode b_Mo_begin 95 = .ok (.lshl, 1) := by decide +kernel
theorem d_Mo_begin_96 : decode b_Mo_begin 96 = .ok (.lor, 1) := by decide +kernel
theorem d_Mo_begin_97 : decode b_Mo_begin 97 = .ok (.lastore, 1) := by decide +kernel
theorem d_Mo_begin_98 : decode b_Mo_begin 98 = .ok (.iinc 2 1, 3) := by decide +kernel
theorem d_Mo_begin_101 : decode b_Mo_begin 101 = .ok (.goto (-31), 3) := by decide +kernel
theorem d_Mo_begin_104 : decode b_Mo_begin 104 = .ok (.aload_n 0, 1) := by decide +kernel
theorem d_Mo_begin_105 : decode b_Mo_begin 105 = .ok (.getfield 34, 3) := by decide +kernel
theorem d_Mo_begin_108 : decode b_Mo_begin 108 = .ok (.bipush 6, 2) := by decide +kernel
theorem d_Mo_begin_110 : decode b_Mo_begin 110 = .ok (.iconst 1, 1) := by decide +kernel
theorem d_Mo_begin_111 : decode b_Mo_begin 111 = .ok (.bastore, 1) := by decide +kernel
theorem d_Mo_begin_112 : decode b_Mo_begin 112 = .ok (.aload_n 0, 1) := by decide +kernel
theorem d_Mo_begin_113 : decode b_Mo_begin 113 = .ok (.bipush 6, 2) := by decide +kernel
theorem d_Mo_begin_115 : decode b_Mo_begin 115 = .ok (.invokevirtual 85, 3) := by decide +kernel
theorem d_Mo_begin_118 : decode b_Mo_begin 118 = .ok (.aload_n 0, 1) := by decide +kernel
theorem d_Mo_begin_119 : decode b_Mo_begin 119 = .ok (.iload_n 1, 1) := by decide +kernel
theorem d_Mo_begin_120 : decode b_Mo_begin 120 = .ok (.invokevirtual 105, 3) := by decide +kernel
theorem d_Mo_begin_123 : decode b_Mo_begin 123 = .ok (.ireturn, 1) := by decide +kernel
theorem d_Mo_seen_0 : decode b_Mo_seen 0 = .ok (.aload_n 0, 1) := by decide +kernel
theorem d_Mo_seen_1 : decode b_Mo_seen 1 = .ok (.getfield 7, 3) := by decide +kernel
theorem d_Mo_seen_4 : decode b_Mo_seen 4 = .ok (.iload_n 2, 1) := by decide +kernel
theorem d_Mo_seen_5 : decode b_Mo_seen 5 = .ok (.iaload, 1) := by decide +kernel
theorem d_Mo_seen_6 : decode b_Mo_seen 6 = .ok (.iload_n 1, 1) := by decide +kernel
theorem d_Mo_seen_7 : decode b_Mo_seen 7 = .ok (.if_icmp .eq 23, 3) := by decide +kernel
theorem d_Mo_seen_10 : decode b_Mo_seen 10 = .ok (.aload_n 0, 1) := by decide +kernel
theorem d_Mo_seen_11 : decode b_Mo_seen 11 = .ok (.getfield 44, 3) := by decide +kernel
theorem d_Mo_seen_14 : decode b_Mo_seen 14 = .ok (.iload_n 1, 1) := by decide +kernel
theorem d_Mo_seen_15 : decode b_Mo_seen 15 = .ok (.laload, 1) := by decide +kernel
theorem d_Mo_seen_16 : decode b_Mo_seen 16 = .ok (.aload_n 0, 1) := by decide +kernel
theorem d_Mo_seen_17 : decode b_Mo_seen 17 = .ok (.getfield 7, 3) := by decide +kernel
theorem d_Mo_seen_20 : decode b_Mo_seen 20 = .ok (.iload_n 2, 1) := by decide +kernel
theorem d_Mo_seen_21 : decode b_Mo_seen 21 = .ok (.iaload, 1) := by decide +kernel
theorem d_Mo_seen_22 : decode b_Mo_seen 22 = .ok (.lshr, 1) := by decide +kernel
theorem d_Mo_seen_23 : decode b_Mo_seen 23 = .ok (.lconst 1, 1) := by decide +kernel
theorem d_Mo_seen_24 : decode b_Mo_seen 24 = .ok (.land, 1) := by decide +kernel
theorem d_Mo_seen_25 : decode b_Mo_seen 25 = .ok (.lconst 0, 1) := by decide +kernel
theorem d_Mo_seen_26 : decode b_Mo_seen 26 = .ok (.lcmp, 1) := by decide +kernel
theorem d_Mo_seen_27 : decode b_Mo_seen 27 = .ok (.ifCond .eq 7, 3) := by decide +kernel
theorem d_Mo_seen_30 : decode b_Mo_seen 30 = .ok (.iconst 1, 1) := by decide +kernel
theorem d_Mo_seen_31 : decode b_Mo_seen 31 = .ok (.goto 4, 3) := by decide +kernel
theorem d_Mo_seen_34 : decode b_Mo_seen 34 = .ok (.iconst 0, 1) := by decide +kernel
theorem d_Mo_seen_35 : decode b_Mo_seen 35 = .ok (.ireturn, 1) := by decide +kernel
theorem d_Mo_behind_0 : decode b_Mo_behind 0 = .ok (.aload_n 0, 1) := by decide +kernel
theorem d_Mo_behind_1 : decode b_Mo_behind 1 = .ok (.getfield 16, 3) := by decide +kernel
theorem d_Mo_behind_4 : decode b_Mo_behind 4 = .ok (.iload_n 1, 1) := by decide +kernel
theorem d_Mo_behind_5 : decode b_Mo_behind 5 = .ok (.iaload, 1) := by decide +kernel
theorem d_Mo_behind_6 : decode b_Mo_behind 6 = .ok (.ifCond .lt 20, 3) := by decide +kernel
theorem d_Mo_behind_9 : decode b_Mo_behind 9 = .ok (.aload_n 0, 1) := by decide +kernel
theorem d_Mo_behind_10 : decode b_Mo_behind 10 = .ok (.getfield 7, 3) := by decide +kernel
theorem d_Mo_behind_13 : decode b_Mo_behind 13 = .ok (.bipush 6, 2) := by decide +kernel
theorem d_Mo_behind_15 : decode b_Mo_behind 15 = .ok (.aload_n 0, 1) := by decide +kernel
theorem d_Mo_behind_16 : decode b_Mo_behind 16 = .ok (.getfield 16, 3) := by decide +kernel
theorem d_Mo_behind_19 : decode b_Mo_behind 19 = .ok (.iload_n 1, 1) := by decide +kernel
theorem d_Mo_behind_20 : decode b_Mo_behind 20 = .ok (.iaload, 1) := by decide +kernel
theorem d_Mo_behind_21 : decode b_Mo_behind 21 = .ok (.iadd, 1) := by decide +kernel
theorem d_Mo_behind_22 : decode b_Mo_behind 22 = .ok (.iaload, 1) := by decide +kernel
theorem d_Mo_behind_23 : decode b_Mo_behind 23 = .ok (.ifCond .ne 7, 3) := by decide +kernel
theorem d_Mo_behind_26 : decode b_Mo_behind 26 = .ok (.iconst (-1), 1) := by decide +kernel
theorem d_Mo_behind_27 : decode b_Mo_behind 27 = .ok (.goto 12, 3) := by decide +kernel
theorem d_Mo_behind_30 : decode b_Mo_behind 30 = .ok (.bipush 6, 2) := by decide +kernel
theorem d_Mo_behind_32 : decode b_Mo_behind 32 = .ok (.aload_n 0, 1) := by decide +kernel
theorem d_Mo_behind_33 : decode b_Mo_behind 33 = .ok (.getfield 16, 3) := by decide +kernel
theorem d_Mo_behind_36 : decode b_Mo_behind 36 = .ok (.iload_n 1, 1) := by decide +kernel
theorem d_Mo_behind_37 : decode b_Mo_behind 37 = .ok (.iaload, 1) := by decide +kernel
theorem d_Mo_behind_38 : decode b_Mo_behind 38 = .ok (.iadd, 1) := by decide +kernel
theorem d_Mo_behind_39 : decode b_Mo_behind 39 = .ok (.ireturn, 1) := by decide +kernel
theorem d_Mo_reads_0 : decode b_Mo_reads 0 = .ok (.aload_n 0, 1) := by decide +kernel
theorem d_Mo_reads_1 : decode b_Mo_reads 1 = .ok (.getfield 7, 3) := by decide +kernel
theorem d_Mo_reads_4 : decode b_Mo_reads 4 = .ok (.iload_n 2, 1) := by decide +kernel
theorem d_Mo_reads_5 : decode b_Mo_reads 5 = .ok (.iaload, 1) := by decide +kernel
theorem d_Mo_reads_6 : decode b_Mo_reads 6 = .ok (.ifCond .ne 5, 3) := by decide +kernel
theorem d_Mo_reads_9 : decode b_Mo_reads 9 = .ok (.iconst (-1), 1) := by decide +kernel
theorem d_Mo_reads_10 : decode b_Mo_reads 10 = .ok (.ireturn, 1) := by decide +kernel
theorem d_Mo_reads_11 : decode b_Mo_reads 11 = .ok (.iload_n 2, 1) := by decide +kernel
theorem d_Mo_reads_12 : decode b_Mo_reads 12 = .ok (.istore_n 3, 1) := by decide +kernel
theorem d_Mo_reads_13 : decode b_Mo_reads 13 = .ok (.iload_n 3, 1) := by decide +kernel
theorem d_Mo_reads_14 : decode b_Mo_reads 14 = .ok (.ifCond .lt 28, 3) := by decide +kernel
theorem d_Mo_reads_17 : decode b_Mo_reads 17 = .ok (.aload_n 0, 1) := by decide +kernel
theorem d_Mo_reads_18 : decode b_Mo_reads 18 = .ok (.iload_n 1, 1) := by decide +kernel
theorem d_Mo_reads_19 : decode b_Mo_reads 19 = .ok (.iload_n 3, 1) := by decide +kernel
theorem d_Mo_reads_20 : decode b_Mo_reads 20 = .ok (.invokevirtual 108, 3) := by decide +kernel
theorem d_Mo_reads_23 : decode b_Mo_reads 23 = .ok (.ifCond .eq 10, 3) := by decide +kernel
theorem d_Mo_reads_26 : decode b_Mo_reads 26 = .ok (.aload_n 0, 1) := by decide +kernel
theorem d_Mo_reads_27 : decode b_Mo_reads 27 = .ok (.getfield 13, 3) := by decide +kernel
theorem d_Mo_reads_30 : decode b_Mo_reads 30 = .ok (.iload_n 3, 1) := by decide +kernel
theorem d_Mo_reads_31 : decode b_Mo_reads 31 = .ok (.iaload, 1) := by decide +kernel
theorem d_Mo_reads_32 : decode b_Mo_reads 32 = .ok (.ireturn, 1) := by decide +kernel
theorem d_Mo_reads_33 : decode b_Mo_reads 33 = .ok (.aload_n 0, 1) := by decide +kernel
theorem d_Mo_reads_34 : decode b_Mo_reads 34 = .ok (.iload_n 3, 1) := by decide +kernel
theorem d_Mo_reads_35 : decode b_Mo_reads 35 = .ok (.invokevirtual 112, 3) := by decide +kernel
theorem d_Mo_reads_38 : decode b_Mo_reads 38 = .ok (.istore_n 3, 1) := by decide +kernel
theorem d_Mo_reads_39 : decode b_Mo_reads 39 = .ok (.goto (-26), 3) := by decide +kernel
theorem d_Mo_reads_42 : decode b_Mo_reads 42 = .ok (.iconst (-1), 1) := by decide +kernel
theorem d_Mo_reads_43 : decode b_Mo_reads 43 = .ok (.ireturn, 1) := by decide +kernel
theorem d_Mo_read_0 : decode b_Mo_read 0 = .ok (.aload_n 0, 1) := by decide +kernel
theorem d_Mo_read_1 : decode b_Mo_read 1 = .ok (.invokevirtual 95, 3) := by decide +kernel
theorem d_Mo_read_4 : decode b_Mo_read 4 = .ok (.iload_n 2, 1) := by decide +kernel
theorem d_Mo_read_5 : decode b_Mo_read 5 = .ok (.iconst 0, 1) := by decide +kernel
theorem d_Mo_read_6 : decode b_Mo_read 6 = .ok (.iconst 5, 1) := by decide +kernel
theorem d_Mo_read_7 : decode b_Mo_read 7 = .ok (.invokestatic 91, 3) := by decide +kernel
theorem d_Mo_read_10 : decode b_Mo_read 10 = .ok (.ifCond .ne 9, 3) := by decide +kernel
theorem d_Mo_read_13 : decode b_Mo_read 13 = .ok (.aload_n 0, 1) := by decide +kernel
theorem d_Mo_read_14 : decode b_Mo_read 14 = .ok (.iconst 1, 1) := by decide +kernel
theorem d_Mo_read_15 : decode b_Mo_read 15 = .ok (.invokevirtual 102, 3) := by decide +kernel
theorem d_Mo_read_18 : decode b_Mo_read 18 = .ok (.ireturn, 1) := by decide +kernel
theorem d_Mo_read_19 : decode b_Mo_read 19 = .ok (.aload_n 0, 1) := by decide +kernel
theorem d_Mo_read_20 : decode b_Mo_read 20 = .ok (.iload_n 1, 1) := by decide +kernel
theorem d_Mo_read_21 : decode b_Mo_read 21 = .ok (.invokevirtual 115, 3) := by decide +kernel
theorem d_Mo_read_24 : decode b_Mo_read 24 = .ok (.ifCond .eq 9, 3) := by decide +kernel
theorem d_Mo_read_27 : decode b_Mo_read 27 = .ok (.aload_n 0, 1) := by decide +kernel
theorem d_Mo_read_28 : decode b_Mo_read 28 = .ok (.iconst 2, 1) := by decide +kernel
theorem d_Mo_read_29 : decode b_Mo_read 29 = .ok (.invokevirtual 102, 3) := by decide +kernel
theorem d_Mo_read_32 : decode b_Mo_read 32 = .ok (.ireturn, 1) := by decide +kernel
theorem d_Mo_read_33 : decode b_Mo_read 33 = .ok (.aload_n 0, 1) := by decide +kernel
theorem d_Mo_read_34 : decode b_Mo_read 34 = .ok (.iload_n 1, 1) := by decide +kernel
theorem d_Mo_read_35 : decode b_Mo_read 35 = .ok (.iload_n 2, 1) := by decide +kernel
theorem d_Mo_read_36 : decode b_Mo_read 36 = .ok (.invokevirtual 119, 3) := by decide +kernel
theorem d_Mo_read_39 : decode b_Mo_read 39 = .ok (.istore_n 3, 1) := by decide +kernel
theorem d_Mo_read_40 : decode b_Mo_read 40 = .ok (.iload_n 3, 1) := by decide +kernel
theorem d_Mo_read_41 : decode b_Mo_read 41 = .ok (.ifCond .ge 11, 3) := by decide +kernel
theorem d_Mo_read_44 : decode b_Mo_read 44 = .ok (.aload_n 0, 1) := by decide +kernel
theorem d_Mo_read_45 : decode b_Mo_read 45 = .ok (.iconst 3, 1) := by decide +kernel
theorem d_Mo_read_46 : decode b_Mo_read 46 = .ok (.invokevirtual 102, 3) := by decide +kernel
theorem d_Mo_read_49 : decode b_Mo_read 49 = .ok (.goto 4, 3) := by decide +kernel
theorem d_Mo_read_52 : decode b_Mo_read 52 = .ok (.iload_n 3, 1) := by decide +kernel
theorem d_Mo_read_53 : decode b_Mo_read 53 = .ok (.ireturn, 1) := by decide +kernel
theorem d_Mo_free_0 : decode b_Mo_free 0 = .ok (.aload_n 0, 1) := by decide +kernel
theorem d_Mo_free_1 : decode b_Mo_free 1 = .ok (.getfield 7, 3) := by decide +kernel
theorem d_Mo_free_4 : decode b_Mo_free 4 = .ok (.iload_n 1, 1) := by decide +kernel
theorem d_Mo_free_5 : decode b_Mo_free 5 = .ok (.iconst 0, 1) := by decide +kernel
theorem d_Mo_free_6 : decode b_Mo_free 6 = .ok (.iastore, 1) := by decide +kernel
theorem d_Mo_free_7 : decode b_Mo_free 7 = .ok (.aload_n 0, 1) := by decide +kernel
theorem d_Mo_free_8 : decode b_Mo_free 8 = .ok (.getfield 13, 3) := by decide +kernel
theorem d_Mo_free_11 : decode b_Mo_free 11 = .ok (.iload_n 1, 1) := by decide +kernel
theorem d_Mo_free_12 : decode b_Mo_free 12 = .ok (.iconst 0, 1) := by decide +kernel
theorem d_Mo_free_13 : decode b_Mo_free 13 = .ok (.iastore, 1) := by decide +kernel
theorem d_Mo_free_14 : decode b_Mo_free 14 = .ok (.aload_n 0, 1) := by decide +kernel
theorem d_Mo_free_15 : decode b_Mo_free 15 = .ok (.getfield 16, 3) := by decide +kernel
theorem d_Mo_free_18 : decode b_Mo_free 18 = .ok (.iload_n 1, 1) := by decide +kernel
theorem d_Mo_free_19 : decode b_Mo_free 19 = .ok (.iconst (-1), 1) := by decide +kernel
theorem d_Mo_free_20 : decode b_Mo_free 20 = .ok (.iastore, 1) := by decide +kernel
theorem d_Mo_free_21 : decode b_Mo_free 21 = .ok (.aload_n 0, 1) := by decide +kernel
theorem d_Mo_free_22 : decode b_Mo_free 22 = .ok (.getfield 34, 3) := by decide +kernel
theorem d_Mo_free_25 : decode b_Mo_free 25 = .ok (.iload_n 1, 1) := by decide +kernel
theorem d_Mo_free_26 : decode b_Mo_free 26 = .ok (.invokestatic 68, 3) := by decide +kernel
theorem d_Mo_free_29 : decode b_Mo_free 29 = .ok (.iconst 1, 1) := by decide +kernel
theorem d_Mo_free_30 : decode b_Mo_free 30 = .ok (.bastore, 1) := by decide +kernel
theorem d_Mo_free_31 : decode b_Mo_free 31 = .ok (.return_, 1) := by decide +kernel
theorem d_Mo_move_0 : decode b_Mo_move 0 = .ok (.aload_n 0, 1) := by decide +kernel
theorem d_Mo_move_1 : decode b_Mo_move 1 = .ok (.getfield 7, 3) := by decide +kernel
theorem d_Mo_move_4 : decode b_Mo_move 4 = .ok (.iload_n 2, 1) := by decide +kernel
theorem d_Mo_move_5 : decode b_Mo_move 5 = .ok (.aload_n 0, 1) := by decide +kernel
theorem d_Mo_move_6 : decode b_Mo_move 6 = .ok (.getfield 7, 3) := by decide +kernel
theorem d_Mo_move_9 : decode b_Mo_move 9 = .ok (.iload_n 1, 1) := by decide +kernel
theorem d_Mo_move_10 : decode b_Mo_move 10 = .ok (.iaload, 1) := by decide +kernel
theorem d_Mo_move_11 : decode b_Mo_move 11 = .ok (.iastore, 1) := by decide +kernel
theorem d_Mo_move_12 : decode b_Mo_move 12 = .ok (.aload_n 0, 1) := by decide +kernel
theorem d_Mo_move_13 : decode b_Mo_move 13 = .ok (.getfield 13, 3) := by decide +kernel
theorem d_Mo_move_16 : decode b_Mo_move 16 = .ok (.iload_n 2, 1) := by decide +kernel
theorem d_Mo_move_17 : decode b_Mo_move 17 = .ok (.aload_n 0, 1) := by decide +kernel
theorem d_Mo_move_18 : decode b_Mo_move 18 = .ok (.getfield 13, 3) := by decide +kernel
theorem d_Mo_move_21 : decode b_Mo_move 21 = .ok (.iload_n 1, 1) := by decide +kernel
theorem d_Mo_move_22 : decode b_Mo_move 22 = .ok (.iaload, 1) := by decide +kernel
theorem d_Mo_move_23 : decode b_Mo_move 23 = .ok (.iastore, 1) := by decide +kernel
theorem d_Mo_move_24 : decode b_Mo_move 24 = .ok (.aload_n 0, 1) := by decide +kernel
theorem d_Mo_move_25 : decode b_Mo_move 25 = .ok (.getfield 16, 3) := by decide +kernel
theorem d_Mo_move_28 : decode b_Mo_move 28 = .ok (.iload_n 2, 1) := by decide +kernel
theorem d_Mo_move_29 : decode b_Mo_move 29 = .ok (.aload_n 0, 1) := by decide +kernel
theorem d_Mo_move_30 : decode b_Mo_move 30 = .ok (.getfield 16, 3) := by decide +kernel
theorem d_Mo_move_33 : decode b_Mo_move 33 = .ok (.iload_n 1, 1) := by decide +kernel
theorem d_Mo_move_34 : decode b_Mo_move 34 = .ok (.iaload, 1) := by decide +kernel
theorem d_Mo_move_35 : decode b_Mo_move 35 = .ok (.iastore, 1) := by decide +kernel
theorem d_Mo_move_36 : decode b_Mo_move 36 = .ok (.aload_n 0, 1) := by decide +kernel
theorem d_Mo_move_37 : decode b_Mo_move 37 = .ok (.getfield 34, 3) := by decide +kernel
theorem d_Mo_move_40 : decode b_Mo_move 40 = .ok (.iload_n 2, 1) := by decide +kernel
theorem d_Mo_move_41 : decode b_Mo_move 41 = .ok (.invokestatic 68, 3) := by decide +kernel
theorem d_Mo_move_44 : decode b_Mo_move 44 = .ok (.iconst 1, 1) := by decide +kernel
theorem d_Mo_move_45 : decode b_Mo_move 45 = .ok (.bastore, 1) := by decide +kernel
theorem d_Mo_move_46 : decode b_Mo_move 46 = .ok (.return_, 1) := by decide +kernel
theorem d_Mo_clean_0 : decode b_Mo_clean 0 = .ok (.aload_n 0, 1) := by decide +kernel
theorem d_Mo_clean_1 : decode b_Mo_clean 1 = .ok (.getfield 58, 3) := by decide +kernel
theorem d_Mo_clean_4 : decode b_Mo_clean 4 = .ok (.ifCond .ne 79, 3) := by decide +kernel
theorem d_Mo_clean_7 : decode b_Mo_clean 7 = .ok (.aload_n 0, 1) := by decide +kernel
theorem d_Mo_clean_8 : decode b_Mo_clean 8 = .ok (.getfield 7, 3) := by decide +kernel
theorem d_Mo_clean_11 : decode b_Mo_clean 11 = .ok (.iload_n 1, 1) := by decide +kernel
theorem d_Mo_clean_12 : decode b_Mo_clean 12 = .ok (.iaload, 1) := by decide +kernel
theorem d_Mo_clean_13 : decode b_Mo_clean 13 = .ok (.ifCond .eq 70, 3) := by decide +kernel
theorem d_Mo_clean_16 : decode b_Mo_clean 16 = .ok (.aload_n 0, 1) := by decide +kernel
theorem d_Mo_clean_17 : decode b_Mo_clean 17 = .ok (.getfield 28, 3) := by decide +kernel
theorem d_Mo_clean_20 : decode b_Mo_clean 20 = .ok (.aload_n 0, 1) := by decide +kernel
theorem d_Mo_clean_21 : decode b_Mo_clean 21 = .ok (.getfield 7, 3) := by decide +kernel
theorem d_Mo_clean_24 : decode b_Mo_clean 24 = .ok (.iload_n 1, 1) := by decide +kernel
theorem d_Mo_clean_25 : decode b_Mo_clean 25 = .ok (.iaload, 1) := by decide +kernel
theorem d_Mo_clean_26 : decode b_Mo_clean 26 = .ok (.iaload, 1) := by decide +kernel
theorem d_Mo_clean_27 : decode b_Mo_clean 27 = .ok (.iconst 3, 1) := by decide +kernel
theorem d_Mo_clean_28 : decode b_Mo_clean 28 = .ok (.if_icmp .ne 55, 3) := by decide +kernel
theorem d_Mo_clean_31 : decode b_Mo_clean 31 = .ok (.aload_n 0, 1) := by decide +kernel
theorem d_Mo_clean_32 : decode b_Mo_clean 32 = .ok (.iload_n 1, 1) := by decide +kernel
theorem d_Mo_clean_33 : decode b_Mo_clean 33 = .ok (.invokevirtual 112, 3) := by decide +kernel
theorem d_Mo_clean_36 : decode b_Mo_clean 36 = .ok (.istore_n 2, 1) := by decide +kernel
theorem d_Mo_clean_37 : decode b_Mo_clean 37 = .ok (.iload_n 2, 1) := by decide +kernel
theorem d_Mo_clean_38 : decode b_Mo_clean 38 = .ok (.ifCond .ge 11, 3) := by decide +kernel
theorem d_Mo_clean_41 : decode b_Mo_clean 41 = .ok (.aload_n 0, 1) := by decide +kernel
theorem d_Mo_clean_42 : decode b_Mo_clean 42 = .ok (.iload_n 1, 1) := by decide +kernel
theorem d_Mo_clean_43 : decode b_Mo_clean 43 = .ok (.invokevirtual 123, 3) := by decide +kernel
theorem d_Mo_clean_46 : decode b_Mo_clean 46 = .ok (.goto (-46), 3) := by decide +kernel
theorem d_Mo_clean_49 : decode b_Mo_clean 49 = .ok (.aload_n 0, 1) := by decide +kernel
theorem d_Mo_clean_50 : decode b_Mo_clean 50 = .ok (.iload_n 1, 1) := by decide +kernel
theorem d_Mo_clean_51 : decode b_Mo_clean 51 = .ok (.invokestatic 68, 3) := by decide +kernel
theorem d_Mo_clean_54 : decode b_Mo_clean 54 = .ok (.iload_n 2, 1) := by decide +kernel
theorem d_Mo_clean_55 : decode b_Mo_clean 55 = .ok (.invokestatic 68, 3) := by decide +kernel
theorem d_Mo_clean_58 : decode b_Mo_clean 58 = .ok (.invokevirtual 126, 3) := by decide +kernel
theorem d_Mo_clean_61 : decode b_Mo_clean 61 = .ok (.aload_n 0, 1) := by decide +kernel
theorem d_Mo_clean_62 : decode b_Mo_clean 62 = .ok (.getfield 58, 3) := by decide +kernel
theorem d_Mo_clean_65 : decode b_Mo_clean 65 = .ok (.ifCond .eq 4, 3) := by decide +kernel
theorem d_Mo_clean_68 : decode b_Mo_clean 68 = .ok (.return_, 1) := by decide +kernel
theorem d_Mo_clean_69 : decode b_Mo_clean 69 = .ok (.aload_n 0, 1) := by decide +kernel
theorem d_Mo_clean_70 : decode b_Mo_clean 70 = .ok (.iload_n 2, 1) := by decide +kernel
theorem d_Mo_clean_71 : decode b_Mo_clean 71 = .ok (.iload_n 1, 1) := by decide +kernel
theorem d_Mo_clean_72 : decode b_Mo_clean 72 = .ok (.invokevirtual 130, 3) := by decide +kernel
theorem d_Mo_clean_75 : decode b_Mo_clean 75 = .ok (.aload_n 0, 1) := by decide +kernel
theorem d_Mo_clean_76 : decode b_Mo_clean 76 = .ok (.iload_n 2, 1) := by decide +kernel
theorem d_Mo_clean_77 : decode b_Mo_clean 77 = .ok (.invokevirtual 123, 3) := by decide +kernel
theorem d_Mo_clean_80 : decode b_Mo_clean 80 = .ok (.goto (-80), 3) := by decide +kernel
theorem d_Mo_clean_83 : decode b_Mo_clean 83 = .ok (.return_, 1) := by decide +kernel
theorem d_Mo_change_0 : decode b_Mo_change 0 = .ok (.aload_n 0, 1) := by decide +kernel
theorem d_Mo_change_1 : decode b_Mo_change 1 = .ok (.iload_n 2, 1) := by decide +kernel
theorem d_Mo_change_2 : decode b_Mo_change 2 = .ok (.invokevirtual 133, 3) := by decide +kernel
theorem d_Mo_change_5 : decode b_Mo_change 5 = .ok (.aload_n 0, 1) := by decide +kernel
theorem d_Mo_change_6 : decode b_Mo_change 6 = .ok (.getfield 58, 3) := by decide +kernel
theorem d_Mo_change_9 : decode b_Mo_change 9 = .ok (.ifCond .eq 4, 3) := by decide +kernel
theorem d_Mo_change_12 : decode b_Mo_change 12 = .ok (.return_, 1) := by decide +kernel
theorem d_Mo_change_13 : decode b_Mo_change 13 = .ok (.aload_n 0, 1) := by decide +kernel
theorem d_Mo_change_14 : decode b_Mo_change 14 = .ok (.getfield 7, 3) := by decide +kernel
theorem d_Mo_change_17 : decode b_Mo_change 17 = .ok (.iload_n 2, 1) := by decide +kernel
theorem d_Mo_change_18 : decode b_Mo_change 18 = .ok (.iaload, 1) := by decide +kernel
theorem d_Mo_change_19 : decode b_Mo_change 19 = .ok (.ifCond .eq 18, 3) := by decide +kernel
theorem d_Mo_change_22 : decode b_Mo_change 22 = .ok (.aload_n 0, 1) := by decide +kernel
theorem d_Mo_change_23 : decode b_Mo_change 23 = .ok (.iload_n 1, 1) := by decide +kernel
theorem d_Mo_change_24 : decode b_Mo_change 24 = .ok (.iload_n 2, 1) := by decide +kernel
theorem d_Mo_change_25 : decode b_Mo_change 25 = .ok (.invokevirtual 108, 3) := by decide +kernel
theorem d_Mo_change_28 : decode b_Mo_change 28 = .ok (.ifCond .ne 9, 3) := by decide +kernel
theorem d_Mo_change_31 : decode b_Mo_change 31 = .ok (.aload_n 0, 1) := by decide +kernel
theorem d_Mo_change_32 : decode b_Mo_change 32 = .ok (.iconst 1, 1) := by decide +kernel
theorem d_Mo_change_33 : decode b_Mo_change 33 = .ok (.putfield 88, 3) := by decide +kernel
theorem d_Mo_change_36 : decode b_Mo_change 36 = .ok (.return_, 1) := by decide +kernel
theorem d_Mo_change_37 : decode b_Mo_change 37 = .ok (.iload_n 2, 1) := by decide +kernel
theorem d_Mo_change_38 : decode b_Mo_change 38 = .ok (.invokestatic 68, 3) := by decide +kernel
theorem d_Mo_change_41 : decode b_Mo_change 41 = .ok (.istore 4, 2) := by decide +kernel
theorem d_Mo_change_43 : decode b_Mo_change 43 = .ok (.aload_n 0, 1) := by decide +kernel
theorem d_Mo_change_44 : decode b_Mo_change 44 = .ok (.getfield 7, 3) := by decide +kernel
theorem d_Mo_change_47 : decode b_Mo_change 47 = .ok (.iload_n 2, 1) := by decide +kernel
theorem d_Mo_change_48 : decode b_Mo_change 48 = .ok (.iaload, 1) := by decide +kernel
theorem d_Mo_change_49 : decode b_Mo_change 49 = .ok (.iload_n 1, 1) := by decide +kernel
theorem d_Mo_change_50 : decode b_Mo_change 50 = .ok (.if_icmp .eq 108, 3) := by decide +kernel
theorem d_Mo_change_53 : decode b_Mo_change 53 = .ok (.aload_n 0, 1) := by decide +kernel
theorem d_Mo_change_54 : decode b_Mo_change 54 = .ok (.getfield 7, 3) := by decide +kernel
theorem d_Mo_change_57 : decode b_Mo_change 57 = .ok (.iload_n 2, 1) := by decide +kernel
theorem d_Mo_change_58 : decode b_Mo_change 58 = .ok (.iaload, 1) := by decide +kernel
theorem d_Mo_change_59 : decode b_Mo_change 59 = .ok (.ifCond .eq 99, 3) := by decide +kernel
theorem d_Mo_change_62 : decode b_Mo_change 62 = .ok (.bipush 6, 2) := by decide +kernel
theorem d_Mo_change_64 : decode b_Mo_change 64 = .ok (.istore 5, 2) := by decide +kernel
theorem d_Mo_change_66 : decode b_Mo_change 66 = .ok (.iload 5, 2) := by decide +kernel
theorem d_Mo_change_68 : decode b_Mo_change 68 = .ok (.bipush 15, 2) := by decide +kernel
theorem d_Mo_change_70 : decode b_Mo_change 70 = .ok (.if_icmp .ge 19, 3) := by decide +kernel
theorem d_Mo_change_73 : decode b_Mo_change 73 = .ok (.aload_n 0, 1) := by decide +kernel
theorem d_Mo_change_74 : decode b_Mo_change 74 = .ok (.getfield 7, 3) := by decide +kernel
theorem d_Mo_change_77 : decode b_Mo_change 77 = .ok (.iload 5, 2) := by decide +kernel
theorem d_Mo_change_79 : decode b_Mo_change 79 = .ok (.iaload, 1) := by decide +kernel
theorem d_Mo_change_80 : decode b_Mo_change 80 = .ok (.ifCond .eq 9, 3) := by decide +kernel
theorem d_Mo_change_83 : decode b_Mo_change 83 = .ok (.iinc 5 1, 3) := by decide +kernel
theorem d_Mo_change_86 : decode b_Mo_change 86 = .ok (.goto (-20), 3) := by decide +kernel
theorem d_Mo_change_89 : decode b_Mo_change 89 = .ok (.iload 5, 2) := by decide +kernel
theorem d_Mo_change_91 : decode b_Mo_change 91 = .ok (.bipush 15, 2) := by decide +kernel
theorem d_Mo_change_93 : decode b_Mo_change 93 = .ok (.if_icmp .ne 9, 3) := by decide +kernel
theorem d_Mo_change_96 : decode b_Mo_change 96 = .ok (.aload_n 0, 1) := by decide +kernel
theorem d_Mo_change_97 : decode b_Mo_change 97 = .ok (.iconst 2, 1) := by decide +kernel
theorem d_Mo_change_98 : decode b_Mo_change 98 = .ok (.putfield 88, 3) := by decide +kernel
theorem d_Mo_change_101 : decode b_Mo_change 101 = .ok (.return_, 1) := by decide +kernel
theorem d_Mo_change_102 : decode b_Mo_change 102 = .ok (.aload_n 0, 1) := by decide +kernel
theorem d_Mo_change_103 : decode b_Mo_change 103 = .ok (.iload 5, 2) := by decide +kernel
theorem d_Mo_change_105 : decode b_Mo_change 105 = .ok (.invokestatic 68, 3) := by decide +kernel
theorem d_Mo_change_108 : decode b_Mo_change 108 = .ok (.iload 4, 2) := by decide +kernel
theorem d_Mo_change_110 : decode b_Mo_change 110 = .ok (.invokevirtual 126, 3) := by decide +kernel
theorem d_Mo_change_113 : decode b_Mo_change 113 = .ok (.aload_n 0, 1) := by decide +kernel
theorem d_Mo_change_114 : decode b_Mo_change 114 = .ok (.getfield 58, 3) := by decide +kernel
theorem d_Mo_change_117 : decode b_Mo_change 117 = .ok (.ifCond .eq 4, 3) := by decide +kernel
theorem d_Mo_change_120 : decode b_Mo_change 120 = .ok (.return_, 1) := by decide +kernel
theorem d_Mo_change_121 : decode b_Mo_change 121 = .ok (.aload_n 0, 1) := by decide +kernel
theorem d_Mo_change_122 : decode b_Mo_change 122 = .ok (.iload_n 2, 1) := by decide +kernel
theorem d_Mo_change_123 : decode b_Mo_change 123 = .ok (.iload 5, 2) := by decide +kernel
theorem d_Mo_change_125 : decode b_Mo_change 125 = .ok (.invokevirtual 130, 3) := by decide +kernel
theorem d_Mo_change_128 : decode b_Mo_change 128 = .ok (.aload_n 0, 1) := by decide +kernel
theorem d_Mo_change_129 : decode b_Mo_change 129 = .ok (.getfield 16, 3) := by decide +kernel
theorem d_Mo_change_132 : decode b_Mo_change 132 = .ok (.iload_n 2, 1) := by decide +kernel
theorem d_Mo_change_133 : decode b_Mo_change 133 = .ok (.iload 5, 2) := by decide +kernel
theorem d_Mo_change_135 : decode b_Mo_change 135 = .ok (.bipush 6, 2) := by decide +kernel
theorem d_Mo_change_137 : decode b_Mo_change 137 = .ok (.isub, 1) := by decide +kernel
theorem d_Mo_change_138 : decode b_Mo_change 138 = .ok (.iastore, 1) := by decide +kernel
theorem d_Mo_change_139 : decode b_Mo_change 139 = .ok (.aload_n 0, 1) := by decide +kernel
theorem d_Mo_change_140 : decode b_Mo_change 140 = .ok (.getfield 41, 3) := by decide +kernel
theorem d_Mo_change_143 : decode b_Mo_change 143 = .ok (.iload_n 1, 1) := by decide +kernel
theorem d_Mo_change_144 : decode b_Mo_change 144 = .ok (.dup2, 1) := by decide +kernel
theorem d_Mo_change_145 : decode b_Mo_change 145 = .ok (.iaload, 1) := by decide +kernel
theorem d_Mo_change_146 : decode b_Mo_change 146 = .ok (.iconst 1, 1) := by decide +kernel
theorem d_Mo_change_147 : decode b_Mo_change 147 = .ok (.iload 5, 2) := by decide +kernel
theorem d_Mo_change_149 : decode b_Mo_change 149 = .ok (.invokestatic 68, 3) := by decide +kernel
theorem d_Mo_change_152 : decode b_Mo_change 152 = .ok (.ishl, 1) := by decide +kernel
theorem d_Mo_change_153 : decode b_Mo_change 153 = .ok (.ior, 1) := by decide +kernel
theorem d_Mo_change_154 : decode b_Mo_change 154 = .ok (.iastore, 1) := by decide +kernel
theorem d_Mo_change_155 : decode b_Mo_change 155 = .ok (.goto 19, 3) := by decide +kernel
theorem d_Mo_change_158 : decode b_Mo_change 158 = .ok (.aload_n 0, 1) := by decide +kernel
theorem d_Mo_change_159 : decode b_Mo_change 159 = .ok (.getfield 7, 3) := by decide +kernel
theorem d_Mo_change_162 : decode b_Mo_change 162 = .ok (.iload_n 2, 1) := by decide +kernel
theorem d_Mo_change_163 : decode b_Mo_change 163 = .ok (.iaload, 1) := by decide +kernel
theorem d_Mo_change_164 : decode b_Mo_change 164 = .ok (.ifCond .ne 10, 3) := by decide +kernel
theorem d_Mo_change_167 : decode b_Mo_change 167 = .ok (.aload_n 0, 1) := by decide +kernel
theorem d_Mo_change_168 : decode b_Mo_change 168 = .ok (.getfield 16, 3) := by decide +kernel
theorem d_Mo_change_171 : decode b_Mo_change 171 = .ok (.iload_n 2, 1) := by decide +kernel
theorem d_Mo_change_172 : decode b_Mo_change 172 = .ok (.iconst (-1), 1) := by decide +kernel
theorem d_Mo_change_173 : decode b_Mo_change 173 = .ok (.iastore, 1) := by decide +kernel
theorem d_Mo_change_174 : decode b_Mo_change 174 = .ok (.aload_n 0, 1) := by decide +kernel
theorem d_Mo_change_175 : decode b_Mo_change 175 = .ok (.getfield 7, 3) := by decide +kernel
theorem d_Mo_change_178 : decode b_Mo_change 178 = .ok (.iload_n 2, 1) := by decide +kernel
theorem d_Mo_change_179 : decode b_Mo_change 179 = .ok (.iload_n 1, 1) := by decide +kernel
theorem d_Mo_change_180 : decode b_Mo_change 180 = .ok (.iastore, 1) := by decide +kernel
theorem d_Mo_change_181 : decode b_Mo_change 181 = .ok (.aload_n 0, 1) := by decide +kernel
theorem d_Mo_change_182 : decode b_Mo_change 182 = .ok (.getfield 13, 3) := by decide +kernel
theorem d_Mo_change_185 : decode b_Mo_change 185 = .ok (.iload_n 2, 1) := by decide +kernel
theorem d_Mo_change_186 : decode b_Mo_change 186 = .ok (.iload_n 3, 1) := by decide +kernel
theorem d_Mo_change_187 : decode b_Mo_change 187 = .ok (.iastore, 1) := by decide +kernel
theorem d_Mo_change_188 : decode b_Mo_change 188 = .ok (.aload_n 0, 1) := by decide +kernel
theorem d_Mo_change_189 : decode b_Mo_change 189 = .ok (.getfield 34, 3) := by decide +kernel
theorem d_Mo_change_192 : decode b_Mo_change 192 = .ok (.iload 4, 2) := by decide +kernel
theorem d_Mo_change_194 : decode b_Mo_change 194 = .ok (.iconst 1, 1) := by decide +kernel
theorem d_Mo_change_195 : decode b_Mo_change 195 = .ok (.bastore, 1) := by decide +kernel
theorem d_Mo_change_196 : decode b_Mo_change 196 = .ok (.aload_n 0, 1) := by decide +kernel
theorem d_Mo_change_197 : decode b_Mo_change 197 = .ok (.getfield 41, 3) := by decide +kernel
theorem d_Mo_change_200 : decode b_Mo_change 200 = .ok (.iload_n 1, 1) := by decide +kernel
theorem d_Mo_change_201 : decode b_Mo_change 201 = .ok (.dup2, 1) := by decide +kernel
theorem d_Mo_change_202 : decode b_Mo_change 202 = .ok (.iaload, 1) := by decide +kernel
theorem d_Mo_change_203 : decode b_Mo_change 203 = .ok (.iconst 1, 1) := by decide +kernel
theorem d_Mo_change_204 : decode b_Mo_change 204 = .ok (.iload 4, 2) := by decide +kernel
theorem d_Mo_change_206 : decode b_Mo_change 206 = .ok (.ishl, 1) := by decide +kernel
theorem d_Mo_change_207 : decode b_Mo_change 207 = .ok (.ior, 1) := by decide +kernel
theorem d_Mo_change_208 : decode b_Mo_change 208 = .ok (.iastore, 1) := by decide +kernel
theorem d_Mo_change_209 : decode b_Mo_change 209 = .ok (.return_, 1) := by decide +kernel
theorem d_Mo_write_0 : decode b_Mo_write 0 = .ok (.aload_n 0, 1) := by decide +kernel
theorem d_Mo_write_1 : decode b_Mo_write 1 = .ok (.invokevirtual 95, 3) := by decide +kernel
theorem d_Mo_write_4 : decode b_Mo_write 4 = .ok (.iload_n 2, 1) := by decide +kernel
theorem d_Mo_write_5 : decode b_Mo_write 5 = .ok (.iconst 0, 1) := by decide +kernel
theorem d_Mo_write_6 : decode b_Mo_write 6 = .ok (.iconst 5, 1) := by decide +kernel
theorem d_Mo_write_7 : decode b_Mo_write 7 = .ok (.invokestatic 91, 3) := by decide +kernel
theorem d_Mo_write_10 : decode b_Mo_write 10 = .ok (.ifCond .eq 13, 3) := by decide +kernel
theorem d_Mo_write_13 : decode b_Mo_write 13 = .ok (.iload_n 3, 1) := by decide +kernel
theorem d_Mo_write_14 : decode b_Mo_write 14 = .ok (.iconst 0, 1) := by decide +kernel
theorem d_Mo_write_15 : decode b_Mo_write 15 = .ok (.ldc 136, 2) := by decide +kernel
theorem d_Mo_write_17 : decode b_Mo_write 17 = .ok (.invokestatic 91, 3) := by decide +kernel
theorem d_Mo_write_20 : decode b_Mo_write 20 = .ok (.ifCond .ne 9, 3) := by decide +kernel
theorem d_Mo_write_23 : decode b_Mo_write 23 = .ok (.aload_n 0, 1) := by decide +kernel
theorem d_Mo_write_24 : decode b_Mo_write 24 = .ok (.iconst 1, 1) := by decide +kernel
theorem d_Mo_write_25 : decode b_Mo_write 25 = .ok (.invokevirtual 102, 3) := by decide +kernel
theorem d_Mo_write_28 : decode b_Mo_write 28 = .ok (.ireturn, 1) := by decide +kernel
theorem d_Mo_write_29 : decode b_Mo_write 29 = .ok (.aload_n 0, 1) := by decide +kernel
theorem d_Mo_write_30 : decode b_Mo_write 30 = .ok (.iload_n 1, 1) := by decide +kernel
theorem d_Mo_write_31 : decode b_Mo_write 31 = .ok (.invokevirtual 115, 3) := by decide +kernel
theorem d_Mo_write_34 : decode b_Mo_write 34 = .ok (.ifCond .eq 9, 3) := by decide +kernel
theorem d_Mo_write_37 : decode b_Mo_write 37 = .ok (.aload_n 0, 1) := by decide +kernel
theorem d_Mo_write_38 : decode b_Mo_write 38 = .ok (.iconst 2, 1) := by decide +kernel
theorem d_Mo_write_39 : decode b_Mo_write 39 = .ok (.invokevirtual 102, 3) := by decide +kernel
theorem d_Mo_write_42 : decode b_Mo_write 42 = .ok (.ireturn, 1) := by decide +kernel
theorem d_Mo_write_43 : decode b_Mo_write 43 = .ok (.aload_n 0, 1) := by decide +kernel
theorem d_Mo_write_44 : decode b_Mo_write 44 = .ok (.iload_n 1, 1) := by decide +kernel
theorem d_Mo_write_45 : decode b_Mo_write 45 = .ok (.iload_n 2, 1) := by decide +kernel
theorem d_Mo_write_46 : decode b_Mo_write 46 = .ok (.iload_n 3, 1) := by decide +kernel
theorem d_Mo_write_47 : decode b_Mo_write 47 = .ok (.invokevirtual 137, 3) := by decide +kernel
theorem d_Mo_write_50 : decode b_Mo_write 50 = .ok (.aload_n 0, 1) := by decide +kernel
theorem d_Mo_write_51 : decode b_Mo_write 51 = .ok (.getfield 88, 3) := by decide +kernel
theorem d_Mo_write_54 : decode b_Mo_write 54 = .ok (.ifCond .le 16, 3) := by decide +kernel
theorem d_Mo_write_57 : decode b_Mo_write 57 = .ok (.aload_n 0, 1) := by decide +kernel
theorem d_Mo_write_58 : decode b_Mo_write 58 = .ok (.iconst 2, 1) := by decide +kernel
theorem d_Mo_write_59 : decode b_Mo_write 59 = .ok (.aload_n 0, 1) := by decide +kernel
theorem d_Mo_write_60 : decode b_Mo_write 60 = .ok (.getfield 88, 3) := by decide +kernel
theorem d_Mo_write_63 : decode b_Mo_write 63 = .ok (.iadd, 1) := by decide +kernel
theorem d_Mo_write_64 : decode b_Mo_write 64 = .ok (.invokevirtual 102, 3) := by decide +kernel
theorem d_Mo_write_67 : decode b_Mo_write 67 = .ok (.goto 8, 3) := by decide +kernel
theorem d_Mo_write_70 : decode b_Mo_write 70 = .ok (.aload_n 0, 1) := by decide +kernel
theorem d_Mo_write_71 : decode b_Mo_write 71 = .ok (.iconst 1, 1) := by decide +kernel
theorem d_Mo_write_72 : decode b_Mo_write 72 = .ok (.invokevirtual 105, 3) := by decide +kernel
theorem d_Mo_write_75 : decode b_Mo_write 75 = .ok (.ireturn, 1) := by decide +kernel
theorem d_Mo_erase_0 : decode b_Mo_erase 0 = .ok (.aload_n 0, 1) := by decide +kernel
theorem d_Mo_erase_1 : decode b_Mo_erase 1 = .ok (.invokevirtual 95, 3) := by decide +kernel
theorem d_Mo_erase_4 : decode b_Mo_erase 4 = .ok (.iload_n 2, 1) := by decide +kernel
theorem d_Mo_erase_5 : decode b_Mo_erase 5 = .ok (.iconst 0, 1) := by decide +kernel
theorem d_Mo_erase_6 : decode b_Mo_erase 6 = .ok (.iconst 5, 1) := by decide +kernel
theorem d_Mo_erase_7 : decode b_Mo_erase 7 = .ok (.invokestatic 91, 3) := by decide +kernel
theorem d_Mo_erase_10 : decode b_Mo_erase 10 = .ok (.ifCond .ne 9, 3) := by decide +kernel
theorem d_Mo_erase_13 : decode b_Mo_erase 13 = .ok (.aload_n 0, 1) := by decide +kernel
theorem d_Mo_erase_14 : decode b_Mo_erase 14 = .ok (.iconst 1, 1) := by decide +kernel
theorem d_Mo_erase_15 : decode b_Mo_erase 15 = .ok (.invokevirtual 102, 3) := by decide +kernel
theorem d_Mo_erase_18 : decode b_Mo_erase 18 = .ok (.ireturn, 1) := by decide +kernel
theorem d_Mo_erase_19 : decode b_Mo_erase 19 = .ok (.aload_n 0, 1) := by decide +kernel
theorem d_Mo_erase_20 : decode b_Mo_erase 20 = .ok (.iload_n 1, 1) := by decide +kernel
theorem d_Mo_erase_21 : decode b_Mo_erase 21 = .ok (.invokevirtual 115, 3) := by decide +kernel
theorem d_Mo_erase_24 : decode b_Mo_erase 24 = .ok (.ifCond .eq 9, 3) := by decide +kernel
theorem d_Mo_erase_27 : decode b_Mo_erase 27 = .ok (.aload_n 0, 1) := by decide +kernel
theorem d_Mo_erase_28 : decode b_Mo_erase 28 = .ok (.iconst 2, 1) := by decide +kernel
theorem d_Mo_erase_29 : decode b_Mo_erase 29 = .ok (.invokevirtual 102, 3) := by decide +kernel
theorem d_Mo_erase_32 : decode b_Mo_erase 32 = .ok (.ireturn, 1) := by decide +kernel
theorem d_Mo_erase_33 : decode b_Mo_erase 33 = .ok (.aload_n 0, 1) := by decide +kernel
theorem d_Mo_erase_34 : decode b_Mo_erase 34 = .ok (.iload_n 1, 1) := by decide +kernel
theorem d_Mo_erase_35 : decode b_Mo_erase 35 = .ok (.iload_n 2, 1) := by decide +kernel
theorem d_Mo_erase_36 : decode b_Mo_erase 36 = .ok (.invokevirtual 119, 3) := by decide +kernel
theorem d_Mo_erase_39 : decode b_Mo_erase 39 = .ok (.ifCond .ge 9, 3) := by decide +kernel
theorem d_Mo_erase_42 : decode b_Mo_erase 42 = .ok (.aload_n 0, 1) := by decide +kernel
theorem d_Mo_erase_43 : decode b_Mo_erase 43 = .ok (.iconst 3, 1) := by decide +kernel
theorem d_Mo_erase_44 : decode b_Mo_erase 44 = .ok (.invokevirtual 102, 3) := by decide +kernel
theorem d_Mo_erase_47 : decode b_Mo_erase 47 = .ok (.ireturn, 1) := by decide +kernel
theorem d_Mo_erase_48 : decode b_Mo_erase 48 = .ok (.aload_n 0, 1) := by decide +kernel
theorem d_Mo_erase_49 : decode b_Mo_erase 49 = .ok (.iload_n 1, 1) := by decide +kernel
theorem d_Mo_erase_50 : decode b_Mo_erase 50 = .ok (.iload_n 2, 1) := by decide +kernel
theorem d_Mo_erase_51 : decode b_Mo_erase 51 = .ok (.iconst (-1), 1) := by decide +kernel
theorem d_Mo_erase_52 : decode b_Mo_erase 52 = .ok (.invokevirtual 137, 3) := by decide +kernel
theorem d_Mo_erase_55 : decode b_Mo_erase 55 = .ok (.aload_n 0, 1) := by decide +kernel
theorem d_Mo_erase_56 : decode b_Mo_erase 56 = .ok (.getfield 88, 3) := by decide +kernel
theorem d_Mo_erase_59 : decode b_Mo_erase 59 = .ok (.ifCond .le 16, 3) := by decide +kernel
theorem d_Mo_erase_62 : decode b_Mo_erase 62 = .ok (.aload_n 0, 1) := by decide +kernel
theorem d_Mo_erase_63 : decode b_Mo_erase 63 = .ok (.iconst 3, 1) := by decide +kernel
theorem d_Mo_erase_64 : decode b_Mo_erase 64 = .ok (.aload_n 0, 1) := by decide +kernel
theorem d_Mo_erase_65 : decode b_Mo_erase 65 = .ok (.getfield 88, 3) := by decide +kernel
theorem d_Mo_erase_68 : decode b_Mo_erase 68 = .ok (.iadd, 1) := by decide +kernel
theorem d_Mo_erase_69 : decode b_Mo_erase 69 = .ok (.invokevirtual 102, 3) := by decide +kernel
theorem d_Mo_erase_72 : decode b_Mo_erase 72 = .ok (.goto 8, 3) := by decide +kernel
theorem d_Mo_erase_75 : decode b_Mo_erase 75 = .ok (.aload_n 0, 1) := by decide +kernel
theorem d_Mo_erase_76 : decode b_Mo_erase 76 = .ok (.iconst 1, 1) := by decide +kernel
theorem d_Mo_erase_77 : decode b_Mo_erase 77 = .ok (.invokevirtual 105, 3) := by decide +kernel
theorem d_Mo_erase_80 : decode b_Mo_erase 80 = .ok (.ireturn, 1) := by decide +kernel
theorem d_Mo_commit_0 : decode b_Mo_commit 0 = .ok (.aload_n 0, 1) := by decide +kernel
theorem d_Mo_commit_1 : decode b_Mo_commit 1 = .ok (.invokevirtual 95, 3) := by decide +kernel
theorem d_Mo_commit_4 : decode b_Mo_commit 4 = .ok (.aload_n 0, 1) := by decide +kernel
theorem d_Mo_commit_5 : decode b_Mo_commit 5 = .ok (.iload_n 1, 1) := by decide +kernel
theorem d_Mo_commit_6 : decode b_Mo_commit 6 = .ok (.invokevirtual 115, 3) := by decide +kernel
theorem d_Mo_commit_9 : decode b_Mo_commit 9 = .ok (.ifCond .eq 9, 3) := by decide +kernel
theorem d_Mo_commit_12 : decode b_Mo_commit 12 = .ok (.aload_n 0, 1) := by decide +kernel
theorem d_Mo_commit_13 : decode b_Mo_commit 13 = .ok (.iconst 1, 1) := by decide +kernel
theorem d_Mo_commit_14 : decode b_Mo_commit 14 = .ok (.invokevirtual 102, 3) := by decide +kernel
theorem d_Mo_commit_17 : decode b_Mo_commit 17 = .ok (.ireturn, 1) := by decide +kernel
theorem d_Mo_commit_18 : decode b_Mo_commit 18 = .ok (.aload_n 0, 1) := by decide +kernel
theorem d_Mo_commit_19 : decode b_Mo_commit 19 = .ok (.getfield 72, 3) := by decide +kernel
theorem d_Mo_commit_22 : decode b_Mo_commit 22 = .ok (.istore_n 2, 1) := by decide +kernel
theorem d_Mo_commit_23 : decode b_Mo_commit 23 = .ok (.iconst 0, 1) := by decide +kernel
theorem d_Mo_commit_24 : decode b_Mo_commit 24 = .ok (.istore_n 3, 1) := by decide +kernel
theorem d_Mo_commit_25 : decode b_Mo_commit 25 = .ok (.iload_n 3, 1) := by decide +kernel
theorem d_Mo_commit_26 : decode b_Mo_commit 26 = .ok (.bipush 6, 2) := by decide +kernel
theorem d_Mo_commit_28 : decode b_Mo_commit 28 = .ok (.if_icmp .ge 43, 3) := by decide +kernel
theorem d_Mo_commit_31 : decode b_Mo_commit 31 = .ok (.aload_n 0, 1) := by decide +kernel
theorem d_Mo_commit_32 : decode b_Mo_commit 32 = .ok (.getfield 58, 3) := by decide +kernel
theorem d_Mo_commit_35 : decode b_Mo_commit 35 = .ok (.ifCond .ne 36, 3) := by decide +kernel
theorem d_Mo_commit_38 : decode b_Mo_commit 38 = .ok (.aload_n 0, 1) := by decide +kernel
theorem d_Mo_commit_39 : decode b_Mo_commit 39 = .ok (.getfield 41, 3) := by decide +kernel
theorem d_Mo_commit_42 : decode b_Mo_commit 42 = .ok (.iload_n 1, 1) := by decide +kernel
theorem d_Mo_commit_43 : decode b_Mo_commit 43 = .ok (.iaload, 1) := by decide +kernel
theorem d_Mo_commit_44 : decode b_Mo_commit 44 = .ok (.iload_n 3, 1) := by decide +kernel
theorem d_Mo_commit_45 : decode b_Mo_commit 45 = .ok (.ishr, 1) := by decide +kernel
theorem d_Mo_commit_46 : decode b_Mo_commit 46 = .ok (.iconst 1, 1) := by decide +kernel
theorem d_Mo_commit_47 : decode b_Mo_commit 47 = .ok (.iand, 1) := by decide +kernel
theorem d_Mo_commit_48 : decode b_Mo_commit 48 = .ok (.ifCond .eq 17, 3) := by decide +kernel
theorem d_Mo_commit_51 : decode b_Mo_commit 51 = .ok (.aload_n 0, 1) := by decide +kernel
theorem d_Mo_commit_52 : decode b_Mo_commit 52 = .ok (.getfield 34, 3) := by decide +kernel
theorem d_Mo_commit_55 : decode b_Mo_commit 55 = .ok (.iload_n 3, 1) := by decide +kernel
theorem d_Mo_commit_56 : decode b_Mo_commit 56 = .ok (.baload, 1) := by decide +kernel
theorem d_Mo_commit_57 : decode b_Mo_commit 57 = .ok (.ifCond .eq 8, 3) := by decide +kernel
theorem d_Mo_commit_60 : decode b_Mo_commit 60 = .ok (.aload_n 0, 1) := by decide +kernel
theorem d_Mo_commit_61 : decode b_Mo_commit 61 = .ok (.iload_n 3, 1) := by decide +kernel
theorem d_Mo_commit_62 : decode b_Mo_commit 62 = .ok (.invokevirtual 85, 3) := by decide +kernel
theorem d_Mo_commit_65 : decode b_Mo_commit 65 = .ok (.iinc 3 1, 3) := by decide +kernel
theorem d_Mo_commit_68 : decode b_Mo_commit 68 = .ok (.goto (-43), 3) := by decide +kernel
theorem d_Mo_commit_71 : decode b_Mo_commit 71 = .ok (.aload_n 0, 1) := by decide +kernel
theorem d_Mo_commit_72 : decode b_Mo_commit 72 = .ok (.getfield 58, 3) := by decide +kernel
theorem d_Mo_commit_75 : decode b_Mo_commit 75 = .ok (.ifCond .eq 6, 3) := by decide +kernel
theorem d_Mo_commit_78 : decode b_Mo_commit 78 = .ok (.bipush (-9), 2) := by decide +kernel
theorem d_Mo_commit_80 : decode b_Mo_commit 80 = .ok (.ireturn, 1) := by decide +kernel
theorem d_Mo_commit_81 : decode b_Mo_commit 81 = .ok (.aload_n 0, 1) := by decide +kernel
theorem d_Mo_commit_82 : decode b_Mo_commit 82 = .ok (.getfield 28, 3) := by decide +kernel
theorem d_Mo_commit_85 : decode b_Mo_commit 85 = .ok (.iload_n 1, 1) := by decide +kernel
theorem d_Mo_commit_86 : decode b_Mo_commit 86 = .ok (.iconst 2, 1) := by decide +kernel
theorem d_Mo_commit_87 : decode b_Mo_commit 87 = .ok (.iastore, 1) := by decide +kernel
theorem d_Mo_commit_88 : decode b_Mo_commit 88 = .ok (.aload_n 0, 1) := by decide +kernel
theorem d_Mo_commit_89 : decode b_Mo_commit 89 = .ok (.getfield 34, 3) := by decide +kernel
theorem d_Mo_commit_92 : decode b_Mo_commit 92 = .ok (.bipush 6, 2) := by decide +kernel
theorem d_Mo_commit_94 : decode b_Mo_commit 94 = .ok (.iconst 1, 1) := by decide +kernel
theorem d_Mo_commit_95 : decode b_Mo_commit 95 = .ok (.bastore, 1) := by decide +kernel
theorem d_Mo_commit_96 : decode b_Mo_commit 96 = .ok (.aload_n 0, 1) := by decide +kernel
theorem d_Mo_commit_97 : decode b_Mo_commit 97 = .ok (.bipush 6, 2) := by decide +kernel
theorem d_Mo_commit_99 : decode b_Mo_commit 99 = .ok (.invokevirtual 85, 3) := by decide +kernel
theorem d_Mo_commit_102 : decode b_Mo_commit 102 = .ok (.aload_n 0, 1) := by decide +kernel
theorem d_Mo_commit_103 : decode b_Mo_commit 103 = .ok (.aload_n 0, 1) := by decide +kernel
theorem d_Mo_commit_104 : decode b_Mo_commit 104 = .ok (.getfield 72, 3) := by decide +kernel
theorem d_Mo_commit_107 : decode b_Mo_commit 107 = .ok (.iload_n 2, 1) := by decide +kernel
theorem d_Mo_commit_108 : decode b_Mo_commit 108 = .ok (.isub, 1) := by decide +kernel
theorem d_Mo_commit_109 : decode b_Mo_commit 109 = .ok (.invokevirtual 105, 3) := by decide +kernel
theorem d_Mo_commit_112 : decode b_Mo_commit 112 = .ok (.ireturn, 1) := by decide +kernel
theorem d_Mo_rollback_0 : decode b_Mo_rollback 0 = .ok (.aload_n 0, 1) := by decide +kernel
theorem d_Mo_rollback_1 : decode b_Mo_rollback 1 = .ok (.invokevirtual 95, 3) := by decide +kernel
theorem d_Mo_rollback_4 : decode b_Mo_rollback 4 = .ok (.aload_n 0, 1) := by decide +kernel
theorem d_Mo_rollback_5 : decode b_Mo_rollback 5 = .ok (.iload_n 1, 1) := by decide +kernel
theorem d_Mo_rollback_6 : decode b_Mo_rollback 6 = .ok (.invokevirtual 115, 3) := by decide +kernel
theorem d_Mo_rollback_9 : decode b_Mo_rollback 9 = .ok (.ifCond .eq 9, 3) := by decide +kernel
theorem d_Mo_rollback_12 : decode b_Mo_rollback 12 = .ok (.aload_n 0, 1) := by decide +kernel
theorem d_Mo_rollback_13 : decode b_Mo_rollback 13 = .ok (.iconst 1, 1) := by decide +kernel
theorem d_Mo_rollback_14 : decode b_Mo_rollback 14 = .ok (.invokevirtual 102, 3) := by decide +kernel
theorem d_Mo_rollback_17 : decode b_Mo_rollback 17 = .ok (.ireturn, 1) := by decide +kernel
theorem d_Mo_rollback_18 : decode b_Mo_rollback 18 = .ok (.aload_n 0, 1) := by decide +kernel
theorem d_Mo_rollback_19 : decode b_Mo_rollback 19 = .ok (.getfield 28, 3) := by decide +kernel
theorem d_Mo_rollback_22 : decode b_Mo_rollback 22 = .ok (.iload_n 1, 1) := by decide +kernel
theorem d_Mo_rollback_23 : decode b_Mo_rollback 23 = .ok (.iconst 3, 1) := by decide +kernel
theorem d_Mo_rollback_24 : decode b_Mo_rollback 24 = .ok (.iastore, 1) := by decide +kernel
theorem d_Mo_rollback_25 : decode b_Mo_rollback 25 = .ok (.aload_n 0, 1) := by decide +kernel
theorem d_Mo_rollback_26 : decode b_Mo_rollback 26 = .ok (.getfield 34, 3) := by decide +kernel
theorem d_Mo_rollback_29 : decode b_Mo_rollback 29 = .ok (.bipush 6, 2) := by decide +kernel
theorem d_Mo_rollback_31 : decode b_Mo_rollback 31 = .ok (.iconst 1, 1) := by decide +kernel
theorem d_Mo_rollback_32 : decode b_Mo_rollback 32 = .ok (.bastore, 1) := by decide +kernel
theorem d_Mo_rollback_33 : decode b_Mo_rollback 33 = .ok (.iconst 1, 1) := by decide +kernel
theorem d_Mo_rollback_34 : decode b_Mo_rollback 34 = .ok (.ireturn, 1) := by decide +kernel
theorem d_Mo_settled_0 : decode b_Mo_settled 0 = .ok (.aload_n 0, 1) := by decide +kernel
theorem d_Mo_settled_1 : decode b_Mo_settled 1 = .ok (.getfield 28, 3) := by decide +kernel
theorem d_Mo_settled_4 : decode b_Mo_settled 4 = .ok (.aload_n 0, 1) := by decide +kernel
theorem d_Mo_settled_5 : decode b_Mo_settled 5 = .ok (.getfield 7, 3) := by decide +kernel
theorem d_Mo_settled_8 : decode b_Mo_settled 8 = .ok (.iload_n 1, 1) := by decide +kernel
theorem d_Mo_settled_9 : decode b_Mo_settled 9 = .ok (.iaload, 1) := by decide +kernel
theorem d_Mo_settled_10 : decode b_Mo_settled 10 = .ok (.iaload, 1) := by decide +kernel
theorem d_Mo_settled_11 : decode b_Mo_settled 11 = .ok (.iconst 2, 1) := by decide +kernel
theorem d_Mo_settled_12 : decode b_Mo_settled 12 = .ok (.if_icmp .eq 5, 3) := by decide +kernel
theorem d_Mo_settled_15 : decode b_Mo_settled 15 = .ok (.iconst 0, 1) := by decide +kernel
theorem d_Mo_settled_16 : decode b_Mo_settled 16 = .ok (.ireturn, 1) := by decide +kernel
theorem d_Mo_settled_17 : decode b_Mo_settled 17 = .ok (.iconst 1, 1) := by decide +kernel
theorem d_Mo_settled_18 : decode b_Mo_settled 18 = .ok (.istore_n 2, 1) := by decide +kernel
theorem d_Mo_settled_19 : decode b_Mo_settled 19 = .ok (.iload_n 2, 1) := by decide +kernel
theorem d_Mo_settled_20 : decode b_Mo_settled 20 = .ok (.bipush 40, 2) := by decide +kernel
theorem d_Mo_settled_22 : decode b_Mo_settled 22 = .ok (.if_icmp .gt 30, 3) := by decide +kernel
theorem d_Mo_settled_25 : decode b_Mo_settled 25 = .ok (.aload_n 0, 1) := by decide +kernel
theorem d_Mo_settled_26 : decode b_Mo_settled 26 = .ok (.getfield 28, 3) := by decide +kernel
theorem d_Mo_settled_29 : decode b_Mo_settled 29 = .ok (.iload_n 2, 1) := by decide +kernel
theorem d_Mo_settled_30 : decode b_Mo_settled 30 = .ok (.iaload, 1) := by decide +kernel
theorem d_Mo_settled_31 : decode b_Mo_settled 31 = .ok (.iconst 1, 1) := by decide +kernel
theorem d_Mo_settled_32 : decode b_Mo_settled 32 = .ok (.if_icmp .ne 14, 3) := by decide +kernel
theorem d_Mo_settled_35 : decode b_Mo_settled 35 = .ok (.aload_n 0, 1) := by decide +kernel
theorem d_Mo_settled_36 : decode b_Mo_settled 36 = .ok (.iload_n 2, 1) := by decide +kernel
theorem d_Mo_settled_37 : decode b_Mo_settled 37 = .ok (.iload_n 1, 1) := by decide +kernel
theorem d_Mo_settled_38 : decode b_Mo_settled 38 = .ok (.invokevirtual 108, 3) := by decide +kernel
theorem d_Mo_settled_41 : decode b_Mo_settled 41 = .ok (.ifCond .ne 5, 3) := by decide +kernel
theorem d_Mo_settled_44 : decode b_Mo_settled 44 = .ok (.iconst 0, 1) := by decide +kernel
theorem d_Mo_settled_45 : decode b_Mo_settled 45 = .ok (.ireturn, 1) := by decide +kernel
theorem d_Mo_settled_46 : decode b_Mo_settled 46 = .ok (.iinc 2 1, 3) := by decide +kernel
theorem d_Mo_settled_49 : decode b_Mo_settled 49 = .ok (.goto (-30), 3) := by decide +kernel
theorem d_Mo_settled_52 : decode b_Mo_settled 52 = .ok (.iconst 1, 1) := by decide +kernel
theorem d_Mo_settled_53 : decode b_Mo_settled 53 = .ok (.ireturn, 1) := by decide +kernel
theorem d_Mo_sweepOne_0 : decode b_Mo_sweepOne 0 = .ok (.aload_n 0, 1) := by decide +kernel
theorem d_Mo_sweepOne_1 : decode b_Mo_sweepOne 1 = .ok (.iload_n 1, 1) := by decide +kernel
theorem d_Mo_sweepOne_2 : decode b_Mo_sweepOne 2 = .ok (.invokevirtual 133, 3) := by decide +kernel
theorem d_Mo_sweepOne_5 : decode b_Mo_sweepOne 5 = .ok (.aload_n 0, 1) := by decide +kernel
theorem d_Mo_sweepOne_6 : decode b_Mo_sweepOne 6 = .ok (.getfield 58, 3) := by decide +kernel
theorem d_Mo_sweepOne_9 : decode b_Mo_sweepOne 9 = .ok (.ifCond .ne 12, 3) := by decide +kernel
theorem d_Mo_sweepOne_12 : decode b_Mo_sweepOne 12 = .ok (.aload_n 0, 1) := by decide +kernel
theorem d_Mo_sweepOne_13 : decode b_Mo_sweepOne 13 = .ok (.getfield 7, 3) := by decide +kernel
theorem d_Mo_sweepOne_16 : decode b_Mo_sweepOne 16 = .ok (.iload_n 1, 1) := by decide +kernel
theorem d_Mo_sweepOne_17 : decode b_Mo_sweepOne 17 = .ok (.iaload, 1) := by decide +kernel
theorem d_Mo_sweepOne_18 : decode b_Mo_sweepOne 18 = .ok (.ifCond .ne 5, 3) := by decide +kernel
theorem d_Mo_sweepOne_21 : decode b_Mo_sweepOne 21 = .ok (.iconst 0, 1) := by decide +kernel
theorem d_Mo_sweepOne_22 : decode b_Mo_sweepOne 22 = .ok (.ireturn, 1) := by decide +kernel
theorem d_Mo_sweepOne_23 : decode b_Mo_sweepOne 23 = .ok (.iload_n 1, 1) := by decide +kernel
theorem d_Mo_sweepOne_24 : decode b_Mo_sweepOne 24 = .ok (.istore_n 2, 1) := by decide +kernel
theorem d_Mo_sweepOne_25 : decode b_Mo_sweepOne 25 = .ok (.iload_n 2, 1) := by decide +kernel
theorem d_Mo_sweepOne_26 : decode b_Mo_sweepOne 26 = .ok (.ifCond .lt 20, 3) := by decide +kernel
theorem d_Mo_sweepOne_29 : decode b_Mo_sweepOne 29 = .ok (.aload_n 0, 1) := by decide +kernel
theorem d_Mo_sweepOne_30 : decode b_Mo_sweepOne 30 = .ok (.iload_n 2, 1) := by decide +kernel
theorem d_Mo_sweepOne_31 : decode b_Mo_sweepOne 31 = .ok (.invokevirtual 141, 3) := by decide +kernel
theorem d_Mo_sweepOne_34 : decode b_Mo_sweepOne 34 = .ok (.ifCond .ne 12, 3) := by decide +kernel
theorem d_Mo_sweepOne_37 : decode b_Mo_sweepOne 37 = .ok (.aload_n 0, 1) := by decide +kernel
theorem d_Mo_sweepOne_38 : decode b_Mo_sweepOne 38 = .ok (.iload_n 2, 1) := by decide +kernel
theorem d_Mo_sweepOne_39 : decode b_Mo_sweepOne 39 = .ok (.invokevirtual 112, 3) := by decide +kernel
theorem d_Mo_sweepOne_42 : decode b_Mo_sweepOne 42 = .ok (.istore_n 2, 1) := by decide +kernel
theorem d_Mo_sweepOne_43 : decode b_Mo_sweepOne 43 = .ok (.goto (-18), 3) := by decide +kernel
theorem d_Mo_sweepOne_46 : decode b_Mo_sweepOne 46 = .ok (.iload_n 2, 1) := by decide +kernel
theorem d_Mo_sweepOne_47 : decode b_Mo_sweepOne 47 = .ok (.ifCond .ge 5, 3) := by decide +kernel
theorem d_Mo_sweepOne_50 : decode b_Mo_sweepOne 50 = .ok (.iconst 0, 1) := by decide +kernel
theorem d_Mo_sweepOne_51 : decode b_Mo_sweepOne 51 = .ok (.ireturn, 1) := by decide +kernel
theorem d_Mo_sweepOne_52 : decode b_Mo_sweepOne 52 = .ok (.iconst 0, 1) := by decide +kernel
theorem d_Mo_sweepOne_53 : decode b_Mo_sweepOne 53 = .ok (.istore_n 3, 1) := by decide +kernel
theorem d_Mo_sweepOne_54 : decode b_Mo_sweepOne 54 = .ok (.aload_n 0, 1) := by decide +kernel
theorem d_Mo_sweepOne_55 : decode b_Mo_sweepOne 55 = .ok (.iload_n 2, 1) := by decide +kernel
theorem d_Mo_sweepOne_56 : decode b_Mo_sweepOne 56 = .ok (.invokevirtual 112, 3) := by decide +kernel
theorem d_Mo_sweepOne_59 : decode b_Mo_sweepOne 59 = .ok (.istore 4, 2) := by decide +kernel
theorem d_Mo_sweepOne_61 : decode b_Mo_sweepOne 61 = .ok (.aload_n 0, 1) := by decide +kernel
theorem d_Mo_sweepOne_62 : decode b_Mo_sweepOne 62 = .ok (.getfield 16, 3) := by decide +kernel
theorem d_Mo_sweepOne_65 : decode b_Mo_sweepOne 65 = .ok (.iload_n 2, 1) := by decide +kernel
theorem d_Mo_sweepOne_66 : decode b_Mo_sweepOne 66 = .ok (.iaload, 1) := by decide +kernel
theorem d_Mo_sweepOne_67 : decode b_Mo_sweepOne 67 = .ok (.ifCond .lt 20, 3) := by decide +kernel
theorem d_Mo_sweepOne_70 : decode b_Mo_sweepOne 70 = .ok (.aload_n 0, 1) := by decide +kernel
theorem d_Mo_sweepOne_71 : decode b_Mo_sweepOne 71 = .ok (.getfield 16, 3) := by decide +kernel
theorem d_Mo_sweepOne_74 : decode b_Mo_sweepOne 74 = .ok (.iload_n 2, 1) := by decide +kernel
theorem d_Mo_sweepOne_75 : decode b_Mo_sweepOne 75 = .ok (.iconst (-1), 1) := by decide +kernel
theorem d_Mo_sweepOne_76 : decode b_Mo_sweepOne 76 = .ok (.iastore, 1) := by decide +kernel
theorem d_Mo_sweepOne_77 : decode b_Mo_sweepOne 77 = .ok (.aload_n 0, 1) := by decide +kernel
theorem d_Mo_sweepOne_78 : decode b_Mo_sweepOne 78 = .ok (.getfield 34, 3) := by decide +kernel
theorem d_Mo_sweepOne_81 : decode b_Mo_sweepOne 81 = .ok (.iload_n 2, 1) := by decide +kernel
theorem d_Mo_sweepOne_82 : decode b_Mo_sweepOne 82 = .ok (.invokestatic 68, 3) := by decide +kernel
theorem d_Mo_sweepOne_85 : decode b_Mo_sweepOne 85 = .ok (.iconst 1, 1) := by decide +kernel
theorem d_Mo_sweepOne_86 : decode b_Mo_sweepOne 86 = .ok (.bastore, 1) := by decide +kernel
theorem d_Mo_sweepOne_87 : decode b_Mo_sweepOne 87 = .ok (.iload 4, 2) := by decide +kernel
theorem d_Mo_sweepOne_89 : decode b_Mo_sweepOne 89 = .ok (.ifCond .lt 62, 3) := by decide +kernel
theorem d_Mo_sweepOne_92 : decode b_Mo_sweepOne 92 = .ok (.aload_n 0, 1) := by decide +kernel
theorem d_Mo_sweepOne_93 : decode b_Mo_sweepOne 93 = .ok (.iload 4, 2) := by decide +kernel
theorem d_Mo_sweepOne_95 : decode b_Mo_sweepOne 95 = .ok (.invokevirtual 112, 3) := by decide +kernel
theorem d_Mo_sweepOne_98 : decode b_Mo_sweepOne 98 = .ok (.istore 5, 2) := by decide +kernel
theorem d_Mo_sweepOne_100 : decode b_Mo_sweepOne 100 = .ok (.aload_n 0, 1) := by decide +kernel
theorem d_Mo_sweepOne_101 : decode b_Mo_sweepOne 101 = .ok (.iload_n 1, 1) := by decide +kernel
theorem d_Mo_sweepOne_102 : decode b_Mo_sweepOne 102 = .ok (.invokestatic 68, 3) := by decide +kernel
theorem d_Mo_sweepOne_105 : decode b_Mo_sweepOne 105 = .ok (.iload 4, 2) := by decide +kernel
theorem d_Mo_sweepOne_107 : decode b_Mo_sweepOne 107 = .ok (.invokestatic 68, 3) := by decide +kernel
theorem d_Mo_sweepOne_110 : decode b_Mo_sweepOne 110 = .ok (.invokevirtual 126, 3) := by decide +kernel
theorem d_Mo_sweepOne_113 : decode b_Mo_sweepOne 113 = .ok (.aload_n 0, 1) := by decide +kernel
theorem d_Mo_sweepOne_114 : decode b_Mo_sweepOne 114 = .ok (.iload_n 2, 1) := by decide +kernel
theorem d_Mo_sweepOne_115 : decode b_Mo_sweepOne 115 = .ok (.invokestatic 68, 3) := by decide +kernel
theorem d_Mo_sweepOne_118 : decode b_Mo_sweepOne 118 = .ok (.iload 4, 2) := by decide +kernel
theorem d_Mo_sweepOne_120 : decode b_Mo_sweepOne 120 = .ok (.invokestatic 68, 3) := by decide +kernel
theorem d_Mo_sweepOne_123 : decode b_Mo_sweepOne 123 = .ok (.invokevirtual 126, 3) := by decide +kernel
theorem d_Mo_sweepOne_126 : decode b_Mo_sweepOne 126 = .ok (.aload_n 0, 1) := by decide +kernel
theorem d_Mo_sweepOne_127 : decode b_Mo_sweepOne 127 = .ok (.getfield 58, 3) := by decide +kernel
theorem d_Mo_sweepOne_130 : decode b_Mo_sweepOne 130 = .ok (.ifCond .eq 5, 3) := by decide +kernel
theorem d_Mo_sweepOne_133 : decode b_Mo_sweepOne 133 = .ok (.iconst 0, 1) := by decide +kernel
theorem d_Mo_sweepOne_134 : decode b_Mo_sweepOne 134 = .ok (.ireturn, 1) := by decide +kernel
theorem d_Mo_sweepOne_135 : decode b_Mo_sweepOne 135 = .ok (.aload_n 0, 1) := by decide +kernel
theorem d_Mo_sweepOne_136 : decode b_Mo_sweepOne 136 = .ok (.iload 4, 2) := by decide +kernel
theorem d_Mo_sweepOne_138 : decode b_Mo_sweepOne 138 = .ok (.invokevirtual 123, 3) := by decide +kernel
theorem d_Mo_sweepOne_141 : decode b_Mo_sweepOne 141 = .ok (.iinc 3 1, 3) := by decide +kernel
theorem d_Mo_sweepOne_144 : decode b_Mo_sweepOne 144 = .ok (.iload 5, 2) := by decide +kernel
theorem d_Mo_sweepOne_146 : decode b_Mo_sweepOne 146 = .ok (.istore 4, 2) := by decide +kernel
theorem d_Mo_sweepOne_148 : decode b_Mo_sweepOne 148 = .ok (.goto (-61), 3) := by decide +kernel
theorem d_Mo_sweepOne_151 : decode b_Mo_sweepOne 151 = .ok (.iload_n 2, 1) := by decide +kernel
theorem d_Mo_sweepOne_152 : decode b_Mo_sweepOne 152 = .ok (.iload_n 1, 1) := by decide +kernel
theorem d_Mo_sweepOne_153 : decode b_Mo_sweepOne 153 = .ok (.if_icmp .ne 17, 3) := by decide +kernel
theorem d_Mo_sweepOne_156 : decode b_Mo_sweepOne 156 = .ok (.aload_n 0, 1) := by decide +kernel
theorem d_Mo_sweepOne_157 : decode b_Mo_sweepOne 157 = .ok (.getfield 13, 3) := by decide +kernel
theorem d_Mo_sweepOne_160 : decode b_Mo_sweepOne 160 = .ok (.iload_n 2, 1) := by decide +kernel
theorem d_Mo_sweepOne_161 : decode b_Mo_sweepOne 161 = .ok (.iaload, 1) := by decide +kernel
theorem d_Mo_sweepOne_162 : decode b_Mo_sweepOne 162 = .ok (.ifCond .ge 8, 3) := by decide +kernel
theorem d_Mo_sweepOne_165 : decode b_Mo_sweepOne 165 = .ok (.aload_n 0, 1) := by decide +kernel
theorem d_Mo_sweepOne_166 : decode b_Mo_sweepOne 166 = .ok (.iload_n 1, 1) := by decide +kernel
theorem d_Mo_sweepOne_167 : decode b_Mo_sweepOne 167 = .ok (.invokevirtual 123, 3) := by decide +kernel
theorem d_Mo_sweepOne_170 : decode b_Mo_sweepOne 170 = .ok (.iload_n 3, 1) := by decide +kernel
theorem d_Mo_sweepOne_171 : decode b_Mo_sweepOne 171 = .ok (.ireturn, 1) := by decide +kernel
theorem d_Mo_sweep_0 : decode b_Mo_sweep 0 = .ok (.aload_n 0, 1) := by decide +kernel
theorem d_Mo_sweep_1 : decode b_Mo_sweep 1 = .ok (.invokevirtual 95, 3) := by decide +kernel
theorem d_Mo_sweep_4 : decode b_Mo_sweep 4 = .ok (.iconst 0, 1) := by decide +kernel
theorem d_Mo_sweep_5 : decode b_Mo_sweep 5 = .ok (.istore_n 1, 1) := by decide +kernel
theorem d_Mo_sweep_6 : decode b_Mo_sweep 6 = .ok (.iconst 0, 1) := by decide +kernel
theorem d_Mo_sweep_7 : decode b_Mo_sweep 7 = .ok (.istore_n 2, 1) := by decide +kernel
theorem d_Mo_sweep_8 : decode b_Mo_sweep 8 = .ok (.iload_n 2, 1) := by decide +kernel
theorem d_Mo_sweep_9 : decode b_Mo_sweep 9 = .ok (.bipush 6, 2) := by decide +kernel
theorem d_Mo_sweep_11 : decode b_Mo_sweep 11 = .ok (.if_icmp .ge 24, 3) := by decide +kernel
theorem d_Mo_sweep_14 : decode b_Mo_sweep 14 = .ok (.aload_n 0, 1) := by decide +kernel
theorem d_Mo_sweep_15 : decode b_Mo_sweep 15 = .ok (.getfield 58, 3) := by decide +kernel
theorem d_Mo_sweep_18 : decode b_Mo_sweep 18 = .ok (.ifCond .ne 17, 3) := by decide +kernel
theorem d_Mo_sweep_21 : decode b_Mo_sweep 21 = .ok (.iload_n 1, 1) := by decide +kernel
theorem d_Mo_sweep_22 : decode b_Mo_sweep 22 = .ok (.aload_n 0, 1) := by decide +kernel
theorem d_Mo_sweep_23 : decode b_Mo_sweep 23 = .ok (.iload_n 2, 1) := by decide +kernel
theorem d_Mo_sweep_24 : decode b_Mo_sweep 24 = .ok (.invokevirtual 144, 3) := by decide +kernel
theorem d_Mo_sweep_27 : decode b_Mo_sweep 27 = .ok (.iadd, 1) := by decide +kernel
theorem d_Mo_sweep_28 : decode b_Mo_sweep 28 = .ok (.istore_n 1, 1) := by decide +kernel
theorem d_Mo_sweep_29 : decode b_Mo_sweep 29 = .ok (.iinc 2 1, 3) := by decide +kernel
theorem d_Mo_sweep_32 : decode b_Mo_sweep 32 = .ok (.goto (-24), 3) := by decide +kernel
theorem d_Mo_sweep_35 : decode b_Mo_sweep 35 = .ok (.aload_n 0, 1) := by decide +kernel
theorem d_Mo_sweep_36 : decode b_Mo_sweep 36 = .ok (.iload_n 1, 1) := by decide +kernel
theorem d_Mo_sweep_37 : decode b_Mo_sweep 37 = .ok (.invokevirtual 105, 3) := by decide +kernel
theorem d_Mo_sweep_40 : decode b_Mo_sweep 40 = .ok (.ireturn, 1) := by decide +kernel
theorem d_Mo_flush_0 : decode b_Mo_flush 0 = .ok (.aload_n 0, 1) := by decide +kernel
theorem d_Mo_flush_1 : decode b_Mo_flush 1 = .ok (.invokevirtual 95, 3) := by decide +kernel
theorem d_Mo_flush_4 : decode b_Mo_flush 4 = .ok (.aload_n 0, 1) := by decide +kernel
theorem d_Mo_flush_5 : decode b_Mo_flush 5 = .ok (.getfield 72, 3) := by decide +kernel
theorem d_Mo_flush_8 : decode b_Mo_flush 8 = .ok (.istore_n 1, 1) := by decide +kernel
theorem d_Mo_flush_9 : decode b_Mo_flush 9 = .ok (.iconst 0, 1) := by decide +kernel
theorem d_Mo_flush_10 : decode b_Mo_flush 10 = .ok (.istore_n 2, 1) := by decide +kernel
theorem d_Mo_flush_11 : decode b_Mo_flush 11 = .ok (.iload_n 2, 1) := by decide +kernel
theorem d_Mo_flush_12 : decode b_Mo_flush 12 = .ok (.bipush 7, 2) := by decide +kernel
theorem d_Mo_flush_14 : decode b_Mo_flush 14 = .ok (.if_icmp .ge 30, 3) := by decide +kernel
theorem d_Mo_flush_17 : decode b_Mo_flush 17 = .ok (.aload_n 0, 1) := by decide +kernel
theorem d_Mo_flush_18 : decode b_Mo_flush 18 = .ok (.getfield 58, 3) := by decide +kernel
theorem d_Mo_flush_21 : decode b_Mo_flush 21 = .ok (.ifCond .ne 23, 3) := by decide +kernel
theorem d_Mo_flush_24 : decode b_Mo_flush 24 = .ok (.aload_n 0, 1) := by decide +kernel
theorem d_Mo_flush_25 : decode b_Mo_flush 25 = .ok (.getfield 34, 3) := by decide +kernel
theorem d_Mo_flush_28 : decode b_Mo_flush 28 = .ok (.iload_n 2, 1) := by decide +kernel
theorem d_Mo_flush_29 : decode b_Mo_flush 29 = .ok (.baload, 1) := by decide +kernel
theorem d_Mo_flush_30 : decode b_Mo_flush 30 = .ok (.ifCond .eq 8, 3) := by decide +kernel
theorem d_Mo_flush_33 : decode b_Mo_flush 33 = .ok (.aload_n 0, 1) := by decide +kernel
theorem d_Mo_flush_34 : decode b_Mo_flush 34 = .ok (.iload_n 2, 1) := by decide +kernel
theorem d_Mo_flush_35 : decode b_Mo_flush 35 = .ok (.invokevirtual 85, 3) := by decide +kernel
theorem d_Mo_flush_38 : decode b_Mo_flush 38 = .ok (.iinc 2 1, 3) := by decide +kernel
theorem d_Mo_flush_41 : decode b_Mo_flush 41 = .ok (.goto (-30), 3) := by decide +kernel
theorem d_Mo_flush_44 : decode b_Mo_flush 44 = .ok (.aload_n 0, 1) := by decide +kernel
theorem d_Mo_flush_45 : decode b_Mo_flush 45 = .ok (.aload_n 0, 1) := by decide +kernel
theorem d_Mo_flush_46 : decode b_Mo_flush 46 = .ok (.getfield 72, 3) := by decide +kernel
theorem d_Mo_flush_49 : decode b_Mo_flush 49 = .ok (.iload_n 1, 1) := by decide +kernel
theorem d_Mo_flush_50 : decode b_Mo_flush 50 = .ok (.isub, 1) := by decide +kernel
theorem d_Mo_flush_51 : decode b_Mo_flush 51 = .ok (.invokevirtual 105, 3) := by decide +kernel
theorem d_Mo_flush_54 : decode b_Mo_flush 54 = .ok (.ireturn, 1) := by decide +kernel
theorem d_Mo_fail_0 : decode b_Mo_fail 0 = .ok (.aload_n 0, 1) := by decide +kernel
theorem d_Mo_fail_1 : decode b_Mo_fail 1 = .ok (.invokevirtual 95, 3) := by decide +kernel
theorem d_Mo_fail_4 : decode b_Mo_fail 4 = .ok (.iload_n 1, 1) := by decide +kernel
theorem d_Mo_fail_5 : decode b_Mo_fail 5 = .ok (.iconst 0, 1) := by decide +kernel
theorem d_Mo_fail_6 : decode b_Mo_fail 6 = .ok (.bipush 50, 2) := by decide +kernel
theorem d_Mo_fail_8 : decode b_Mo_fail 8 = .ok (.invokestatic 91, 3) := by decide +kernel
theorem d_Mo_fail_11 : decode b_Mo_fail 11 = .ok (.ifCond .ne 9, 3) := by decide +kernel
theorem d_Mo_fail_14 : decode b_Mo_fail 14 = .ok (.aload_n 0, 1) := by decide +kernel
theorem d_Mo_fail_15 : decode b_Mo_fail 15 = .ok (.iconst 1, 1) := by decide +kernel
theorem d_Mo_fail_16 : decode b_Mo_fail 16 = .ok (.invokevirtual 102, 3) := by decide +kernel
theorem d_Mo_fail_19 : decode b_Mo_fail 19 = .ok (.ireturn, 1) := by decide +kernel
theorem d_Mo_fail_20 : decode b_Mo_fail 20 = .ok (.aload_n 0, 1) := by decide +kernel
theorem d_Mo_fail_21 : decode b_Mo_fail 21 = .ok (.getfield 62, 3) := by decide +kernel
theorem d_Mo_fail_24 : decode b_Mo_fail 24 = .ok (.istore_n 2, 1) := by decide +kernel
theorem d_Mo_fail_25 : decode b_Mo_fail 25 = .ok (.aload_n 0, 1) := by decide +kernel
theorem d_Mo_fail_26 : decode b_Mo_fail 26 = .ok (.iload_n 1, 1) := by decide +kernel
theorem d_Mo_fail_27 : decode b_Mo_fail 27 = .ok (.putfield 62, 3) := by decide +kernel
theorem d_Mo_fail_30 : decode b_Mo_fail 30 = .ok (.iload_n 2, 1) := by decide +kernel
theorem d_Mo_fail_31 : decode b_Mo_fail 31 = .ok (.ireturn, 1) := by decide +kernel
theorem d_Mo_crash_0 : decode b_Mo_crash 0 = .ok (.aload_n 0, 1) := by decide +kernel
theorem d_Mo_crash_1 : decode b_Mo_crash 1 = .ok (.invokevirtual 95, 3) := by decide +kernel
theorem d_Mo_crash_4 : decode b_Mo_crash 4 = .ok (.aload_n 0, 1) := by decide +kernel
theorem d_Mo_crash_5 : decode b_Mo_crash 5 = .ok (.invokevirtual 98, 3) := by decide +kernel
theorem d_Mo_crash_8 : decode b_Mo_crash 8 = .ok (.istore_n 1, 1) := by decide +kernel
theorem d_Mo_crash_9 : decode b_Mo_crash 9 = .ok (.aload_n 0, 1) := by decide +kernel
theorem d_Mo_crash_10 : decode b_Mo_crash 10 = .ok (.invokevirtual 65, 3) := by decide +kernel
theorem d_Mo_crash_13 : decode b_Mo_crash 13 = .ok (.iload_n 1, 1) := by decide +kernel
theorem d_Mo_crash_14 : decode b_Mo_crash 14 = .ok (.ireturn, 1) := by decide +kernel
theorem d_Mo_image_0 : decode b_Mo_image 0 = .ok (.aload_n 0, 1) := by decide +kernel
theorem d_Mo_image_1 : decode b_Mo_image 1 = .ok (.invokevirtual 95, 3) := by decide +kernel
theorem d_Mo_image_4 : decode b_Mo_image 4 = .ok (.iload_n 1, 1) := by decide +kernel
theorem d_Mo_image_5 : decode b_Mo_image 5 = .ok (.iconst 0, 1) := by decide +kernel
theorem d_Mo_image_6 : decode b_Mo_image 6 = .ok (.iconst 5, 1) := by decide +kernel
theorem d_Mo_image_7 : decode b_Mo_image 7 = .ok (.invokestatic 91, 3) := by decide +kernel
theorem d_Mo_image_10 : decode b_Mo_image 10 = .ok (.ifCond .ne 9, 3) := by decide +kernel
theorem d_Mo_image_13 : decode b_Mo_image 13 = .ok (.aload_n 0, 1) := by decide +kernel
theorem d_Mo_image_14 : decode b_Mo_image 14 = .ok (.iconst 1, 1) := by decide +kernel
theorem d_Mo_image_15 : decode b_Mo_image 15 = .ok (.invokevirtual 102, 3) := by decide +kernel
theorem d_Mo_image_18 : decode b_Mo_image 18 = .ok (.ireturn, 1) := by decide +kernel
theorem d_Mo_image_19 : decode b_Mo_image 19 = .ok (.iload_n 1, 1) := by decide +kernel
theorem d_Mo_image_20 : decode b_Mo_image 20 = .ok (.istore_n 2, 1) := by decide +kernel
theorem d_Mo_image_21 : decode b_Mo_image 21 = .ok (.iconst 0, 1) := by decide +kernel
theorem d_Mo_image_22 : decode b_Mo_image 22 = .ok (.istore_n 3, 1) := by decide +kernel
theorem d_Mo_image_23 : decode b_Mo_image 23 = .ok (.iload_n 3, 1) := by decide +kernel
theorem d_Mo_image_24 : decode b_Mo_image 24 = .ok (.bipush 16, 2) := by decide +kernel
theorem d_Mo_image_26 : decode b_Mo_image 26 = .ok (.if_icmp .ge 84, 3) := by decide +kernel
theorem d_Mo_image_29 : decode b_Mo_image 29 = .ok (.iload_n 2, 1) := by decide +kernel
theorem d_Mo_image_30 : decode b_Mo_image 30 = .ok (.ifCond .lt 80, 3) := by decide +kernel
theorem d_Mo_image_33 : decode b_Mo_image 33 = .ok (.aload_n 0, 1) := by decide +kernel
theorem d_Mo_image_34 : decode b_Mo_image 34 = .ok (.getfield 19, 3) := by decide +kernel
theorem d_Mo_image_37 : decode b_Mo_image 37 = .ok (.iload_n 2, 1) := by decide +kernel
theorem d_Mo_image_38 : decode b_Mo_image 38 = .ok (.iaload, 1) := by decide +kernel
theorem d_Mo_image_39 : decode b_Mo_image 39 = .ok (.ifCond .eq 71, 3) := by decide +kernel
theorem d_Mo_image_42 : decode b_Mo_image 42 = .ok (.aload_n 0, 1) := by decide +kernel
theorem d_Mo_image_43 : decode b_Mo_image 43 = .ok (.getfield 31, 3) := by decide +kernel
theorem d_Mo_image_46 : decode b_Mo_image 46 = .ok (.aload_n 0, 1) := by decide +kernel
theorem d_Mo_image_47 : decode b_Mo_image 47 = .ok (.getfield 19, 3) := by decide +kernel
theorem d_Mo_image_50 : decode b_Mo_image 50 = .ok (.iload_n 2, 1) := by decide +kernel
theorem d_Mo_image_51 : decode b_Mo_image 51 = .ok (.iaload, 1) := by decide +kernel
theorem d_Mo_image_52 : decode b_Mo_image 52 = .ok (.iaload, 1) := by decide +kernel
theorem d_Mo_image_53 : decode b_Mo_image 53 = .ok (.iconst 2, 1) := by decide +kernel
theorem d_Mo_image_54 : decode b_Mo_image 54 = .ok (.if_icmp .ne 27, 3) := by decide +kernel
theorem d_Mo_image_57 : decode b_Mo_image 57 = .ok (.aload_n 0, 1) := by decide +kernel
theorem d_Mo_image_58 : decode b_Mo_image 58 = .ok (.getfield 22, 3) := by decide +kernel
theorem d_Mo_image_61 : decode b_Mo_image 61 = .ok (.iload_n 2, 1) := by decide +kernel
theorem d_Mo_image_62 : decode b_Mo_image 62 = .ok (.iaload, 1) := by decide +kernel
theorem d_Mo_image_63 : decode b_Mo_image 63 = .ok (.ifCond .ge 11, 3) := by decide +kernel
theorem d_Mo_image_66 : decode b_Mo_image 66 = .ok (.aload_n 0, 1) := by decide +kernel
theorem d_Mo_image_67 : decode b_Mo_image 67 = .ok (.iconst 2, 1) := by decide +kernel
theorem d_Mo_image_68 : decode b_Mo_image 68 = .ok (.invokevirtual 102, 3) := by decide +kernel
theorem d_Mo_image_71 : decode b_Mo_image 71 = .ok (.goto 9, 3) := by decide +kernel
theorem d_Mo_image_74 : decode b_Mo_image 74 = .ok (.aload_n 0, 1) := by decide +kernel
theorem d_Mo_image_75 : decode b_Mo_image 75 = .ok (.getfield 22, 3) := by decide +kernel
theorem d_Mo_image_78 : decode b_Mo_image 78 = .ok (.iload_n 2, 1) := by decide +kernel
theorem d_Mo_image_79 : decode b_Mo_image 79 = .ok (.iaload, 1) := by decide +kernel
theorem d_Mo_image_80 : decode b_Mo_image 80 = .ok (.ireturn, 1) := by decide +kernel
theorem d_Mo_image_81 : decode b_Mo_image 81 = .ok (.aload_n 0, 1) := by decide +kernel
theorem d_Mo_image_82 : decode b_Mo_image 82 = .ok (.getfield 25, 3) := by decide +kernel
theorem d_Mo_image_85 : decode b_Mo_image 85 = .ok (.iload_n 2, 1) := by decide +kernel
theorem d_Mo_image_86 : decode b_Mo_image 86 = .ok (.iaload, 1) := by decide +kernel
theorem d_Mo_image_87 : decode b_Mo_image 87 = .ok (.ifCond .ge 7, 3) := by decide +kernel
theorem d_Mo_image_90 : decode b_Mo_image 90 = .ok (.iconst (-1), 1) := by decide +kernel
theorem d_Mo_image_91 : decode b_Mo_image 91 = .ok (.goto 12, 3) := by decide +kernel
theorem d_Mo_image_94 : decode b_Mo_image 94 = .ok (.bipush 6, 2) := by decide +kernel
theorem d_Mo_image_96 : decode b_Mo_image 96 = .ok (.aload_n 0, 1) := by decide +kernel
theorem d_Mo_image_97 : decode b_Mo_image 97 = .ok (.getfield 25, 3) := by decide +kernel
theorem d_Mo_image_100 : decode b_Mo_image 100 = .ok (.iload_n 2, 1) := by decide +kernel
theorem d_Mo_image_101 : decode b_Mo_image 101 = .ok (.iaload, 1) := by decide +kernel
theorem d_Mo_image_102 : decode b_Mo_image 102 = .ok (.iadd, 1) := by decide +kernel
theorem d_Mo_image_103 : decode b_Mo_image 103 = .ok (.istore_n 2, 1) := by decide +kernel
theorem d_Mo_image_104 : decode b_Mo_image 104 = .ok (.iinc 3 1, 3) := by decide +kernel
theorem d_Mo_image_107 : decode b_Mo_image 107 = .ok (.goto (-84), 3) := by decide +kernel
theorem d_Mo_image_110 : decode b_Mo_image 110 = .ok (.aload_n 0, 1) := by decide +kernel
theorem d_Mo_image_111 : decode b_Mo_image 111 = .ok (.iconst 2, 1) := by decide +kernel
theorem d_Mo_image_112 : decode b_Mo_image 112 = .ok (.invokevirtual 102, 3) := by decide +kernel
theorem d_Mo_image_115 : decode b_Mo_image 115 = .ok (.ireturn, 1) := by decide +kernel
theorem d_Mo_state_0 : decode b_Mo_state 0 = .ok (.aload_n 0, 1) := by decide +kernel
theorem d_Mo_state_1 : decode b_Mo_state 1 = .ok (.invokevirtual 95, 3) := by decide +kernel
theorem d_Mo_state_4 : decode b_Mo_state 4 = .ok (.iload_n 1, 1) := by decide +kernel
theorem d_Mo_state_5 : decode b_Mo_state 5 = .ok (.iconst 1, 1) := by decide +kernel
theorem d_Mo_state_6 : decode b_Mo_state 6 = .ok (.bipush 40, 2) := by decide +kernel
theorem d_Mo_state_8 : decode b_Mo_state 8 = .ok (.invokestatic 91, 3) := by decide +kernel
theorem d_Mo_state_11 : decode b_Mo_state 11 = .ok (.ifCond .eq 12, 3) := by decide +kernel
theorem d_Mo_state_14 : decode b_Mo_state 14 = .ok (.aload_n 0, 1) := by decide +kernel
theorem d_Mo_state_15 : decode b_Mo_state 15 = .ok (.getfield 28, 3) := by decide +kernel
theorem d_Mo_state_18 : decode b_Mo_state 18 = .ok (.iload_n 1, 1) := by decide +kernel
theorem d_Mo_state_19 : decode b_Mo_state 19 = .ok (.iaload, 1) := by decide +kernel
theorem d_Mo_state_20 : decode b_Mo_state 20 = .ok (.goto 8, 3) := by decide +kernel
theorem d_Mo_state_23 : decode b_Mo_state 23 = .ok (.aload_n 0, 1) := by decide +kernel
theorem d_Mo_state_24 : decode b_Mo_state 24 = .ok (.iconst 1, 1) := by decide +kernel
theorem d_Mo_state_25 : decode b_Mo_state 25 = .ok (.invokevirtual 102, 3) := by decide +kernel
theorem d_Mo_state_28 : decode b_Mo_state 28 = .ok (.ireturn, 1) := by decide +kernel
theorem d_Mo_version_0 : decode b_Mo_version 0 = .ok (.aload_n 0, 1) := by decide +kernel
theorem d_Mo_version_1 : decode b_Mo_version 1 = .ok (.invokevirtual 95, 3) := by decide +kernel
theorem d_Mo_version_4 : decode b_Mo_version 4 = .ok (.iload_n 1, 1) := by decide +kernel
theorem d_Mo_version_5 : decode b_Mo_version 5 = .ok (.iconst 0, 1) := by decide +kernel
theorem d_Mo_version_6 : decode b_Mo_version 6 = .ok (.iconst 5, 1) := by decide +kernel
theorem d_Mo_version_7 : decode b_Mo_version 7 = .ok (.invokestatic 91, 3) := by decide +kernel
theorem d_Mo_version_10 : decode b_Mo_version 10 = .ok (.ifCond .eq 12, 3) := by decide +kernel
theorem d_Mo_version_13 : decode b_Mo_version 13 = .ok (.iload_n 3, 1) := by decide +kernel
theorem d_Mo_version_14 : decode b_Mo_version 14 = .ok (.iconst 0, 1) := by decide +kernel
theorem d_Mo_version_15 : decode b_Mo_version 15 = .ok (.iconst 2, 1) := by decide +kernel
theorem d_Mo_version_16 : decode b_Mo_version 16 = .ok (.invokestatic 91, 3) := by decide +kernel
theorem d_Mo_version_19 : decode b_Mo_version 19 = .ok (.ifCond .ne 9, 3) := by decide +kernel
theorem d_Mo_version_22 : decode b_Mo_version 22 = .ok (.aload_n 0, 1) := by decide +kernel
theorem d_Mo_version_23 : decode b_Mo_version 23 = .ok (.iconst 1, 1) := by decide +kernel
theorem d_Mo_version_24 : decode b_Mo_version 24 = .ok (.invokevirtual 102, 3) := by decide +kernel
theorem d_Mo_version_27 : decode b_Mo_version 27 = .ok (.ireturn, 1) := by decide +kernel
theorem d_Mo_version_28 : decode b_Mo_version 28 = .ok (.iload_n 2, 1) := by decide +kernel
theorem d_Mo_version_29 : decode b_Mo_version 29 = .ok (.ifCond .lt 12, 3) := by decide +kernel
theorem d_Mo_version_32 : decode b_Mo_version 32 = .ok (.aload_n 0, 1) := by decide +kernel
theorem d_Mo_version_33 : decode b_Mo_version 33 = .ok (.getfield 7, 3) := by decide +kernel
theorem d_Mo_version_36 : decode b_Mo_version 36 = .ok (.iload_n 1, 1) := by decide +kernel
theorem d_Mo_version_37 : decode b_Mo_version 37 = .ok (.iaload, 1) := by decide +kernel
theorem d_Mo_version_38 : decode b_Mo_version 38 = .ok (.ifCond .ne 7, 3) := by decide +kernel
theorem d_Mo_version_41 : decode b_Mo_version 41 = .ok (.iconst (-1), 1) := by decide +kernel
theorem d_Mo_version_42 : decode b_Mo_version 42 = .ok (.goto 4, 3) := by decide +kernel
theorem d_Mo_version_45 : decode b_Mo_version 45 = .ok (.iload_n 1, 1) := by decide +kernel
theorem d_Mo_version_46 : decode b_Mo_version 46 = .ok (.istore 4, 2) := by decide +kernel
theorem d_Mo_version_48 : decode b_Mo_version 48 = .ok (.iconst 0, 1) := by decide +kernel
theorem d_Mo_version_49 : decode b_Mo_version 49 = .ok (.istore 5, 2) := by decide +kernel
theorem d_Mo_version_51 : decode b_Mo_version 51 = .ok (.iload 5, 2) := by decide +kernel
theorem d_Mo_version_53 : decode b_Mo_version 53 = .ok (.iload_n 2, 1) := by decide +kernel
theorem d_Mo_version_54 : decode b_Mo_version 54 = .ok (.if_icmp .ge 22, 3) := by decide +kernel
theorem d_Mo_version_57 : decode b_Mo_version 57 = .ok (.iload 4, 2) := by decide +kernel
theorem d_Mo_version_59 : decode b_Mo_version 59 = .ok (.ifCond .lt 17, 3) := by decide +kernel
theorem d_Mo_version_62 : decode b_Mo_version 62 = .ok (.aload_n 0, 1) := by decide +kernel
theorem d_Mo_version_63 : decode b_Mo_version 63 = .ok (.iload 4, 2) := by decide +kernel
theorem d_Mo_version_65 : decode b_Mo_version 65 = .ok (.invokevirtual 112, 3) := by decide +kernel
theorem d_Mo_version_68 : decode b_Mo_version 68 = .ok (.istore 4, 2) := by decide +kernel
theorem d_Mo_version_70 : decode b_Mo_version 70 = .ok (.iinc 5 1, 3) := by decide +kernel
theorem d_Mo_version_73 : decode b_Mo_version 73 = .ok (.goto (-22), 3) := by decide +kernel
theorem d_Mo_version_76 : decode b_Mo_version 76 = .ok (.iload 4, 2) := by decide +kernel
theorem d_Mo_version_78 : decode b_Mo_version 78 = .ok (.ifCond .ge 9, 3) := by decide +kernel
theorem d_Mo_version_81 : decode b_Mo_version 81 = .ok (.aload_n 0, 1) := by decide +kernel
theorem d_Mo_version_82 : decode b_Mo_version 82 = .ok (.iconst 2, 1) := by decide +kernel
theorem d_Mo_version_83 : decode b_Mo_version 83 = .ok (.invokevirtual 102, 3) := by decide +kernel
theorem d_Mo_version_86 : decode b_Mo_version 86 = .ok (.ireturn, 1) := by decide +kernel
theorem d_Mo_version_87 : decode b_Mo_version 87 = .ok (.iload_n 3, 1) := by decide +kernel
theorem d_Mo_version_88 : decode b_Mo_version 88 = .ok (.ifCond .ne 13, 3) := by decide +kernel
theorem d_Mo_version_91 : decode b_Mo_version 91 = .ok (.aload_n 0, 1) := by decide +kernel
theorem d_Mo_version_92 : decode b_Mo_version 92 = .ok (.getfield 7, 3) := by decide +kernel
theorem d_Mo_version_95 : decode b_Mo_version 95 = .ok (.iload 4, 2) := by decide +kernel
theorem d_Mo_version_97 : decode b_Mo_version 97 = .ok (.iaload, 1) := by decide +kernel
theorem d_Mo_version_98 : decode b_Mo_version 98 = .ok (.goto 34, 3) := by decide +kernel
theorem d_Mo_version_101 : decode b_Mo_version 101 = .ok (.iload_n 3, 1) := by decide +kernel
theorem d_Mo_version_102 : decode b_Mo_version 102 = .ok (.iconst 1, 1) := by decide +kernel
theorem d_Mo_version_103 : decode b_Mo_version 103 = .ok (.if_icmp .ne 13, 3) := by decide +kernel
theorem d_Mo_version_106 : decode b_Mo_version 106 = .ok (.aload_n 0, 1) := by decide +kernel
theorem d_Mo_version_107 : decode b_Mo_version 107 = .ok (.getfield 13, 3) := by decide +kernel
theorem d_Mo_version_110 : decode b_Mo_version 110 = .ok (.iload 4, 2) := by decide +kernel
theorem d_Mo_version_112 : decode b_Mo_version 112 = .ok (.iaload, 1) := by decide +kernel
theorem d_Mo_version_113 : decode b_Mo_version 113 = .ok (.goto 19, 3) := by decide +kernel
theorem d_Mo_version_116 : decode b_Mo_version 116 = .ok (.iload 4, 2) := by decide +kernel
theorem d_Mo_version_118 : decode b_Mo_version 118 = .ok (.bipush 6, 2) := by decide +kernel
theorem d_Mo_version_120 : decode b_Mo_version 120 = .ok (.if_icmp .ge 7, 3) := by decide +kernel
theorem d_Mo_version_123 : decode b_Mo_version 123 = .ok (.iconst (-1), 1) := by decide +kernel
theorem d_Mo_version_124 : decode b_Mo_version 124 = .ok (.goto 8, 3) := by decide +kernel
theorem d_Mo_version_127 : decode b_Mo_version 127 = .ok (.iload 4, 2) := by decide +kernel
theorem d_Mo_version_129 : decode b_Mo_version 129 = .ok (.bipush 6, 2) := by decide +kernel
theorem d_Mo_version_131 : decode b_Mo_version 131 = .ok (.isub, 1) := by decide +kernel
theorem d_Mo_version_132 : decode b_Mo_version 132 = .ok (.ireturn, 1) := by decide +kernel
theorem d_Mo_page_0 : decode b_Mo_page 0 = .ok (.aload_n 0, 1) := by decide +kernel
theorem d_Mo_page_1 : decode b_Mo_page 1 = .ok (.invokevirtual 95, 3) := by decide +kernel
theorem d_Mo_page_4 : decode b_Mo_page 4 = .ok (.iload_n 1, 1) := by decide +kernel
theorem d_Mo_page_5 : decode b_Mo_page 5 = .ok (.iconst 0, 1) := by decide +kernel
theorem d_Mo_page_6 : decode b_Mo_page 6 = .ok (.bipush 6, 2) := by decide +kernel
theorem d_Mo_page_8 : decode b_Mo_page 8 = .ok (.invokestatic 91, 3) := by decide +kernel
theorem d_Mo_page_11 : decode b_Mo_page 11 = .ok (.ifCond .eq 10, 3) := by decide +kernel
theorem d_Mo_page_14 : decode b_Mo_page 14 = .ok (.aload_n 0, 1) := by decide +kernel
theorem d_Mo_page_15 : decode b_Mo_page 15 = .ok (.getfield 38, 3) := by decide +kernel
theorem d_Mo_page_18 : decode b_Mo_page 18 = .ok (.iload_n 1, 1) := by decide +kernel
theorem d_Mo_page_19 : decode b_Mo_page 19 = .ok (.iaload, 1) := by decide +kernel
theorem d_Mo_page_20 : decode b_Mo_page 20 = .ok (.ireturn, 1) := by decide +kernel
theorem d_Mo_page_21 : decode b_Mo_page 21 = .ok (.iload_n 1, 1) := by decide +kernel
theorem d_Mo_page_22 : decode b_Mo_page 22 = .ok (.bipush 10, 2) := by decide +kernel
theorem d_Mo_page_24 : decode b_Mo_page 24 = .ok (.bipush 16, 2) := by decide +kernel
theorem d_Mo_page_26 : decode b_Mo_page 26 = .ok (.invokestatic 91, 3) := by decide +kernel
theorem d_Mo_page_29 : decode b_Mo_page 29 = .ok (.ifCond .eq 23, 3) := by decide +kernel
theorem d_Mo_page_32 : decode b_Mo_page 32 = .ok (.aload_n 0, 1) := by decide +kernel
theorem d_Mo_page_33 : decode b_Mo_page 33 = .ok (.getfield 34, 3) := by decide +kernel
theorem d_Mo_page_36 : decode b_Mo_page 36 = .ok (.iload_n 1, 1) := by decide +kernel
theorem d_Mo_page_37 : decode b_Mo_page 37 = .ok (.bipush 10, 2) := by decide +kernel
theorem d_Mo_page_39 : decode b_Mo_page 39 = .ok (.isub, 1) := by decide +kernel
theorem d_Mo_page_40 : decode b_Mo_page 40 = .ok (.baload, 1) := by decide +kernel
theorem d_Mo_page_41 : decode b_Mo_page 41 = .ok (.ifCond .eq 7, 3) := by decide +kernel
theorem d_Mo_page_44 : decode b_Mo_page 44 = .ok (.iconst 1, 1) := by decide +kernel
theorem d_Mo_page_45 : decode b_Mo_page 45 = .ok (.goto 12, 3) := by decide +kernel
theorem d_Mo_page_48 : decode b_Mo_page 48 = .ok (.iconst 0, 1) := by decide +kernel
theorem d_Mo_page_49 : decode b_Mo_page 49 = .ok (.goto 8, 3) := by decide +kernel
theorem d_Mo_page_52 : decode b_Mo_page 52 = .ok (.aload_n 0, 1) := by decide +kernel
theorem d_Mo_page_53 : decode b_Mo_page 53 = .ok (.iconst 1, 1) := by decide +kernel
theorem d_Mo_page_54 : decode b_Mo_page 54 = .ok (.invokevirtual 102, 3) := by decide +kernel
theorem d_Mo_page_57 : decode b_Mo_page 57 = .ok (.ireturn, 1) := by decide +kernel
theorem d_Mo_count_0 : decode b_Mo_count 0 = .ok (.aload_n 0, 1) := by decide +kernel
theorem d_Mo_count_1 : decode b_Mo_count 1 = .ok (.invokevirtual 95, 3) := by decide +kernel
theorem d_Mo_count_4 : decode b_Mo_count 4 = .ok (.iconst 0, 1) := by decide +kernel
theorem d_Mo_count_5 : decode b_Mo_count 5 = .ok (.istore_n 2, 1) := by decide +kernel
theorem d_Mo_count_6 : decode b_Mo_count 6 = .ok (.iload_n 1, 1) := by decide +kernel
theorem d_Mo_count_7 : decode b_Mo_count 7 = .ok (.tableswitch 105 0 4 #[33, 62, 67, 72, 77], 33) := by decide +kernel
theorem d_Mo_count_40 : decode b_Mo_count 40 = .ok (.bipush 6, 2) := by decide +kernel
theorem d_Mo_count_42 : decode b_Mo_count 42 = .ok (.istore_n 3, 1) := by decide +kernel
theorem d_Mo_count_43 : decode b_Mo_count 43 = .ok (.iload_n 3, 1) := by decide +kernel
theorem d_Mo_count_44 : decode b_Mo_count 44 = .ok (.bipush 15, 2) := by decide +kernel
theorem d_Mo_count_46 : decode b_Mo_count 46 = .ok (.if_icmp .ge 21, 3) := by decide +kernel
theorem d_Mo_count_49 : decode b_Mo_count 49 = .ok (.aload_n 0, 1) := by decide +kernel
theorem d_Mo_count_50 : decode b_Mo_count 50 = .ok (.getfield 7, 3) := by decide +kernel
theorem d_Mo_count_53 : decode b_Mo_count 53 = .ok (.iload_n 3, 1) := by decide +kernel
theorem d_Mo_count_54 : decode b_Mo_count 54 = .ok (.iaload, 1) := by decide +kernel
theorem d_Mo_count_55 : decode b_Mo_count 55 = .ok (.ifCond .ne 6, 3) := by decide +kernel
theorem d_Mo_count_58 : decode b_Mo_count 58 = .ok (.iinc 2 1, 3) := by decide +kernel
theorem d_Mo_count_61 : decode b_Mo_count 61 = .ok (.iinc 3 1, 3) := by decide +kernel
theorem d_Mo_count_64 : decode b_Mo_count 64 = .ok (.goto (-21), 3) := by decide +kernel
theorem d_Mo_count_67 : decode b_Mo_count 67 = .ok (.iload_n 2, 1) := by decide +kernel
theorem d_Mo_count_68 : decode b_Mo_count 68 = .ok (.ireturn, 1) := by decide +kernel
theorem d_Mo_count_69 : decode b_Mo_count 69 = .ok (.aload_n 0, 1) := by decide +kernel
theorem d_Mo_count_70 : decode b_Mo_count 70 = .ok (.invokevirtual 98, 3) := by decide +kernel
theorem d_Mo_count_73 : decode b_Mo_count 73 = .ok (.ireturn, 1) := by decide +kernel
theorem d_Mo_count_74 : decode b_Mo_count 74 = .ok (.aload_n 0, 1) := by decide +kernel
theorem d_Mo_count_75 : decode b_Mo_count 75 = .ok (.getfield 72, 3) := by decide +kernel
theorem d_Mo_count_78 : decode b_Mo_count 78 = .ok (.ireturn, 1) := by decide +kernel
theorem d_Mo_count_79 : decode b_Mo_count 79 = .ok (.aload_n 0, 1) := by decide +kernel
theorem d_Mo_count_80 : decode b_Mo_count 80 = .ok (.getfield 55, 3) := by decide +kernel
theorem d_Mo_count_83 : decode b_Mo_count 83 = .ok (.ireturn, 1) := by decide +kernel
theorem d_Mo_count_84 : decode b_Mo_count 84 = .ok (.iconst 0, 1) := by decide +kernel
theorem d_Mo_count_85 : decode b_Mo_count 85 = .ok (.istore_n 3, 1) := by decide +kernel
theorem d_Mo_count_86 : decode b_Mo_count 86 = .ok (.iload_n 3, 1) := by decide +kernel
theorem d_Mo_count_87 : decode b_Mo_count 87 = .ok (.bipush 7, 2) := by decide +kernel
theorem d_Mo_count_89 : decode b_Mo_count 89 = .ok (.if_icmp .ge 21, 3) := by decide +kernel
theorem d_Mo_count_92 : decode b_Mo_count 92 = .ok (.aload_n 0, 1) := by decide +kernel
theorem d_Mo_count_93 : decode b_Mo_count 93 = .ok (.getfield 34, 3) := by decide +kernel
theorem d_Mo_count_96 : decode b_Mo_count 96 = .ok (.iload_n 3, 1) := by decide +kernel
theorem d_Mo_count_97 : decode b_Mo_count 97 = .ok (.baload, 1) := by decide +kernel
theorem d_Mo_count_98 : decode b_Mo_count 98 = .ok (.ifCond .eq 6, 3) := by decide +kernel
theorem d_Mo_count_101 : decode b_Mo_count 101 = .ok (.iinc 2 1, 3) := by decide +kernel
theorem d_Mo_count_104 : decode b_Mo_count 104 = .ok (.iinc 3 1, 3) := by decide +kernel
theorem d_Mo_count_107 : decode b_Mo_count 107 = .ok (.goto (-21), 3) := by decide +kernel
theorem d_Mo_count_110 : decode b_Mo_count 110 = .ok (.iload_n 2, 1) := by decide +kernel
theorem d_Mo_count_111 : decode b_Mo_count 111 = .ok (.ireturn, 1) := by decide +kernel
theorem d_Mo_count_112 : decode b_Mo_count 112 = .ok (.aload_n 0, 1) := by decide +kernel
theorem d_Mo_count_113 : decode b_Mo_count 113 = .ok (.iconst 1, 1) := by decide +kernel
theorem d_Mo_count_114 : decode b_Mo_count 114 = .ok (.invokevirtual 102, 3) := by decide +kernel
theorem d_Mo_count_117 : decode b_Mo_count 117 = .ok (.ireturn, 1) := by decide +kernel
