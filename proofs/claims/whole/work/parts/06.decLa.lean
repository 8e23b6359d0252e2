theorem d_La_begin_0 : decode b_La_begin 0 = .ok (.aload_n 1, 1) := by decide +kernel
theorem d_La_begin_1 : decode b_La_begin 1 = .ok (.iconst 0, 1) := by decide +kernel
theorem d_La_begin_2 : decode b_La_begin 2 = .ok (.aload_n 0, 1) := by decide +kernel
theorem d_La_begin_3 : decode b_La_begin 3 = .ok (.invokevirtual 7, 3) := by decide +kernel
theorem d_La_begin_6 : decode b_La_begin 6 = .ok (.i2l, 1) := by decide +kernel
theorem d_La_begin_7 : decode b_La_begin 7 = .ok (.lastore, 1) := by decide +kernel
theorem d_La_begin_8 : decode b_La_begin 8 = .ok (.goto 6, 3) := by decide +kernel
theorem d_La_begin_11 : decode b_La_begin 11 = .ok (.astore_n 2, 1) := by decide +kernel
theorem d_La_begin_12 : decode b_La_begin 12 = .ok (.iconst 1, 1) := by decide +kernel
theorem d_La_begin_13 : decode b_La_begin 13 = .ok (.ireturn, 1) := by decide +kernel
theorem d_La_begin_14 : decode b_La_begin 14 = .ok (.iconst 0, 1) := by decide +kernel
theorem d_La_begin_15 : decode b_La_begin 15 = .ok (.ireturn, 1) := by decide +kernel
theorem d_La_read_0 : decode b_La_read 0 = .ok (.aload_n 3, 1) := by decide +kernel
theorem d_La_read_1 : decode b_La_read 1 = .ok (.iconst 0, 1) := by decide +kernel
theorem d_La_read_2 : decode b_La_read 2 = .ok (.aload_n 0, 1) := by decide +kernel
theorem d_La_read_3 : decode b_La_read 3 = .ok (.iload_n 1, 1) := by decide +kernel
theorem d_La_read_4 : decode b_La_read 4 = .ok (.iload_n 2, 1) := by decide +kernel
theorem d_La_read_5 : decode b_La_read 5 = .ok (.invokevirtual 15, 3) := by decide +kernel
theorem d_La_read_8 : decode b_La_read 8 = .ok (.i2l, 1) := by decide +kernel
theorem d_La_read_9 : decode b_La_read 9 = .ok (.lastore, 1) := by decide +kernel
theorem d_La_read_10 : decode b_La_read 10 = .ok (.goto 15, 3) := by decide +kernel
theorem d_La_read_13 : decode b_La_read 13 = .ok (.astore 4, 2) := by decide +kernel
theorem d_La_read_15 : decode b_La_read 15 = .ok (.iconst 1, 1) := by decide +kernel
theorem d_La_read_16 : decode b_La_read 16 = .ok (.ireturn, 1) := by decide +kernel
theorem d_La_read_17 : decode b_La_read 17 = .ok (.astore 4, 2) := by decide +kernel
theorem d_La_read_19 : decode b_La_read 19 = .ok (.iconst 2, 1) := by decide +kernel
theorem d_La_read_20 : decode b_La_read 20 = .ok (.ireturn, 1) := by decide +kernel
theorem d_La_read_21 : decode b_La_read 21 = .ok (.astore 4, 2) := by decide +kernel
theorem d_La_read_23 : decode b_La_read 23 = .ok (.iconst 3, 1) := by decide +kernel
theorem d_La_read_24 : decode b_La_read 24 = .ok (.ireturn, 1) := by decide +kernel
theorem d_La_read_25 : decode b_La_read 25 = .ok (.iconst 0, 1) := by decide +kernel
theorem d_La_read_26 : decode b_La_read 26 = .ok (.ireturn, 1) := by decide +kernel
theorem d_La_write_0 : decode b_La_write 0 = .ok (.aload 4, 2) := by decide +kernel
theorem d_La_write_2 : decode b_La_write 2 = .ok (.iconst 0, 1) := by decide +kernel
theorem d_La_write_3 : decode b_La_write 3 = .ok (.aload_n 0, 1) := by decide +kernel
theorem d_La_write_4 : decode b_La_write 4 = .ok (.iload_n 1, 1) := by decide +kernel
theorem d_La_write_5 : decode b_La_write 5 = .ok (.iload_n 2, 1) := by decide +kernel
theorem d_La_write_6 : decode b_La_write 6 = .ok (.iload_n 3, 1) := by decide +kernel
theorem d_La_write_7 : decode b_La_write 7 = .ok (.invokevirtual 23, 3) := by decide +kernel
theorem d_La_write_10 : decode b_La_write 10 = .ok (.i2l, 1) := by decide +kernel
theorem d_La_write_11 : decode b_La_write 11 = .ok (.lastore, 1) := by decide +kernel
theorem d_La_write_12 : decode b_La_write 12 = .ok (.goto 19, 3) := by decide +kernel
theorem d_La_write_15 : decode b_La_write 15 = .ok (.astore 5, 2) := by decide +kernel
theorem d_La_write_17 : decode b_La_write 17 = .ok (.iconst 1, 1) := by decide +kernel
theorem d_La_write_18 : decode b_La_write 18 = .ok (.ireturn, 1) := by decide +kernel
theorem d_La_write_19 : decode b_La_write 19 = .ok (.astore 5, 2) := by decide +kernel
theorem d_La_write_21 : decode b_La_write 21 = .ok (.iconst 2, 1) := by decide +kernel
theorem d_La_write_22 : decode b_La_write 22 = .ok (.ireturn, 1) := by decide +kernel
theorem d_La_write_23 : decode b_La_write 23 = .ok (.astore 5, 2) := by decide +kernel
theorem d_La_write_25 : decode b_La_write 25 = .ok (.iconst 3, 1) := by decide +kernel
theorem d_La_write_26 : decode b_La_write 26 = .ok (.ireturn, 1) := by decide +kernel
theorem d_La_write_27 : decode b_La_write 27 = .ok (.astore 5, 2) := by decide +kernel
theorem d_La_write_29 : decode b_La_write 29 = .ok (.iconst 4, 1) := by decide +kernel
theorem d_La_write_30 : decode b_La_write 30 = .ok (.ireturn, 1) := by decide +kernel
theorem d_La_write_31 : decode b_La_write 31 = .ok (.iconst 0, 1) := by decide +kernel
theorem d_La_write_32 : decode b_La_write 32 = .ok (.ireturn, 1) := by decide +kernel
theorem d_La_erase_0 : decode b_La_erase 0 = .ok (.aload_n 3, 1) := by decide +kernel
theorem d_La_erase_1 : decode b_La_erase 1 = .ok (.iconst 0, 1) := by decide +kernel
theorem d_La_erase_2 : decode b_La_erase 2 = .ok (.aload_n 0, 1) := by decide +kernel
theorem d_La_erase_3 : decode b_La_erase 3 = .ok (.iload_n 1, 1) := by decide +kernel
theorem d_La_erase_4 : decode b_La_erase 4 = .ok (.iload_n 2, 1) := by decide +kernel
theorem d_La_erase_5 : decode b_La_erase 5 = .ok (.invokevirtual 31, 3) := by decide +kernel
theorem d_La_erase_8 : decode b_La_erase 8 = .ok (.i2l, 1) := by decide +kernel
theorem d_La_erase_9 : decode b_La_erase 9 = .ok (.lastore, 1) := by decide +kernel
theorem d_La_erase_10 : decode b_La_erase 10 = .ok (.goto 23, 3) := by decide +kernel
theorem d_La_erase_13 : decode b_La_erase 13 = .ok (.astore 4, 2) := by decide +kernel
theorem d_La_erase_15 : decode b_La_erase 15 = .ok (.iconst 1, 1) := by decide +kernel
theorem d_La_erase_16 : decode b_La_erase 16 = .ok (.ireturn, 1) := by decide +kernel
theorem d_La_erase_17 : decode b_La_erase 17 = .ok (.astore 4, 2) := by decide +kernel
theorem d_La_erase_19 : decode b_La_erase 19 = .ok (.iconst 2, 1) := by decide +kernel
theorem d_La_erase_20 : decode b_La_erase 20 = .ok (.ireturn, 1) := by decide +kernel
theorem d_La_erase_21 : decode b_La_erase 21 = .ok (.astore 4, 2) := by decide +kernel
theorem d_La_erase_23 : decode b_La_erase 23 = .ok (.iconst 3, 1) := by decide +kernel
theorem d_La_erase_24 : decode b_La_erase 24 = .ok (.ireturn, 1) := by decide +kernel
theorem d_La_erase_25 : decode b_La_erase 25 = .ok (.astore 4, 2) := by decide +kernel
theorem d_La_erase_27 : decode b_La_erase 27 = .ok (.iconst 4, 1) := by decide +kernel
theorem d_La_erase_28 : decode b_La_erase 28 = .ok (.ireturn, 1) := by decide +kernel
theorem d_La_erase_29 : decode b_La_erase 29 = .ok (.astore 4, 2) := by decide +kernel
theorem d_La_erase_31 : decode b_La_erase 31 = .ok (.iconst 5, 1) := by decide +kernel
theorem d_La_erase_32 : decode b_La_erase 32 = .ok (.ireturn, 1) := by decide +kernel
theorem d_La_erase_33 : decode b_La_erase 33 = .ok (.iconst 0, 1) := by decide +kernel
theorem d_La_erase_34 : decode b_La_erase 34 = .ok (.ireturn, 1) := by decide +kernel
theorem d_La_commit_0 : decode b_La_commit 0 = .ok (.aload_n 2, 1) := by decide +kernel
theorem d_La_commit_1 : decode b_La_commit 1 = .ok (.iconst 0, 1) := by decide +kernel
theorem d_La_commit_2 : decode b_La_commit 2 = .ok (.aload_n 0, 1) := by decide +kernel
theorem d_La_commit_3 : decode b_La_commit 3 = .ok (.iload_n 1, 1) := by decide +kernel
theorem d_La_commit_4 : decode b_La_commit 4 = .ok (.invokevirtual 34, 3) := by decide +kernel
theorem d_La_commit_7 : decode b_La_commit 7 = .ok (.i2l, 1) := by decide +kernel
theorem d_La_commit_8 : decode b_La_commit 8 = .ok (.lastore, 1) := by decide +kernel
theorem d_La_commit_9 : decode b_La_commit 9 = .ok (.goto 6, 3) := by decide +kernel
theorem d_La_commit_12 : decode b_La_commit 12 = .ok (.astore_n 3, 1) := by decide +kernel
theorem d_La_commit_13 : decode b_La_commit 13 = .ok (.iconst 1, 1) := by decide +kernel
theorem d_La_commit_14 : decode b_La_commit 14 = .ok (.ireturn, 1) := by decide +kernel
theorem d_La_commit_15 : decode b_La_commit 15 = .ok (.iconst 0, 1) := by decide +kernel
theorem d_La_commit_16 : decode b_La_commit 16 = .ok (.ireturn, 1) := by decide +kernel
theorem d_La_rollback_0 : decode b_La_rollback 0 = .ok (.aload_n 2, 1) := by decide +kernel
theorem d_La_rollback_1 : decode b_La_rollback 1 = .ok (.iconst 0, 1) := by decide +kernel
theorem d_La_rollback_2 : decode b_La_rollback 2 = .ok (.aload_n 0, 1) := by decide +kernel
theorem d_La_rollback_3 : decode b_La_rollback 3 = .ok (.iload_n 1, 1) := by decide +kernel
theorem d_La_rollback_4 : decode b_La_rollback 4 = .ok (.invokevirtual 38, 3) := by decide +kernel
theorem d_La_rollback_7 : decode b_La_rollback 7 = .ok (.i2l, 1) := by decide +kernel
theorem d_La_rollback_8 : decode b_La_rollback 8 = .ok (.lastore, 1) := by decide +kernel
theorem d_La_rollback_9 : decode b_La_rollback 9 = .ok (.goto 6, 3) := by decide +kernel
theorem d_La_rollback_12 : decode b_La_rollback 12 = .ok (.astore_n 3, 1) := by decide +kernel
theorem d_La_rollback_13 : decode b_La_rollback 13 = .ok (.iconst 1, 1) := by decide +kernel
theorem d_La_rollback_14 : decode b_La_rollback 14 = .ok (.ireturn, 1) := by decide +kernel
theorem d_La_rollback_15 : decode b_La_rollback 15 = .ok (.iconst 0, 1) := by decide +kernel
theorem d_La_rollback_16 : decode b_La_rollback 16 = .ok (.ireturn, 1) := by decide +kernel
theorem d_La_fail_0 : decode b_La_fail 0 = .ok (.aload_n 2, 1) := by decide +kernel
theorem d_La_fail_1 : decode b_La_fail 1 = .ok (.iconst 0, 1) := by decide +kernel
theorem d_La_fail_2 : decode b_La_fail 2 = .ok (.aload_n 0, 1) := by decide +kernel
theorem d_La_fail_3 : decode b_La_fail 3 = .ok (.iload_n 1, 1) := by decide +kernel
theorem d_La_fail_4 : decode b_La_fail 4 = .ok (.invokevirtual 41, 3) := by decide +kernel
theorem d_La_fail_7 : decode b_La_fail 7 = .ok (.i2l, 1) := by decide +kernel
theorem d_La_fail_8 : decode b_La_fail 8 = .ok (.lastore, 1) := by decide +kernel
theorem d_La_fail_9 : decode b_La_fail 9 = .ok (.goto 6, 3) := by decide +kernel
theorem d_La_fail_12 : decode b_La_fail 12 = .ok (.astore_n 3, 1) := by decide +kernel
theorem d_La_fail_13 : decode b_La_fail 13 = .ok (.iconst 1, 1) := by decide +kernel
theorem d_La_fail_14 : decode b_La_fail 14 = .ok (.ireturn, 1) := by decide +kernel
theorem d_La_fail_15 : decode b_La_fail 15 = .ok (.iconst 0, 1) := by decide +kernel
theorem d_La_fail_16 : decode b_La_fail 16 = .ok (.ireturn, 1) := by decide +kernel
theorem d_La_image_0 : decode b_La_image 0 = .ok (.aload_n 2, 1) := by decide +kernel
theorem d_La_image_1 : decode b_La_image 1 = .ok (.iconst 0, 1) := by decide +kernel
theorem d_La_image_2 : decode b_La_image 2 = .ok (.aload_n 0, 1) := by decide +kernel
theorem d_La_image_3 : decode b_La_image 3 = .ok (.iload_n 1, 1) := by decide +kernel
theorem d_La_image_4 : decode b_La_image 4 = .ok (.invokevirtual 44, 3) := by decide +kernel
theorem d_La_image_7 : decode b_La_image 7 = .ok (.i2l, 1) := by decide +kernel
theorem d_La_image_8 : decode b_La_image 8 = .ok (.lastore, 1) := by decide +kernel
theorem d_La_image_9 : decode b_La_image 9 = .ok (.goto 9, 3) := by decide +kernel
theorem d_La_image_12 : decode b_La_image 12 = .ok (.astore_n 3, 1) := by decide +kernel
theorem d_La_image_13 : decode b_La_image 13 = .ok (.iconst 1, 1) := by decide +kernel
theorem d_La_image_14 : decode b_La_image 14 = .ok (.ireturn, 1) := by decide +kernel
theorem d_La_image_15 : decode b_La_image 15 = .ok (.astore_n 3, 1) := by decide +kernel
theorem d_La_image_16 : decode b_La_image 16 = .ok (.iconst 2, 1) := by decide +kernel
theorem d_La_image_17 : decode b_La_image 17 = .ok (.ireturn, 1) := by decide +kernel
theorem d_La_image_18 : decode b_La_image 18 = .ok (.iconst 0, 1) := by decide +kernel
theorem d_La_image_19 : decode b_La_image 19 = .ok (.ireturn, 1) := by decide +kernel
theorem d_La_state_0 : decode b_La_state 0 = .ok (.aload_n 2, 1) := by decide +kernel
theorem d_La_state_1 : decode b_La_state 1 = .ok (.iconst 0, 1) := by decide +kernel
theorem d_La_state_2 : decode b_La_state 2 = .ok (.aload_n 0, 1) := by decide +kernel
theorem d_La_state_3 : decode b_La_state 3 = .ok (.iload_n 1, 1) := by decide +kernel
theorem d_La_state_4 : decode b_La_state 4 = .ok (.invokevirtual 47, 3) := by decide +kernel
theorem d_La_state_7 : decode b_La_state 7 = .ok (.i2l, 1) := by decide +kernel
theorem d_La_state_8 : decode b_La_state 8 = .ok (.lastore, 1) := by decide +kernel
theorem d_La_state_9 : decode b_La_state 9 = .ok (.goto 6, 3) := by decide +kernel
theorem d_La_state_12 : decode b_La_state 12 = .ok (.astore_n 3, 1) := by decide +kernel
theorem d_La_state_13 : decode b_La_state 13 = .ok (.iconst 1, 1) := by decide +kernel
theorem d_La_state_14 : decode b_La_state 14 = .ok (.ireturn, 1) := by decide +kernel
theorem d_La_state_15 : decode b_La_state 15 = .ok (.iconst 0, 1) := by decide +kernel
theorem d_La_state_16 : decode b_La_state 16 = .ok (.ireturn, 1) := by decide +kernel
theorem d_La_version_0 : decode b_La_version 0 = .ok (.aload 4, 2) := by decide +kernel
theorem d_La_version_2 : decode b_La_version 2 = .ok (.iconst 0, 1) := by decide +kernel
theorem d_La_version_3 : decode b_La_version 3 = .ok (.aload_n 0, 1) := by decide +kernel
theorem d_La_version_4 : decode b_La_version 4 = .ok (.iload_n 1, 1) := by decide +kernel
theorem d_La_version_5 : decode b_La_version 5 = .ok (.iload_n 2, 1) := by decide +kernel
theorem d_La_version_6 : decode b_La_version 6 = .ok (.iload_n 3, 1) := by decide +kernel
theorem d_La_version_7 : decode b_La_version 7 = .ok (.invokevirtual 50, 3) := by decide +kernel
theorem d_La_version_10 : decode b_La_version 10 = .ok (.i2l, 1) := by decide +kernel
theorem d_La_version_11 : decode b_La_version 11 = .ok (.lastore, 1) := by decide +kernel
theorem d_La_version_12 : decode b_La_version 12 = .ok (.goto 11, 3) := by decide +kernel
theorem d_La_version_15 : decode b_La_version 15 = .ok (.astore 5, 2) := by decide +kernel
theorem d_La_version_17 : decode b_La_version 17 = .ok (.iconst 1, 1) := by decide +kernel
theorem d_La_version_18 : decode b_La_version 18 = .ok (.ireturn, 1) := by decide +kernel
theorem d_La_version_19 : decode b_La_version 19 = .ok (.astore 5, 2) := by decide +kernel
theorem d_La_version_21 : decode b_La_version 21 = .ok (.iconst 2, 1) := by decide +kernel
theorem d_La_version_22 : decode b_La_version 22 = .ok (.ireturn, 1) := by decide +kernel
theorem d_La_version_23 : decode b_La_version 23 = .ok (.iconst 0, 1) := by decide +kernel
theorem d_La_version_24 : decode b_La_version 24 = .ok (.ireturn, 1) := by decide +kernel
theorem d_La_page_0 : decode b_La_page 0 = .ok (.aload_n 2, 1) := by decide +kernel
theorem d_La_page_1 : decode b_La_page 1 = .ok (.iconst 0, 1) := by decide +kernel
theorem d_La_page_2 : decode b_La_page 2 = .ok (.aload_n 0, 1) := by decide +kernel
theorem d_La_page_3 : decode b_La_page 3 = .ok (.iload_n 1, 1) := by decide +kernel
theorem d_La_page_4 : decode b_La_page 4 = .ok (.invokevirtual 53, 3) := by decide +kernel
theorem d_La_page_7 : decode b_La_page 7 = .ok (.i2l, 1) := by decide +kernel
theorem d_La_page_8 : decode b_La_page 8 = .ok (.lastore, 1) := by decide +kernel
theorem d_La_page_9 : decode b_La_page 9 = .ok (.goto 6, 3) := by decide +kernel
theorem d_La_page_12 : decode b_La_page 12 = .ok (.astore_n 3, 1) := by decide +kernel
theorem d_La_page_13 : decode b_La_page 13 = .ok (.iconst 1, 1) := by decide +kernel
theorem d_La_page_14 : decode b_La_page 14 = .ok (.ireturn, 1) := by decide +kernel
theorem d_La_page_15 : decode b_La_page 15 = .ok (.iconst 0, 1) := by decide +kernel
theorem d_La_page_16 : decode b_La_page 16 = .ok (.ireturn, 1) := by decide +kernel
theorem d_La_count_0 : decode b_La_count 0 = .ok (.aload_n 2, 1) := by decide +kernel
theorem d_La_count_1 : decode b_La_count 1 = .ok (.iconst 0, 1) := by decide +kernel
theorem d_La_count_2 : decode b_La_count 2 = .ok (.aload_n 0, 1) := by decide +kernel
theorem d_La_count_3 : decode b_La_count 3 = .ok (.iload_n 1, 1) := by decide +kernel
theorem d_La_count_4 : decode b_La_count 4 = .ok (.invokevirtual 56, 3) := by decide +kernel
theorem d_La_count_7 : decode b_La_count 7 = .ok (.i2l, 1) := by decide +kernel
theorem d_La_count_8 : decode b_La_count 8 = .ok (.lastore, 1) := by decide +kernel
theorem d_La_count_9 : decode b_La_count 9 = .ok (.goto 6, 3) := by decide +kernel
theorem d_La_count_12 : decode b_La_count 12 = .ok (.astore_n 3, 1) := by decide +kernel
theorem d_La_count_13 : decode b_La_count 13 = .ok (.iconst 1, 1) := by decide +kernel
theorem d_La_count_14 : decode b_La_count 14 = .ok (.ireturn, 1) := by decide +kernel
theorem d_La_count_15 : decode b_La_count 15 = .ok (.iconst 0, 1) := by decide +kernel
theorem d_La_count_16 : decode b_La_count 16 = .ok (.ireturn, 1) := by decide +kernel
theorem d_La_law_0 : decode code 0 = .ok (.new 8, 3) := by decide +kernel
theorem d_La_law_3 : decode code 3 = .ok (.dup, 1) := by decide +kernel
theorem d_La_law_4 : decode code 4 = .ok (.invokespecial 59, 3) := by decide +kernel
theorem d_La_law_7 : decode code 7 = .ok (.astore_n 1, 1) := by decide +kernel
theorem d_La_law_8 : decode code 8 = .ok (.new 60, 3) := by decide +kernel
theorem d_La_law_11 : decode code 11 = .ok (.dup, 1) := by decide +kernel
theorem d_La_law_12 : decode code 12 = .ok (.invokespecial 62, 3) := by decide +kernel
theorem d_La_law_15 : decode code 15 = .ok (.astore_n 2, 1) := by decide +kernel
theorem d_La_law_16 : decode code 16 = .ok (.iconst 1, 1) := by decide +kernel
theorem d_La_law_17 : decode code 17 = .ok (.newarray .long, 2) := by decide +kernel
theorem d_La_law_19 : decode code 19 = .ok (.astore_n 3, 1) := by decide +kernel
theorem d_La_law_20 : decode code 20 = .ok (.iconst 0, 1) := by decide +kernel
theorem d_La_law_21 : decode code 21 = .ok (.istore 4, 2) := by decide +kernel
theorem d_La_law_23 : decode code 23 = .ok (.iload 4, 2) := by decide +kernel
theorem d_La_law_25 : decode code 25 = .ok (.aload_n 0, 1) := by decide +kernel
theorem d_La_law_26 : decode code 26 = .ok (.arraylength, 1) := by decide +kernel
theorem d_La_law_27 : decode code 27 = .ok (.iconst 4, 1) := by decide +kernel
theorem d_La_law_28 : decode code 28 = .ok (.isub, 1) := by decide +kernel
theorem d_La_law_29 : decode code 29 = .ok (.if_icmp .gt 860, 3) := by decide +kernel
theorem d_La_law_32 : decode code 32 = .ok (.aload_n 0, 1) := by decide +kernel
theorem d_La_law_33 : decode code 33 = .ok (.iload 4, 2) := by decide +kernel
theorem d_La_law_35 : decode code 35 = .ok (.iaload, 1) := by decide +kernel
theorem d_La_law_36 : decode code 36 = .ok (.bipush 15, 2) := by decide +kernel
theorem d_La_law_38 : decode code 38 = .ok (.iand, 1) := by decide +kernel
theorem d_La_law_39 : decode code 39 = .ok (.tableswitch 844 0 14 #[73, 117, 185, 265, 333, 389, 445, 458, 471, 527, 540, 596, 652, 732, 788], 73) := by decide +kernel
theorem d_La_law_112 : decode code 112 = .ok (.aload_n 1, 1) := by decide +kernel
theorem d_La_law_113 : decode code 113 = .ok (.aload_n 3, 1) := by decide +kernel
theorem d_La_law_114 : decode code 114 = .ok (.invokestatic 63, 3) := by decide +kernel
theorem d_La_law_117 : decode code 117 = .ok (.istore 5, 2) := by decide +kernel
theorem d_La_law_119 : decode code 119 = .ok (.aload_n 2, 1) := by decide +kernel
theorem d_La_law_120 : decode code 120 = .ok (.invokevirtual 68, 3) := by decide +kernel
theorem d_La_law_123 : decode code 123 = .ok (.istore 6, 2) := by decide +kernel
theorem d_La_law_125 : decode code 125 = .ok (.aload_n 2, 1) := by decide +kernel
theorem d_La_law_126 : decode code 126 = .ok (.invokevirtual 69, 3) := by decide +kernel
theorem d_La_law_129 : decode code 129 = .ok (.iload 5, 2) := by decide +kernel
theorem d_La_law_131 : decode code 131 = .ok (.if_icmp .eq 5, 3) := by decide +kernel
theorem d_La_law_134 : decode code 134 = .ok (.iconst 0, 1) := by decide +kernel
theorem d_La_law_135 : decode code 135 = .ok (.ireturn, 1) := by decide +kernel
theorem d_La_law_136 : decode code 136 = .ok (.iload 5, 2) := by decide +kernel
theorem d_La_law_138 : decode code 138 = .ok (.ifCond .ne 15, 3) := by decide +kernel
theorem d_La_law_141 : decode code 141 = .ok (.aload_n 3, 1) := by decide +kernel
theorem d_La_law_142 : decode code 142 = .ok (.iconst 0, 1) := by decide +kernel
theorem d_La_law_143 : decode code 143 = .ok (.laload, 1) := by decide +kernel
theorem d_La_law_144 : decode code 144 = .ok (.iload 6, 2) := by decide +kernel
theorem d_La_law_146 : decode code 146 = .ok (.i2l, 1) := by decide +kernel
theorem d_La_law_147 : decode code 147 = .ok (.lcmp, 1) := by decide +kernel
theorem d_La_law_148 : decode code 148 = .ok (.ifCond .eq 5, 3) := by decide +kernel
theorem d_La_law_151 : decode code 151 = .ok (.iconst 0, 1) := by decide +kernel
theorem d_La_law_152 : decode code 152 = .ok (.ireturn, 1) := by decide +kernel
theorem d_La_law_153 : decode code 153 = .ok (.goto 730, 3) := by decide +kernel
theorem d_La_law_156 : decode code 156 = .ok (.aload_n 1, 1) := by decide +kernel
theorem d_La_law_157 : decode code 157 = .ok (.aload_n 0, 1) := by decide +kernel
theorem d_La_law_158 : decode code 158 = .ok (.iload 4, 2) := by decide +kernel
theorem d_La_law_160 : decode code 160 = .ok (.iconst 1, 1) := by decide +kernel
theorem d_La_law_161 : decode code 161 = .ok (.iadd, 1) := by decide +kernel
theorem d_La_law_162 : decode code 162 = .ok (.iaload, 1) := by decide +kernel
theorem d_La_law_163 : decode code 163 = .ok (.aload_n 0, 1) := by decide +kernel
theorem d_La_law_164 : decode code 164 = .ok (.iload 4, 2) := by decide +kernel
theorem d_La_law_166 : decode code 166 = .ok (.iconst 2, 1) := by decide +kernel
theorem d_La_law_167 : decode code 167 = .ok (.iadd, 1) := by decide +kernel
theorem d_La_law_168 : decode code 168 = .ok (.iaload, 1) := by decide +kernel
theorem d_La_law_169 : decode code 169 = .ok (.aload_n 3, 1) := by decide +kernel
theorem d_La_law_170 : decode code 170 = .ok (.invokestatic 72, 3) := by decide +kernel
theorem d_La_law_173 : decode code 173 = .ok (.istore 5, 2) := by decide +kernel
theorem d_La_law_175 : decode code 175 = .ok (.aload_n 2, 1) := by decide +kernel
theorem d_La_law_176 : decode code 176 = .ok (.aload_n 0, 1) := by decide +kernel
theorem d_La_law_177 : decode code 177 = .ok (.iload 4, 2) := by decide +kernel
theorem d_La_law_179 : decode code 179 = .ok (.iconst 1, 1) := by decide +kernel
theorem d_La_law_180 : decode code 180 = .ok (.iadd, 1) := by decide +kernel
theorem d_La_law_181 : decode code 181 = .ok (.iaload, 1) := by decide +kernel
theorem d_La_law_182 : decode code 182 = .ok (.aload_n 0, 1) := by decide +kernel
theorem d_La_law_183 : decode code 183 = .ok (.iload 4, 2) := by decide +kernel
theorem d_La_law_185 : decode code 185 = .ok (.iconst 2, 1) := by decide +kernel
theorem d_La_law_186 : decode code 186 = .ok (.iadd, 1) := by decide +kernel
theorem d_La_law_187 : decode code 187 = .ok (.iaload, 1) := by decide +kernel
theorem d_La_law_188 : decode code 188 = .ok (.invokevirtual 75, 3) := by decide +kernel
theorem d_La_law_191 : decode code 191 = .ok (.istore 6, 2) := by decide +kernel
theorem d_La_law_193 : decode code 193 = .ok (.aload_n 2, 1) := by decide +kernel
theorem d_La_law_194 : decode code 194 = .ok (.invokevirtual 69, 3) := by decide +kernel
theorem d_La_law_197 : decode code 197 = .ok (.iload 5, 2) := by decide +kernel
theorem d_La_law_199 : decode code 199 = .ok (.if_icmp .eq 5, 3) := by decide +kernel
theorem d_La_law_202 : decode code 202 = .ok (.iconst 0, 1) := by decide +kernel
theorem d_La_law_203 : decode code 203 = .ok (.ireturn, 1) := by decide +kernel
theorem d_La_law_204 : decode code 204 = .ok (.iload 5, 2) := by decide +kernel
theorem d_La_law_206 : decode code 206 = .ok (.ifCond .ne 15, 3) := by decide +kernel
theorem d_La_law_209 : decode code 209 = .ok (.aload_n 3, 1) := by decide +kernel
theorem d_La_law_210 : decode code 210 = .ok (.iconst 0, 1) := by decide +kernel
theorem d_La_law_211 : decode code 211 = .ok (.laload, 1) := by decide +kernel
theorem d_La_law_212 : decode code 212 = .ok (.iload 6, 2) := by decide +kernel
theorem d_La_law_214 : decode code 214 = .ok (.i2l, 1) := by decide +kernel
theorem d_La_law_215 : decode code 215 = .ok (.lcmp, 1) := by decide +kernel
theorem d_La_law_216 : decode code 216 = .ok (.ifCond .eq 5, 3) := by decide +kernel
theorem d_La_law_219 : decode code 219 = .ok (.iconst 0, 1) := by decide +kernel
theorem d_La_law_220 : decode code 220 = .ok (.ireturn, 1) := by decide +kernel
theorem d_La_law_221 : decode code 221 = .ok (.goto 662, 3) := by decide +kernel
theorem d_La_law_224 : decode code 224 = .ok (.aload_n 1, 1) := by decide +kernel
theorem d_La_law_225 : decode code 225 = .ok (.aload_n 0, 1) := by decide +kernel
theorem d_La_law_226 : decode code 226 = .ok (.iload 4, 2) := by decide +kernel
theorem d_La_law_228 : decode code 228 = .ok (.iconst 1, 1) := by decide +kernel
theorem d_La_law_229 : decode code 229 = .ok (.iadd, 1) := by decide +kernel
theorem d_La_law_230 : decode code 230 = .ok (.iaload, 1) := by decide +kernel
theorem d_La_law_231 : decode code 231 = .ok (.aload_n 0, 1) := by decide +kernel
theorem d_La_law_232 : decode code 232 = .ok (.iload 4, 2) := by decide +kernel
theorem d_La_law_234 : decode code 234 = .ok (.iconst 2, 1) := by decide +kernel
theorem d_La_law_235 : decode code 235 = .ok (.iadd, 1) := by decide +kernel
theorem d_La_law_236 : decode code 236 = .ok (.iaload, 1) := by decide +kernel
theorem d_La_law_237 : decode code 237 = .ok (.aload_n 0, 1) := by decide +kernel
theorem d_La_law_238 : decode code 238 = .ok (.iload 4, 2) := by decide +kernel
theorem d_La_law_240 : decode code 240 = .ok (.iconst 3, 1) := by decide +kernel
theorem d_La_law_241 : decode code 241 = .ok (.iadd, 1) := by decide +kernel
theorem d_La_law_242 : decode code 242 = .ok (.iaload, 1) := by decide +kernel
theorem d_La_law_243 : decode code 243 = .ok (.aload_n 3, 1) := by decide +kernel
theorem d_La_law_244 : decode code 244 = .ok (.invokestatic 76, 3) := by decide +kernel
theorem d_La_law_247 : decode code 247 = .ok (.istore 5, 2) := by decide +kernel
theorem d_La_law_249 : decode code 249 = .ok (.aload_n 2, 1) := by decide +kernel
theorem d_La_law_250 : decode code 250 = .ok (.aload_n 0, 1) := by decide +kernel
theorem d_La_law_251 : decode code 251 = .ok (.iload 4, 2) := by decide +kernel
theorem d_La_law_253 : decode code 253 = .ok (.iconst 1, 1) := by decide +kernel
theorem d_La_law_254 : decode code 254 = .ok (.iadd, 1) := by decide +kernel
theorem d_La_law_255 : decode code 255 = .ok (.iaload, 1) := by decide +kernel
theorem d_La_law_256 : decode code 256 = .ok (.aload_n 0, 1) := by decide +kernel
theorem d_La_law_257 : decode code 257 = .ok (.iload 4, 2) := by decide +kernel
theorem d_La_law_259 : decode code 259 = .ok (.iconst 2, 1) := by decide +kernel
theorem d_La_law_260 : decode code 260 = .ok (.iadd, 1) := by decide +kernel
theorem d_La_law_261 : decode code 261 = .ok (.iaload, 1) := by decide +kernel
theorem d_La_law_262 : decode code 262 = .ok (.aload_n 0, 1) := by decide +kernel
theorem d_La_law_263 : decode code 263 = .ok (.iload 4, 2) := by decide +kernel
theorem d_La_law_265 : decode code 265 = .ok (.iconst 3, 1) := by decide +kernel
theorem d_La_law_266 : decode code 266 = .ok (.iadd, 1) := by decide +kernel
theorem d_La_law_267 : decode code 267 = .ok (.iaload, 1) := by decide +kernel
theorem d_La_law_268 : decode code 268 = .ok (.invokevirtual 79, 3) := by decide +kernel
theorem d_La_law_271 : decode code 271 = .ok (.istore 6, 2) := by decide +kernel
theorem d_La_law_273 : decode code 273 = .ok (.aload_n 2, 1) := by decide +kernel
theorem d_La_law_274 : decode code 274 = .ok (.invokevirtual 69, 3) := by decide +kernel
theorem d_La_law_277 : decode code 277 = .ok (.iload 5, 2) := by decide +kernel
theorem d_La_law_279 : decode code 279 = .ok (.if_icmp .eq 5, 3) := by decide +kernel
theorem d_La_law_282 : decode code 282 = .ok (.iconst 0, 1) := by decide +kernel
theorem d_La_law_283 : decode code 283 = .ok (.ireturn, 1) := by decide +kernel
theorem d_La_law_284 : decode code 284 = .ok (.iload 5, 2) := by decide +kernel
theorem d_La_law_286 : decode code 286 = .ok (.ifCond .ne 15, 3) := by decide +kernel
theorem d_La_law_289 : decode code 289 = .ok (.aload_n 3, 1) := by decide +kernel
theorem d_La_law_290 : decode code 290 = .ok (.iconst 0, 1) := by decide +kernel
theorem d_La_law_291 : decode code 291 = .ok (.laload, 1) := by decide +kernel
theorem d_La_law_292 : decode code 292 = .ok (.iload 6, 2) := by decide +kernel
theorem d_La_law_294 : decode code 294 = .ok (.i2l, 1) := by decide +kernel
theorem d_La_law_295 : decode code 295 = .ok (.lcmp, 1) := by decide +kernel
theorem d_La_law_296 : decode code 296 = .ok (.ifCond .eq 5, 3) := by decide +kernel
theorem d_La_law_299 : decode code 299 = .ok (.iconst 0, 1) := by decide +kernel
theorem d_La_law_300 : decode code 300 = .ok (.ireturn, 1) := by decide +kernel
theorem d_La_law_301 : decode code 301 = .ok (.goto 582, 3) := by decide +kernel
theorem d_La_law_304 : decode code 304 = .ok (.aload_n 1, 1) := by decide +kernel
theorem d_La_law_305 : decode code 305 = .ok (.aload_n 0, 1) := by decide +kernel
theorem d_La_law_306 : decode code 306 = .ok (.iload 4, 2) := by decide +kernel
theorem d_La_law_308 : decode code 308 = .ok (.iconst 1, 1) := by decide +kernel
theorem d_La_law_309 : decode code 309 = .ok (.iadd, 1) := by decide +kernel
theorem d_La_law_310 : decode code 310 = .ok (.iaload, 1) := by decide +kernel
theorem d_La_law_311 : decode code 311 = .ok (.aload_n 0, 1) := by decide +kernel
theorem d_La_law_312 : decode code 312 = .ok (.iload 4, 2) := by decide +kernel
theorem d_La_law_314 : decode code 314 = .ok (.iconst 2, 1) := by decide +kernel
theorem d_La_law_315 : decode code 315 = .ok (.iadd, 1) := by decide +kernel
theorem d_La_law_316 : decode code 316 = .ok (.iaload, 1) := by decide +kernel
theorem d_La_law_317 : decode code 317 = .ok (.aload_n 3, 1) := by decide +kernel
theorem d_La_law_318 : decode code 318 = .ok (.invokestatic 80, 3) := by decide +kernel
theorem d_La_law_321 : decode code 321 = .ok (.istore 5, 2) := by decide +kernel
theorem d_La_law_323 : decode code 323 = .ok (.aload_n 2, 1) := by decide +kernel
theorem d_La_law_324 : decode code 324 = .ok (.aload_n 0, 1) := by decide +kernel
theorem d_La_law_325 : decode code 325 = .ok (.iload 4, 2) := by decide +kernel
theorem d_La_law_327 : decode code 327 = .ok (.iconst 1, 1) := by decide +kernel
theorem d_La_law_328 : decode code 328 = .ok (.iadd, 1) := by decide +kernel
theorem d_La_law_329 : decode code 329 = .ok (.iaload, 1) := by decide +kernel
theorem d_La_law_330 : decode code 330 = .ok (.aload_n 0, 1) := by decide +kernel
theorem d_La_law_331 : decode code 331 = .ok (.iload 4, 2) := by decide +kernel
theorem d_La_law_333 : decode code 333 = .ok (.iconst 2, 1) := by decide +kernel
theorem d_La_law_334 : decode code 334 = .ok (.iadd, 1) := by decide +kernel
theorem d_La_law_335 : decode code 335 = .ok (.iaload, 1) := by decide +kernel
theorem d_La_law_336 : decode code 336 = .ok (.invokevirtual 82, 3) := by decide +kernel
theorem d_La_law_339 : decode code 339 = .ok (.istore 6, 2) := by decide +kernel
theorem d_La_law_341 : decode code 341 = .ok (.aload_n 2, 1) := by decide +kernel
theorem d_La_law_342 : decode code 342 = .ok (.invokevirtual 69, 3) := by decide +kernel
theorem d_La_law_345 : decode code 345 = .ok (.iload 5, 2) := by decide +kernel
theorem d_La_law_347 : decode code 347 = .ok (.if_icmp .eq 5, 3) := by decide +kernel
theorem d_La_law_350 : decode code 350 = .ok (.iconst 0, 1) := by decide +kernel
theorem d_La_law_351 : decode code 351 = .ok (.ireturn, 1) := by decide +kernel
theorem d_La_law_352 : decode code 352 = .ok (.iload 5, 2) := by decide +kernel
theorem d_La_law_354 : decode code 354 = .ok (.ifCond .ne 15, 3) := by decide +kernel
theorem d_La_law_357 : decode code 357 = .ok (.aload_n 3, 1) := by decide +kernel
theorem d_La_law_358 : decode code 358 = .ok (.iconst 0, 1) := by decide +kernel
theorem d_La_law_359 : decode code 359 = .ok (.laload, 1) := by decide +kernel
theorem d_La_law_360 : decode code 360 = .ok (.iload 6, 2) := by decide +kernel
theorem d_La_law_362 : decode code 362 = .ok (.i2l, 1) := by decide +kernel
theorem d_La_law_363 : decode code 363 = .ok (.lcmp, 1) := by decide +kernel
theorem d_La_law_364 : decode code 364 = .ok (.ifCond .eq 5, 3) := by decide +kernel
theorem d_La_law_367 : decode code 367 = .ok (.iconst 0, 1) := by decide +kernel
theorem d_La_law_368 : decode code 368 = .ok (.ireturn, 1) := by decide +kernel
theorem d_La_law_369 : decode code 369 = .ok (.goto 514, 3) := by decide +kernel
theorem d_La_law_372 : decode code 372 = .ok (.aload_n 1, 1) := by decide +kernel
theorem d_La_law_373 : decode code 373 = .ok (.aload_n 0, 1) := by decide +kernel
theorem d_La_law_374 : decode code 374 = .ok (.iload 4, 2) := by decide +kernel
theorem d_La_law_376 : decode code 376 = .ok (.iconst 1, 1) := by decide +kernel
theorem d_La_law_377 : decode code 377 = .ok (.iadd, 1) := by decide +kernel
theorem d_La_law_378 : decode code 378 = .ok (.iaload, 1) := by decide +kernel
theorem d_La_law_379 : decode code 379 = .ok (.aload_n 3, 1) := by decide +kernel
theorem d_La_law_380 : decode code 380 = .ok (.invokestatic 83, 3) := by decide +kernel
theorem d_La_law_383 : decode code 383 = .ok (.istore 5, 2) := by decide +kernel
theorem d_La_law_385 : decode code 385 = .ok (.aload_n 2, 1) := by decide +kernel
theorem d_La_law_386 : decode code 386 = .ok (.aload_n 0, 1) := by decide +kernel
theorem d_La_law_387 : decode code 387 = .ok (.iload 4, 2) := by decide +kernel
theorem d_La_law_389 : decode code 389 = .ok (.iconst 1, 1) := by decide +kernel
theorem d_La_law_390 : decode code 390 = .ok (.iadd, 1) := by decide +kernel
theorem d_La_law_391 : decode code 391 = .ok (.iaload, 1) := by decide +kernel
theorem d_La_law_392 : decode code 392 = .ok (.invokevirtual 86, 3) := by decide +kernel
theorem d_La_law_395 : decode code 395 = .ok (.istore 6, 2) := by decide +kernel
theorem d_La_law_397 : decode code 397 = .ok (.aload_n 2, 1) := by decide +kernel
theorem d_La_law_398 : decode code 398 = .ok (.invokevirtual 69, 3) := by decide +kernel
theorem d_La_law_401 : decode code 401 = .ok (.iload 5, 2) := by decide +kernel
theorem d_La_law_403 : decode code 403 = .ok (.if_icmp .eq 5, 3) := by decide +kernel
theorem d_La_law_406 : decode code 406 = .ok (.iconst 0, 1) := by decide +kernel
theorem d_La_law_407 : decode code 407 = .ok (.ireturn, 1) := by decide +kernel
theorem d_La_law_408 : decode code 408 = .ok (.iload 5, 2) := by decide +kernel
theorem d_La_law_410 : decode code 410 = .ok (.ifCond .ne 15, 3) := by decide +kernel
theorem d_La_law_413 : decode code 413 = .ok (.aload_n 3, 1) := by decide +kernel
theorem d_La_law_414 : decode code 414 = .ok (.iconst 0, 1) := by decide +kernel
theorem d_La_law_415 : decode code 415 = .ok (.laload, 1) := by decide +kernel
theorem d_La_law_416 : decode code 416 = .ok (.iload 6, 2) := by decide +kernel
theorem d_La_law_418 : decode code 418 = .ok (.i2l, 1) := by decide +kernel
theorem d_La_law_419 : decode code 419 = .ok (.lcmp, 1) := by decide +kernel
theorem d_La_law_420 : decode code 420 = .ok (.ifCond .eq 5, 3) := by decide +kernel
theorem d_La_law_423 : decode code 423 = .ok (.iconst 0, 1) := by decide +kernel
theorem d_La_law_424 : decode code 424 = .ok (.ireturn, 1) := by decide +kernel
theorem d_La_law_425 : decode code 425 = .ok (.goto 458, 3) := by decide +kernel
theorem d_La_law_428 : decode code 428 = .ok (.aload_n 1, 1) := by decide +kernel
theorem d_La_law_429 : decode code 429 = .ok (.aload_n 0, 1) := by decide +kernel
theorem d_La_law_430 : decode code 430 = .ok (.iload 4, 2) := by decide +kernel
theorem d_La_law_432 : decode code 432 = .ok (.iconst 1, 1) := by decide +kernel
theorem d_La_law_433 : decode code 433 = .ok (.iadd, 1) := by decide +kernel
theorem d_La_law_434 : decode code 434 = .ok (.iaload, 1) := by decide +kernel
theorem d_La_law_435 : decode code 435 = .ok (.aload_n 3, 1) := by decide +kernel
theorem d_La_law_436 : decode code 436 = .ok (.invokestatic 87, 3) := by decide +kernel
theorem d_La_law_439 : decode code 439 = .ok (.istore 5, 2) := by decide +kernel
theorem d_La_law_441 : decode code 441 = .ok (.aload_n 2, 1) := by decide +kernel
theorem d_La_law_442 : decode code 442 = .ok (.aload_n 0, 1) := by decide +kernel
theorem d_La_law_443 : decode code 443 = .ok (.iload 4, 2) := by decide +kernel
theorem d_La_law_445 : decode code 445 = .ok (.iconst 1, 1) := by decide +kernel
theorem d_La_law_446 : decode code 446 = .ok (.iadd, 1) := by decide +kernel
theorem d_La_law_447 : decode code 447 = .ok (.iaload, 1) := by decide +kernel
theorem d_La_law_448 : decode code 448 = .ok (.invokevirtual 89, 3) := by decide +kernel
theorem d_La_law_451 : decode code 451 = .ok (.istore 6, 2) := by decide +kernel
theorem d_La_law_453 : decode code 453 = .ok (.aload_n 2, 1) := by decide +kernel
theorem d_La_law_454 : decode code 454 = .ok (.invokevirtual 69, 3) := by decide +kernel
theorem d_La_law_457 : decode code 457 = .ok (.iload 5, 2) := by decide +kernel
theorem d_La_law_459 : decode code 459 = .ok (.if_icmp .eq 5, 3) := by decide +kernel
theorem d_La_law_462 : decode code 462 = .ok (.iconst 0, 1) := by decide +kernel
theorem d_La_law_463 : decode code 463 = .ok (.ireturn, 1) := by decide +kernel
theorem d_La_law_464 : decode code 464 = .ok (.iload 5, 2) := by decide +kernel
theorem d_La_law_466 : decode code 466 = .ok (.ifCond .ne 15, 3) := by decide +kernel
theorem d_La_law_469 : decode code 469 = .ok (.aload_n 3, 1) := by decide +kernel
theorem d_La_law_470 : decode code 470 = .ok (.iconst 0, 1) := by decide +kernel
theorem d_La_law_471 : decode code 471 = .ok (.laload, 1) := by decide +kernel
theorem d_La_law_472 : decode code 472 = .ok (.iload 6, 2) := by decide +kernel
theorem d_La_law_474 : decode code 474 = .ok (.i2l, 1) := by decide +kernel
theorem d_La_law_475 : decode code 475 = .ok (.lcmp, 1) := by decide +kernel
theorem d_La_law_476 : decode code 476 = .ok (.ifCond .eq 5, 3) := by decide +kernel
theorem d_La_law_479 : decode code 479 = .ok (.iconst 0, 1) := by decide +kernel
theorem d_La_law_480 : decode code 480 = .ok (.ireturn, 1) := by decide +kernel
theorem d_La_law_481 : decode code 481 = .ok (.goto 402, 3) := by decide +kernel
theorem d_La_law_484 : decode code 484 = .ok (.aload_n 1, 1) := by decide +kernel
theorem d_La_law_485 : decode code 485 = .ok (.invokevirtual 90, 3) := by decide +kernel
theorem d_La_law_488 : decode code 488 = .ok (.aload_n 2, 1) := by decide +kernel
theorem d_La_law_489 : decode code 489 = .ok (.invokevirtual 93, 3) := by decide +kernel
theorem d_La_law_492 : decode code 492 = .ok (.if_icmp .eq 391, 3) := by decide +kernel
theorem d_La_law_495 : decode code 495 = .ok (.iconst 0, 1) := by decide +kernel
theorem d_La_law_496 : decode code 496 = .ok (.ireturn, 1) := by decide +kernel
theorem d_La_law_497 : decode code 497 = .ok (.aload_n 1, 1) := by decide +kernel
theorem d_La_law_498 : decode code 498 = .ok (.invokevirtual 94, 3) := by decide +kernel
theorem d_La_law_501 : decode code 501 = .ok (.aload_n 2, 1) := by decide +kernel
theorem d_La_law_502 : decode code 502 = .ok (.invokevirtual 97, 3) := by decide +kernel
theorem d_La_law_505 : decode code 505 = .ok (.if_icmp .eq 378, 3) := by decide +kernel
theorem d_La_law_508 : decode code 508 = .ok (.iconst 0, 1) := by decide +kernel
theorem d_La_law_509 : decode code 509 = .ok (.ireturn, 1) := by decide +kernel
theorem d_La_law_510 : decode code 510 = .ok (.aload_n 1, 1) := by decide +kernel
theorem d_La_law_511 : decode code 511 = .ok (.aload_n 0, 1) := by decide +kernel
theorem d_La_law_512 : decode code 512 = .ok (.iload 4, 2) := by decide +kernel
theorem d_La_law_514 : decode code 514 = .ok (.iconst 1, 1) := by decide +kernel
theorem d_La_law_515 : decode code 515 = .ok (.iadd, 1) := by decide +kernel
theorem d_La_law_516 : decode code 516 = .ok (.iaload, 1) := by decide +kernel
theorem d_La_law_517 : decode code 517 = .ok (.aload_n 3, 1) := by decide +kernel
theorem d_La_law_518 : decode code 518 = .ok (.invokestatic 98, 3) := by decide +kernel
theorem d_La_law_521 : decode code 521 = .ok (.istore 5, 2) := by decide +kernel
theorem d_La_law_523 : decode code 523 = .ok (.aload_n 2, 1) := by decide +kernel
theorem d_La_law_524 : decode code 524 = .ok (.aload_n 0, 1) := by decide +kernel
theorem d_La_law_525 : decode code 525 = .ok (.iload 4, 2) := by decide +kernel
theorem d_La_law_527 : decode code 527 = .ok (.iconst 1, 1) := by decide +kernel
theorem d_La_law_528 : decode code 528 = .ok (.iadd, 1) := by decide +kernel
theorem d_La_law_529 : decode code 529 = .ok (.iaload, 1) := by decide +kernel
theorem d_La_law_530 : decode code 530 = .ok (.invokevirtual 100, 3) := by decide +kernel
theorem d_La_law_533 : decode code 533 = .ok (.istore 6, 2) := by decide +kernel
theorem d_La_law_535 : decode code 535 = .ok (.aload_n 2, 1) := by decide +kernel
theorem d_La_law_536 : decode code 536 = .ok (.invokevirtual 69, 3) := by decide +kernel
theorem d_La_law_539 : decode code 539 = .ok (.iload 5, 2) := by decide +kernel
theorem d_La_law_541 : decode code 541 = .ok (.if_icmp .eq 5, 3) := by decide +kernel
theorem d_La_law_544 : decode code 544 = .ok (.iconst 0, 1) := by decide +kernel
theorem d_La_law_545 : decode code 545 = .ok (.ireturn, 1) := by decide +kernel
theorem d_La_law_546 : decode code 546 = .ok (.iload 5, 2) := by decide +kernel
theorem d_La_law_548 : decode code 548 = .ok (.ifCond .ne 15, 3) := by decide +kernel
theorem d_La_law_551 : decode code 551 = .ok (.aload_n 3, 1) := by decide +kernel
theorem d_La_law_552 : decode code 552 = .ok (.iconst 0, 1) := by decide +kernel
theorem d_La_law_553 : decode code 553 = .ok (.laload, 1) := by decide +kernel
theorem d_La_law_554 : decode code 554 = .ok (.iload 6, 2) := by decide +kernel
theorem d_La_law_556 : decode code 556 = .ok (.i2l, 1) := by decide +kernel
theorem d_La_law_557 : decode code 557 = .ok (.lcmp, 1) := by decide +kernel
theorem d_La_law_558 : decode code 558 = .ok (.ifCond .eq 5, 3) := by decide +kernel
theorem d_La_law_561 : decode code 561 = .ok (.iconst 0, 1) := by decide +kernel
theorem d_La_law_562 : decode code 562 = .ok (.ireturn, 1) := by decide +kernel
theorem d_La_law_563 : decode code 563 = .ok (.goto 320, 3) := by decide +kernel
theorem d_La_law_566 : decode code 566 = .ok (.aload_n 1, 1) := by decide +kernel
theorem d_La_law_567 : decode code 567 = .ok (.invokevirtual 101, 3) := by decide +kernel
theorem d_La_law_570 : decode code 570 = .ok (.aload_n 2, 1) := by decide +kernel
theorem d_La_law_571 : decode code 571 = .ok (.invokevirtual 104, 3) := by decide +kernel
theorem d_La_law_574 : decode code 574 = .ok (.if_icmp .eq 309, 3) := by decide +kernel
theorem d_La_law_577 : decode code 577 = .ok (.iconst 0, 1) := by decide +kernel
theorem d_La_law_578 : decode code 578 = .ok (.ireturn, 1) := by decide +kernel
theorem d_La_law_579 : decode code 579 = .ok (.aload_n 1, 1) := by decide +kernel
theorem d_La_law_580 : decode code 580 = .ok (.aload_n 0, 1) := by decide +kernel
theorem d_La_law_581 : decode code 581 = .ok (.iload 4, 2) := by decide +kernel
theorem d_La_law_583 : decode code 583 = .ok (.iconst 1, 1) := by decide +kernel
theorem d_La_law_584 : decode code 584 = .ok (.iadd, 1) := by decide +kernel
theorem d_La_law_585 : decode code 585 = .ok (.iaload, 1) := by decide +kernel
theorem d_La_law_586 : decode code 586 = .ok (.aload_n 3, 1) := by decide +kernel
theorem d_La_law_587 : decode code 587 = .ok (.invokestatic 105, 3) := by decide +kernel
theorem d_La_law_590 : decode code 590 = .ok (.istore 5, 2) := by decide +kernel
theorem d_La_law_592 : decode code 592 = .ok (.aload_n 2, 1) := by decide +kernel
theorem d_La_law_593 : decode code 593 = .ok (.aload_n 0, 1) := by decide +kernel
theorem d_La_law_594 : decode code 594 = .ok (.iload 4, 2) := by decide +kernel
theorem d_La_law_596 : decode code 596 = .ok (.iconst 1, 1) := by decide +kernel
theorem d_La_law_597 : decode code 597 = .ok (.iadd, 1) := by decide +kernel
theorem d_La_law_598 : decode code 598 = .ok (.iaload, 1) := by decide +kernel
theorem d_La_law_599 : decode code 599 = .ok (.invokevirtual 107, 3) := by decide +kernel
theorem d_La_law_602 : decode code 602 = .ok (.istore 6, 2) := by decide +kernel
theorem d_La_law_604 : decode code 604 = .ok (.aload_n 2, 1) := by decide +kernel
theorem d_La_law_605 : decode code 605 = .ok (.invokevirtual 69, 3) := by decide +kernel
theorem d_La_law_608 : decode code 608 = .ok (.iload 5, 2) := by decide +kernel
theorem d_La_law_610 : decode code 610 = .ok (.if_icmp .eq 5, 3) := by decide +kernel
theorem d_La_law_613 : decode code 613 = .ok (.iconst 0, 1) := by decide +kernel
theorem d_La_law_614 : decode code 614 = .ok (.ireturn, 1) := by decide +kernel
theorem d_La_law_615 : decode code 615 = .ok (.iload 5, 2) := by decide +kernel
theorem d_La_law_617 : decode code 617 = .ok (.ifCond .ne 15, 3) := by decide +kernel
theorem d_La_law_620 : decode code 620 = .ok (.aload_n 3, 1) := by decide +kernel
theorem d_La_law_621 : decode code 621 = .ok (.iconst 0, 1) := by decide +kernel
theorem d_La_law_622 : decode code 622 = .ok (.laload, 1) := by decide +kernel
theorem d_La_law_623 : decode code 623 = .ok (.iload 6, 2) := by decide +kernel
theorem d_La_law_625 : decode code 625 = .ok (.i2l, 1) := by decide +kernel
theorem d_La_law_626 : decode code 626 = .ok (.lcmp, 1) := by decide +kernel
theorem d_La_law_627 : decode code 627 = .ok (.ifCond .eq 5, 3) := by decide +kernel
theorem d_La_law_630 : decode code 630 = .ok (.iconst 0, 1) := by decide +kernel
theorem d_La_law_631 : decode code 631 = .ok (.ireturn, 1) := by decide +kernel
theorem d_La_law_632 : decode code 632 = .ok (.goto 251, 3) := by decide +kernel
theorem d_La_law_635 : decode code 635 = .ok (.aload_n 1, 1) := by decide +kernel
theorem d_La_law_636 : decode code 636 = .ok (.aload_n 0, 1) := by decide +kernel
theorem d_La_law_637 : decode code 637 = .ok (.iload 4, 2) := by decide +kernel
theorem d_La_law_639 : decode code 639 = .ok (.iconst 1, 1) := by decide +kernel
theorem d_La_law_640 : decode code 640 = .ok (.iadd, 1) := by decide +kernel
theorem d_La_law_641 : decode code 641 = .ok (.iaload, 1) := by decide +kernel
theorem d_La_law_642 : decode code 642 = .ok (.aload_n 3, 1) := by decide +kernel
theorem d_La_law_643 : decode code 643 = .ok (.invokestatic 108, 3) := by decide +kernel
theorem d_La_law_646 : decode code 646 = .ok (.istore 5, 2) := by decide +kernel
theorem d_La_law_648 : decode code 648 = .ok (.aload_n 2, 1) := by decide +kernel
theorem d_La_law_649 : decode code 649 = .ok (.aload_n 0, 1) := by decide +kernel
theorem d_La_law_650 : decode code 650 = .ok (.iload 4, 2) := by decide +kernel
theorem d_La_law_652 : decode code 652 = .ok (.iconst 1, 1) := by decide +kernel
theorem d_La_law_653 : decode code 653 = .ok (.iadd, 1) := by decide +kernel
theorem d_La_law_654 : decode code 654 = .ok (.iaload, 1) := by decide +kernel
theorem d_La_law_655 : decode code 655 = .ok (.invokevirtual 110, 3) := by decide +kernel
theorem d_La_law_658 : decode code 658 = .ok (.istore 6, 2) := by decide +kernel
theorem d_La_law_660 : decode code 660 = .ok (.aload_n 2, 1) := by decide +kernel
theorem d_La_law_661 : decode code 661 = .ok (.invokevirtual 69, 3) := by decide +kernel
theorem d_La_law_664 : decode code 664 = .ok (.iload 5, 2) := by decide +kernel
theorem d_La_law_666 : decode code 666 = .ok (.if_icmp .eq 5, 3) := by decide +kernel
theorem d_La_law_669 : decode code 669 = .ok (.iconst 0, 1) := by decide +kernel
theorem d_La_law_670 : decode code 670 = .ok (.ireturn, 1) := by decide +kernel
theorem d_La_law_671 : decode code 671 = .ok (.iload 5, 2) := by decide +kernel
theorem d_La_law_673 : decode code 673 = .ok (.ifCond .ne 15, 3) := by decide +kernel
theorem d_La_law_676 : decode code 676 = .ok (.aload_n 3, 1) := by decide +kernel
theorem d_La_law_677 : decode code 677 = .ok (.iconst 0, 1) := by decide +kernel
theorem d_La_law_678 : decode code 678 = .ok (.laload, 1) := by decide +kernel
theorem d_La_law_679 : decode code 679 = .ok (.iload 6, 2) := by decide +kernel
theorem d_La_law_681 : decode code 681 = .ok (.i2l, 1) := by decide +kernel
theorem d_La_law_682 : decode code 682 = .ok (.lcmp, 1) := by decide +kernel
theorem d_La_law_683 : decode code 683 = .ok (.ifCond .eq 5, 3) := by decide +kernel
theorem d_La_law_686 : decode code 686 = .ok (.iconst 0, 1) := by decide +kernel
theorem d_La_law_687 : decode code 687 = .ok (.ireturn, 1) := by decide +kernel
theorem d_La_law_688 : decode code 688 = .ok (.goto 195, 3) := by decide +kernel
theorem d_La_law_691 : decode code 691 = .ok (.aload_n 1, 1) := by decide +kernel
theorem d_La_law_692 : decode code 692 = .ok (.aload_n 0, 1) := by decide +kernel
theorem d_La_law_693 : decode code 693 = .ok (.iload 4, 2) := by decide +kernel
theorem d_La_law_695 : decode code 695 = .ok (.iconst 1, 1) := by decide +kernel
theorem d_La_law_696 : decode code 696 = .ok (.iadd, 1) := by decide +kernel
theorem d_La_law_697 : decode code 697 = .ok (.iaload, 1) := by decide +kernel
theorem d_La_law_698 : decode code 698 = .ok (.aload_n 0, 1) := by decide +kernel
theorem d_La_law_699 : decode code 699 = .ok (.iload 4, 2) := by decide +kernel
theorem d_La_law_701 : decode code 701 = .ok (.iconst 2, 1) := by decide +kernel
theorem d_La_law_702 : decode code 702 = .ok (.iadd, 1) := by decide +kernel
theorem d_La_law_703 : decode code 703 = .ok (.iaload, 1) := by decide +kernel
theorem d_La_law_704 : decode code 704 = .ok (.aload_n 0, 1) := by decide +kernel
theorem d_La_law_705 : decode code 705 = .ok (.iload 4, 2) := by decide +kernel
theorem d_La_law_707 : decode code 707 = .ok (.iconst 3, 1) := by decide +kernel
theorem d_La_law_708 : decode code 708 = .ok (.iadd, 1) := by decide +kernel
theorem d_La_law_709 : decode code 709 = .ok (.iaload, 1) := by decide +kernel
theorem d_La_law_710 : decode code 710 = .ok (.aload_n 3, 1) := by decide +kernel
theorem d_La_law_711 : decode code 711 = .ok (.invokestatic 111, 3) := by decide +kernel
theorem d_La_law_714 : decode code 714 = .ok (.istore 5, 2) := by decide +kernel
theorem d_La_law_716 : decode code 716 = .ok (.aload_n 2, 1) := by decide +kernel
theorem d_La_law_717 : decode code 717 = .ok (.aload_n 0, 1) := by decide +kernel
theorem d_La_law_718 : decode code 718 = .ok (.iload 4, 2) := by decide +kernel
theorem d_La_law_720 : decode code 720 = .ok (.iconst 1, 1) := by decide +kernel
theorem d_La_law_721 : decode code 721 = .ok (.iadd, 1) := by decide +kernel
theorem d_La_law_722 : decode code 722 = .ok (.iaload, 1) := by decide +kernel
theorem d_La_law_723 : decode code 723 = .ok (.aload_n 0, 1) := by decide +kernel
theorem d_La_law_724 : decode code 724 = .ok (.iload 4, 2) := by decide +kernel
theorem d_La_law_726 : decode code 726 = .ok (.iconst 2, 1) := by decide +kernel
theorem d_La_law_727 : decode code 727 = .ok (.iadd, 1) := by decide +kernel
theorem d_La_law_728 : decode code 728 = .ok (.iaload, 1) := by decide +kernel
theorem d_La_law_729 : decode code 729 = .ok (.aload_n 0, 1) := by decide +kernel
theorem d_La_law_730 : decode code 730 = .ok (.iload 4, 2) := by decide +kernel
theorem d_La_law_732 : decode code 732 = .ok (.iconst 3, 1) := by decide +kernel
theorem d_La_law_733 : decode code 733 = .ok (.iadd, 1) := by decide +kernel
theorem d_La_law_734 : decode code 734 = .ok (.iaload, 1) := by decide +kernel
theorem d_La_law_735 : decode code 735 = .ok (.invokevirtual 113, 3) := by decide +kernel
theorem d_La_law_738 : decode code 738 = .ok (.istore 6, 2) := by decide +kernel
theorem d_La_law_740 : decode code 740 = .ok (.aload_n 2, 1) := by decide +kernel
theorem d_La_law_741 : decode code 741 = .ok (.invokevirtual 69, 3) := by decide +kernel
theorem d_La_law_744 : decode code 744 = .ok (.iload 5, 2) := by decide +kernel
theorem d_La_law_746 : decode code 746 = .ok (.if_icmp .eq 5, 3) := by decide +kernel
theorem d_La_law_749 : decode code 749 = .ok (.iconst 0, 1) := by decide +kernel
theorem d_La_law_750 : decode code 750 = .ok (.ireturn, 1) := by decide +kernel
theorem d_La_law_751 : decode code 751 = .ok (.iload 5, 2) := by decide +kernel
theorem d_La_law_753 : decode code 753 = .ok (.ifCond .ne 15, 3) := by decide +kernel
theorem d_La_law_756 : decode code 756 = .ok (.aload_n 3, 1) := by decide +kernel
theorem d_La_law_757 : decode code 757 = .ok (.iconst 0, 1) := by decide +kernel
theorem d_La_law_758 : decode code 758 = .ok (.laload, 1) := by decide +kernel
theorem d_La_law_759 : decode code 759 = .ok (.iload 6, 2) := by decide +kernel
theorem d_La_law_761 : decode code 761 = .ok (.i2l, 1) := by decide +kernel
theorem d_La_law_762 : decode code 762 = .ok (.lcmp, 1) := by decide +kernel
theorem d_La_law_763 : decode code 763 = .ok (.ifCond .eq 5, 3) := by decide +kernel
theorem d_La_law_766 : decode code 766 = .ok (.iconst 0, 1) := by decide +kernel
theorem d_La_law_767 : decode code 767 = .ok (.ireturn, 1) := by decide +kernel
theorem d_La_law_768 : decode code 768 = .ok (.goto 115, 3) := by decide +kernel
theorem d_La_law_771 : decode code 771 = .ok (.aload_n 1, 1) := by decide +kernel
theorem d_La_law_772 : decode code 772 = .ok (.aload_n 0, 1) := by decide +kernel
theorem d_La_law_773 : decode code 773 = .ok (.iload 4, 2) := by decide +kernel
theorem d_La_law_775 : decode code 775 = .ok (.iconst 1, 1) := by decide +kernel
theorem d_La_law_776 : decode code 776 = .ok (.iadd, 1) := by decide +kernel
theorem d_La_law_777 : decode code 777 = .ok (.iaload, 1) := by decide +kernel
theorem d_La_law_778 : decode code 778 = .ok (.aload_n 3, 1) := by decide +kernel
theorem d_La_law_779 : decode code 779 = .ok (.invokestatic 114, 3) := by decide +kernel
theorem d_La_law_782 : decode code 782 = .ok (.istore 5, 2) := by decide +kernel
theorem d_La_law_784 : decode code 784 = .ok (.aload_n 2, 1) := by decide +kernel
theorem d_La_law_785 : decode code 785 = .ok (.aload_n 0, 1) := by decide +kernel
theorem d_La_law_786 : decode code 786 = .ok (.iload 4, 2) := by decide +kernel
theorem d_La_law_788 : decode code 788 = .ok (.iconst 1, 1) := by decide +kernel
theorem d_La_law_789 : decode code 789 = .ok (.iadd, 1) := by decide +kernel
theorem d_La_law_790 : decode code 790 = .ok (.iaload, 1) := by decide +kernel
theorem d_La_law_791 : decode code 791 = .ok (.invokevirtual 116, 3) := by decide +kernel
theorem d_La_law_794 : decode code 794 = .ok (.istore 6, 2) := by decide +kernel
theorem d_La_law_796 : decode code 796 = .ok (.aload_n 2, 1) := by decide +kernel
theorem d_La_law_797 : decode code 797 = .ok (.invokevirtual 69, 3) := by decide +kernel
theorem d_La_law_800 : decode code 800 = .ok (.iload 5, 2) := by decide +kernel
theorem d_La_law_802 : decode code 802 = .ok (.if_icmp .eq 5, 3) := by decide +kernel
theorem d_La_law_805 : decode code 805 = .ok (.iconst 0, 1) := by decide +kernel
theorem d_La_law_806 : decode code 806 = .ok (.ireturn, 1) := by decide +kernel
theorem d_La_law_807 : decode code 807 = .ok (.iload 5, 2) := by decide +kernel
theorem d_La_law_809 : decode code 809 = .ok (.ifCond .ne 15, 3) := by decide +kernel
theorem d_La_law_812 : decode code 812 = .ok (.aload_n 3, 1) := by decide +kernel
theorem d_La_law_813 : decode code 813 = .ok (.iconst 0, 1) := by decide +kernel
theorem d_La_law_814 : decode code 814 = .ok (.laload, 1) := by decide +kernel
theorem d_La_law_815 : decode code 815 = .ok (.iload 6, 2) := by decide +kernel
theorem d_La_law_817 : decode code 817 = .ok (.i2l, 1) := by decide +kernel
theorem d_La_law_818 : decode code 818 = .ok (.lcmp, 1) := by decide +kernel
theorem d_La_law_819 : decode code 819 = .ok (.ifCond .eq 5, 3) := by decide +kernel
theorem d_La_law_822 : decode code 822 = .ok (.iconst 0, 1) := by decide +kernel
theorem d_La_law_823 : decode code 823 = .ok (.ireturn, 1) := by decide +kernel
theorem d_La_law_824 : decode code 824 = .ok (.goto 59, 3) := by decide +kernel
theorem d_La_law_827 : decode code 827 = .ok (.aload_n 1, 1) := by decide +kernel
theorem d_La_law_828 : decode code 828 = .ok (.aload_n 0, 1) := by decide +kernel
theorem d_La_law_829 : decode code 829 = .ok (.iload 4, 2) := by decide +kernel
theorem d_La_law_831 : decode code 831 = .ok (.iconst 1, 1) := by decide +kernel
theorem d_La_law_832 : decode code 832 = .ok (.iadd, 1) := by decide +kernel
theorem d_La_law_833 : decode code 833 = .ok (.iaload, 1) := by decide +kernel
theorem d_La_law_834 : decode code 834 = .ok (.aload_n 3, 1) := by decide +kernel
theorem d_La_law_835 : decode code 835 = .ok (.invokestatic 117, 3) := by decide +kernel
theorem d_La_law_838 : decode code 838 = .ok (.istore 5, 2) := by decide +kernel
theorem d_La_law_840 : decode code 840 = .ok (.aload_n 2, 1) := by decide +kernel
theorem d_La_law_841 : decode code 841 = .ok (.aload_n 0, 1) := by decide +kernel
theorem d_La_law_842 : decode code 842 = .ok (.iload 4, 2) := by decide +kernel
theorem d_La_law_844 : decode code 844 = .ok (.iconst 1, 1) := by decide +kernel
theorem d_La_law_845 : decode code 845 = .ok (.iadd, 1) := by decide +kernel
theorem d_La_law_846 : decode code 846 = .ok (.iaload, 1) := by decide +kernel
theorem d_La_law_847 : decode code 847 = .ok (.invokevirtual 119, 3) := by decide +kernel
theorem d_La_law_850 : decode code 850 = .ok (.istore 6, 2) := by decide +kernel
theorem d_La_law_852 : decode code 852 = .ok (.aload_n 2, 1) := by decide +kernel
theorem d_La_law_853 : decode code 853 = .ok (.invokevirtual 69, 3) := by decide +kernel
theorem d_La_law_856 : decode code 856 = .ok (.iload 5, 2) := by decide +kernel
theorem d_La_law_858 : decode code 858 = .ok (.if_icmp .eq 5, 3) := by decide +kernel
theorem d_La_law_861 : decode code 861 = .ok (.iconst 0, 1) := by decide +kernel
theorem d_La_law_862 : decode code 862 = .ok (.ireturn, 1) := by decide +kernel
theorem d_La_law_863 : decode code 863 = .ok (.iload 5, 2) := by decide +kernel
theorem d_La_law_865 : decode code 865 = .ok (.ifCond .ne 15, 3) := by decide +kernel
theorem d_La_law_868 : decode code 868 = .ok (.aload_n 3, 1) := by decide +kernel
theorem d_La_law_869 : decode code 869 = .ok (.iconst 0, 1) := by decide +kernel
theorem d_La_law_870 : decode code 870 = .ok (.laload, 1) := by decide +kernel
theorem d_La_law_871 : decode code 871 = .ok (.iload 6, 2) := by decide +kernel
theorem d_La_law_873 : decode code 873 = .ok (.i2l, 1) := by decide +kernel
theorem d_La_law_874 : decode code 874 = .ok (.lcmp, 1) := by decide +kernel
theorem d_La_law_875 : decode code 875 = .ok (.ifCond .eq 5, 3) := by decide +kernel
theorem d_La_law_878 : decode code 878 = .ok (.iconst 0, 1) := by decide +kernel
theorem d_La_law_879 : decode code 879 = .ok (.ireturn, 1) := by decide +kernel
theorem d_La_law_880 : decode code 880 = .ok (.goto 3, 3) := by decide +kernel
theorem d_La_law_883 : decode code 883 = .ok (.iinc 4 4, 3) := by decide +kernel
theorem d_La_law_886 : decode code 886 = .ok (.goto (-863), 3) := by decide +kernel
theorem d_La_law_889 : decode code 889 = .ok (.iconst 1, 1) := by decide +kernel
theorem d_La_law_890 : decode code 890 = .ok (.ireturn, 1) := by decide +kernel
