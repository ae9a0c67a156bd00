theorem dX0_init_0 : decode cX0_init 0 = .ok (.aload_n 0, 1) := by decide +kernel
theorem dX0_init_1 : decode cX0_init 1 = .ok (.invokespecial 3, 3) := by decide +kernel
theorem dX0_init_4 : decode cX0_init 4 = .ok (.aload_n 0, 1) := by decide +kernel
theorem dX0_init_5 : decode cX0_init 5 = .ok (.iload_n 1, 1) := by decide +kernel
theorem dX0_init_6 : decode cX0_init 6 = .ok (.newarray .int, 2) := by decide +kernel
theorem dX0_init_8 : decode cX0_init 8 = .ok (.putfield 9, 3) := by decide +kernel
theorem dX0_init_11 : decode cX0_init 11 = .ok (.aload_n 0, 1) := by decide +kernel
theorem dX0_init_12 : decode cX0_init 12 = .ok (.iload_n 1, 1) := by decide +kernel
theorem dX0_init_13 : decode cX0_init 13 = .ok (.newarray .int, 2) := by decide +kernel
theorem dX0_init_15 : decode cX0_init 15 = .ok (.putfield 15, 3) := by decide +kernel
theorem dX0_init_18 : decode cX0_init 18 = .ok (.aload_n 0, 1) := by decide +kernel
theorem dX0_init_19 : decode cX0_init 19 = .ok (.iconst 0, 1) := by decide +kernel
theorem dX0_init_20 : decode cX0_init 20 = .ok (.putfield 18, 3) := by decide +kernel
theorem dX0_init_23 : decode cX0_init 23 = .ok (.return_, 1) := by decide +kernel
theorem dX0_append_0 : decode cX0_append 0 = .ok (.aload_n 0, 1) := by decide +kernel
theorem dX0_append_1 : decode cX0_append 1 = .ok (.getfield 18, 3) := by decide +kernel
theorem dX0_append_4 : decode cX0_append 4 = .ok (.aload_n 0, 1) := by decide +kernel
theorem dX0_append_5 : decode cX0_append 5 = .ok (.getfield 9, 3) := by decide +kernel
theorem dX0_append_8 : decode cX0_append 8 = .ok (.arraylength, 1) := by decide +kernel
theorem dX0_append_9 : decode cX0_append 9 = .ok (.if_icmp .lt 5, 3) := by decide +kernel
theorem dX0_append_12 : decode cX0_append 12 = .ok (.iconst 0, 1) := by decide +kernel
theorem dX0_append_13 : decode cX0_append 13 = .ok (.ireturn, 1) := by decide +kernel
theorem dX0_append_14 : decode cX0_append 14 = .ok (.aload_n 0, 1) := by decide +kernel
theorem dX0_append_15 : decode cX0_append 15 = .ok (.getfield 9, 3) := by decide +kernel
theorem dX0_append_18 : decode cX0_append 18 = .ok (.aload_n 0, 1) := by decide +kernel
theorem dX0_append_19 : decode cX0_append 19 = .ok (.getfield 18, 3) := by decide +kernel
theorem dX0_append_22 : decode cX0_append 22 = .ok (.iload_n 1, 1) := by decide +kernel
theorem dX0_append_23 : decode cX0_append 23 = .ok (.iastore, 1) := by decide +kernel
theorem dX0_append_24 : decode cX0_append 24 = .ok (.aload_n 0, 1) := by decide +kernel
theorem dX0_append_25 : decode cX0_append 25 = .ok (.getfield 15, 3) := by decide +kernel
theorem dX0_append_28 : decode cX0_append 28 = .ok (.aload_n 0, 1) := by decide +kernel
theorem dX0_append_29 : decode cX0_append 29 = .ok (.getfield 18, 3) := by decide +kernel
theorem dX0_append_32 : decode cX0_append 32 = .ok (.iload_n 2, 1) := by decide +kernel
theorem dX0_append_33 : decode cX0_append 33 = .ok (.iastore, 1) := by decide +kernel
theorem dX0_append_34 : decode cX0_append 34 = .ok (.aload_n 0, 1) := by decide +kernel
theorem dX0_append_35 : decode cX0_append 35 = .ok (.dup, 1) := by decide +kernel
theorem dX0_append_36 : decode cX0_append 36 = .ok (.getfield 18, 3) := by decide +kernel
theorem dX0_append_39 : decode cX0_append 39 = .ok (.iconst 1, 1) := by decide +kernel
theorem dX0_append_40 : decode cX0_append 40 = .ok (.iadd, 1) := by decide +kernel
theorem dX0_append_41 : decode cX0_append 41 = .ok (.putfield 18, 3) := by decide +kernel
theorem dX0_append_44 : decode cX0_append 44 = .ok (.iconst 1, 1) := by decide +kernel
theorem dX0_append_45 : decode cX0_append 45 = .ok (.ireturn, 1) := by decide +kernel
theorem dX0_dropLast_0 : decode cX0_dropLast 0 = .ok (.aload_n 0, 1) := by decide +kernel
theorem dX0_dropLast_1 : decode cX0_dropLast 1 = .ok (.getfield 18, 3) := by decide +kernel
theorem dX0_dropLast_4 : decode cX0_dropLast 4 = .ok (.ifCond .ne 5, 3) := by decide +kernel
theorem dX0_dropLast_7 : decode cX0_dropLast 7 = .ok (.iconst 0, 1) := by decide +kernel
theorem dX0_dropLast_8 : decode cX0_dropLast 8 = .ok (.ireturn, 1) := by decide +kernel
theorem dX0_dropLast_9 : decode cX0_dropLast 9 = .ok (.aload_n 0, 1) := by decide +kernel
theorem dX0_dropLast_10 : decode cX0_dropLast 10 = .ok (.dup, 1) := by decide +kernel
theorem dX0_dropLast_11 : decode cX0_dropLast 11 = .ok (.getfield 18, 3) := by decide +kernel
theorem dX0_dropLast_14 : decode cX0_dropLast 14 = .ok (.iconst 1, 1) := by decide +kernel
theorem dX0_dropLast_15 : decode cX0_dropLast 15 = .ok (.isub, 1) := by decide +kernel
theorem dX0_dropLast_16 : decode cX0_dropLast 16 = .ok (.putfield 18, 3) := by decide +kernel
theorem dX0_dropLast_19 : decode cX0_dropLast 19 = .ok (.iconst 1, 1) := by decide +kernel
theorem dX0_dropLast_20 : decode cX0_dropLast 20 = .ok (.ireturn, 1) := by decide +kernel
theorem dX0_firstWithSecond_0 : decode cX0_firstWithSecond 0 = .ok (.iconst 0, 1) := by decide +kernel
theorem dX0_firstWithSecond_1 : decode cX0_firstWithSecond 1 = .ok (.istore_n 2, 1) := by decide +kernel
theorem dX0_firstWithSecond_2 : decode cX0_firstWithSecond 2 = .ok (.iload_n 2, 1) := by decide +kernel
theorem dX0_firstWithSecond_3 : decode cX0_firstWithSecond 3 = .ok (.aload_n 0, 1) := by decide +kernel
theorem dX0_firstWithSecond_4 : decode cX0_firstWithSecond 4 = .ok (.getfield 18, 3) := by decide +kernel
theorem dX0_firstWithSecond_7 : decode cX0_firstWithSecond 7 = .ok (.if_icmp .ge 21, 3) := by decide +kernel
theorem dX0_firstWithSecond_10 : decode cX0_firstWithSecond 10 = .ok (.aload_n 0, 1) := by decide +kernel
theorem dX0_firstWithSecond_11 : decode cX0_firstWithSecond 11 = .ok (.getfield 15, 3) := by decide +kernel
theorem dX0_firstWithSecond_14 : decode cX0_firstWithSecond 14 = .ok (.iload_n 2, 1) := by decide +kernel
theorem dX0_firstWithSecond_15 : decode cX0_firstWithSecond 15 = .ok (.iaload, 1) := by decide +kernel
theorem dX0_firstWithSecond_16 : decode cX0_firstWithSecond 16 = .ok (.iload_n 1, 1) := by decide +kernel
theorem dX0_firstWithSecond_17 : decode cX0_firstWithSecond 17 = .ok (.if_icmp .ne 5, 3) := by decide +kernel
theorem dX0_firstWithSecond_20 : decode cX0_firstWithSecond 20 = .ok (.iload_n 2, 1) := by decide +kernel
theorem dX0_firstWithSecond_21 : decode cX0_firstWithSecond 21 = .ok (.ireturn, 1) := by decide +kernel
theorem dX0_firstWithSecond_22 : decode cX0_firstWithSecond 22 = .ok (.iinc 2 1, 3) := by decide +kernel
theorem dX0_firstWithSecond_25 : decode cX0_firstWithSecond 25 = .ok (.goto (-23), 3) := by decide +kernel
theorem dX0_firstWithSecond_28 : decode cX0_firstWithSecond 28 = .ok (.iconst (-1), 1) := by decide +kernel
theorem dX0_firstWithSecond_29 : decode cX0_firstWithSecond 29 = .ok (.ireturn, 1) := by decide +kernel
theorem dX1_init_0 : decode cX1_init 0 = .ok (.aload_n 0, 1) := by decide +kernel
theorem dX1_init_1 : decode cX1_init 1 = .ok (.invokespecial 3, 3) := by decide +kernel
theorem dX1_init_4 : decode cX1_init 4 = .ok (.aload_n 0, 1) := by decide +kernel
theorem dX1_init_5 : decode cX1_init 5 = .ok (.bipush 48, 2) := by decide +kernel
theorem dX1_init_7 : decode cX1_init 7 = .ok (.newarray .int, 2) := by decide +kernel
theorem dX1_init_9 : decode cX1_init 9 = .ok (.putfield 9, 3) := by decide +kernel
theorem dX1_init_12 : decode cX1_init 12 = .ok (.aload_n 0, 1) := by decide +kernel
theorem dX1_init_13 : decode cX1_init 13 = .ok (.iconst 0, 1) := by decide +kernel
theorem dX1_init_14 : decode cX1_init 14 = .ok (.putfield 15, 3) := by decide +kernel
theorem dX1_init_17 : decode cX1_init 17 = .ok (.aload_n 0, 1) := by decide +kernel
theorem dX1_init_18 : decode cX1_init 18 = .ok (.iconst 0, 1) := by decide +kernel
theorem dX1_init_19 : decode cX1_init 19 = .ok (.putfield 19, 3) := by decide +kernel
theorem dX1_init_22 : decode cX1_init 22 = .ok (.aload_n 0, 1) := by decide +kernel
theorem dX1_init_23 : decode cX1_init 23 = .ok (.iconst 1, 1) := by decide +kernel
theorem dX1_init_24 : decode cX1_init 24 = .ok (.putfield 22, 3) := by decide +kernel
theorem dX1_init_27 : decode cX1_init 27 = .ok (.return_, 1) := by decide +kernel
theorem dX1_renew_0 : decode cX1_renew 0 = .ok (.aload_n 0, 1) := by decide +kernel
theorem dX1_renew_1 : decode cX1_renew 1 = .ok (.getfield 9, 3) := by decide +kernel
theorem dX1_renew_4 : decode cX1_renew 4 = .ok (.iconst 0, 1) := by decide +kernel
theorem dX1_renew_5 : decode cX1_renew 5 = .ok (.invokestatic 26, 3) := by decide +kernel
theorem dX1_renew_8 : decode cX1_renew 8 = .ok (.aload_n 0, 1) := by decide +kernel
theorem dX1_renew_9 : decode cX1_renew 9 = .ok (.iload_n 1, 1) := by decide +kernel
theorem dX1_renew_10 : decode cX1_renew 10 = .ok (.putfield 15, 3) := by decide +kernel
theorem dX1_renew_13 : decode cX1_renew 13 = .ok (.aload_n 0, 1) := by decide +kernel
theorem dX1_renew_14 : decode cX1_renew 14 = .ok (.iload_n 2, 1) := by decide +kernel
theorem dX1_renew_15 : decode cX1_renew 15 = .ok (.putfield 19, 3) := by decide +kernel
theorem dX1_renew_18 : decode cX1_renew 18 = .ok (.aload_n 0, 1) := by decide +kernel
theorem dX1_renew_19 : decode cX1_renew 19 = .ok (.iconst 0, 1) := by decide +kernel
theorem dX1_renew_20 : decode cX1_renew 20 = .ok (.putfield 22, 3) := by decide +kernel
theorem dX1_renew_23 : decode cX1_renew 23 = .ok (.return_, 1) := by decide +kernel
theorem dX1_store_0 : decode cX1_store 0 = .ok (.aload_n 0, 1) := by decide +kernel
theorem dX1_store_1 : decode cX1_store 1 = .ok (.getfield 9, 3) := by decide +kernel
theorem dX1_store_4 : decode cX1_store 4 = .ok (.iload_n 1, 1) := by decide +kernel
theorem dX1_store_5 : decode cX1_store 5 = .ok (.aload_n 0, 1) := by decide +kernel
theorem dX1_store_6 : decode cX1_store 6 = .ok (.getfield 15, 3) := by decide +kernel
theorem dX1_store_9 : decode cX1_store 9 = .ok (.ifCond .ne 8, 3) := by decide +kernel
theorem dX1_store_12 : decode cX1_store 12 = .ok (.iload_n 2, 1) := by decide +kernel
theorem dX1_store_13 : decode cX1_store 13 = .ok (.i2b, 1) := by decide +kernel
theorem dX1_store_14 : decode cX1_store 14 = .ok (.goto 17, 3) := by decide +kernel
theorem dX1_store_17 : decode cX1_store 17 = .ok (.aload_n 0, 1) := by decide +kernel
theorem dX1_store_18 : decode cX1_store 18 = .ok (.getfield 15, 3) := by decide +kernel
theorem dX1_store_21 : decode cX1_store 21 = .ok (.iconst 1, 1) := by decide +kernel
theorem dX1_store_22 : decode cX1_store 22 = .ok (.if_icmp .ne 8, 3) := by decide +kernel
theorem dX1_store_25 : decode cX1_store 25 = .ok (.iload_n 2, 1) := by decide +kernel
theorem dX1_store_26 : decode cX1_store 26 = .ok (.i2s, 1) := by decide +kernel
theorem dX1_store_27 : decode cX1_store 27 = .ok (.goto 4, 3) := by decide +kernel
theorem dX1_store_30 : decode cX1_store 30 = .ok (.iload_n 2, 1) := by decide +kernel
theorem dX1_store_31 : decode cX1_store 31 = .ok (.iastore, 1) := by decide +kernel
theorem dX1_store_32 : decode cX1_store 32 = .ok (.return_, 1) := by decide +kernel
theorem dX1_hasRange_0 : decode cX1_hasRange 0 = .ok (.iload_n 1, 1) := by decide +kernel
theorem dX1_hasRange_1 : decode cX1_hasRange 1 = .ok (.ifCond .lt 29, 3) := by decide +kernel
theorem dX1_hasRange_4 : decode cX1_hasRange 4 = .ok (.iload_n 2, 1) := by decide +kernel
theorem dX1_hasRange_5 : decode cX1_hasRange 5 = .ok (.ifCond .lt 25, 3) := by decide +kernel
theorem dX1_hasRange_8 : decode cX1_hasRange 8 = .ok (.iload_n 1, 1) := by decide +kernel
theorem dX1_hasRange_9 : decode cX1_hasRange 9 = .ok (.aload_n 0, 1) := by decide +kernel
theorem dX1_hasRange_10 : decode cX1_hasRange 10 = .ok (.getfield 19, 3) := by decide +kernel
theorem dX1_hasRange_13 : decode cX1_hasRange 13 = .ok (.if_icmp .gt 17, 3) := by decide +kernel
theorem dX1_hasRange_16 : decode cX1_hasRange 16 = .ok (.iload_n 2, 1) := by decide +kernel
theorem dX1_hasRange_17 : decode cX1_hasRange 17 = .ok (.aload_n 0, 1) := by decide +kernel
theorem dX1_hasRange_18 : decode cX1_hasRange 18 = .ok (.getfield 19, 3) := by decide +kernel
theorem dX1_hasRange_21 : decode cX1_hasRange 21 = .ok (.iload_n 1, 1) := by decide +kernel
theorem dX1_hasRange_22 : decode cX1_hasRange 22 = .ok (.isub, 1) := by decide +kernel
theorem dX1_hasRange_23 : decode cX1_hasRange 23 = .ok (.if_icmp .gt 7, 3) := by decide +kernel
theorem dX1_hasRange_26 : decode cX1_hasRange 26 = .ok (.iconst 1, 1) := by decide +kernel
theorem dX1_hasRange_27 : decode cX1_hasRange 27 = .ok (.goto 4, 3) := by decide +kernel
theorem dX1_hasRange_30 : decode cX1_hasRange 30 = .ok (.iconst 0, 1) := by decide +kernel
theorem dX1_hasRange_31 : decode cX1_hasRange 31 = .ok (.ireturn, 1) := by decide +kernel
theorem dX2_init_0 : decode cX2_init 0 = .ok (.aload_n 0, 1) := by decide +kernel
theorem dX2_init_1 : decode cX2_init 1 = .ok (.invokespecial 3, 3) := by decide +kernel
theorem dX2_init_4 : decode cX2_init 4 = .ok (.aload_n 0, 1) := by decide +kernel
theorem dX2_init_5 : decode cX2_init 5 = .ok (.iload_n 1, 1) := by decide +kernel
theorem dX2_init_6 : decode cX2_init 6 = .ok (.newarray .int, 2) := by decide +kernel
theorem dX2_init_8 : decode cX2_init 8 = .ok (.putfield 9, 3) := by decide +kernel
theorem dX2_init_11 : decode cX2_init 11 = .ok (.aload_n 0, 1) := by decide +kernel
theorem dX2_init_12 : decode cX2_init 12 = .ok (.aload_n 2, 1) := by decide +kernel
theorem dX2_init_13 : decode cX2_init 13 = .ok (.putfield 15, 3) := by decide +kernel
theorem dX2_init_16 : decode cX2_init 16 = .ok (.aload_n 0, 1) := by decide +kernel
theorem dX2_init_17 : decode cX2_init 17 = .ok (.aload_n 3, 1) := by decide +kernel
theorem dX2_init_18 : decode cX2_init 18 = .ok (.putfield 18, 3) := by decide +kernel
theorem dX2_init_21 : decode cX2_init 21 = .ok (.aload_n 0, 1) := by decide +kernel
theorem dX2_init_22 : decode cX2_init 22 = .ok (.iload_n 1, 1) := by decide +kernel
theorem dX2_init_23 : decode cX2_init 23 = .ok (.iconst 1, 1) := by decide +kernel
theorem dX2_init_24 : decode cX2_init 24 = .ok (.iadd, 1) := by decide +kernel
theorem dX2_init_25 : decode cX2_init 25 = .ok (.bipush 6, 2) := by decide +kernel
theorem dX2_init_27 : decode cX2_init 27 = .ok (.idiv, 1) := by decide +kernel
theorem dX2_init_28 : decode cX2_init 28 = .ok (.iconst 3, 1) := by decide +kernel
theorem dX2_init_29 : decode cX2_init 29 = .ok (.imul, 1) := by decide +kernel
theorem dX2_init_30 : decode cX2_init 30 = .ok (.newarray .int, 2) := by decide +kernel
theorem dX2_init_32 : decode cX2_init 32 = .ok (.putfield 21, 3) := by decide +kernel
theorem dX2_init_35 : decode cX2_init 35 = .ok (.aload_n 0, 1) := by decide +kernel
theorem dX2_init_36 : decode cX2_init 36 = .ok (.iconst 0, 1) := by decide +kernel
theorem dX2_init_37 : decode cX2_init 37 = .ok (.putfield 24, 3) := by decide +kernel
theorem dX2_init_40 : decode cX2_init 40 = .ok (.aload_n 0, 1) := by decide +kernel
theorem dX2_init_41 : decode cX2_init 41 = .ok (.iconst (-1), 1) := by decide +kernel
theorem dX2_init_42 : decode cX2_init 42 = .ok (.putfield 28, 3) := by decide +kernel
theorem dX2_init_45 : decode cX2_init 45 = .ok (.aload_n 0, 1) := by decide +kernel
theorem dX2_init_46 : decode cX2_init 46 = .ok (.iconst 0, 1) := by decide +kernel
theorem dX2_init_47 : decode cX2_init 47 = .ok (.putfield 31, 3) := by decide +kernel
theorem dX2_init_50 : decode cX2_init 50 = .ok (.return_, 1) := by decide +kernel
theorem dX2_part_0 : decode cX2_part 0 = .ok (.aload_n 0, 1) := by decide +kernel
theorem dX2_part_1 : decode cX2_part 1 = .ok (.getfield 21, 3) := by decide +kernel
theorem dX2_part_4 : decode cX2_part 4 = .ok (.iconst 3, 1) := by decide +kernel
theorem dX2_part_5 : decode cX2_part 5 = .ok (.iload_n 1, 1) := by decide +kernel
theorem dX2_part_6 : decode cX2_part 6 = .ok (.imul, 1) := by decide +kernel
theorem dX2_part_7 : decode cX2_part 7 = .ok (.iload_n 2, 1) := by decide +kernel
theorem dX2_part_8 : decode cX2_part 8 = .ok (.iadd, 1) := by decide +kernel
theorem dX2_part_9 : decode cX2_part 9 = .ok (.iaload, 1) := by decide +kernel
theorem dX2_part_10 : decode cX2_part 10 = .ok (.ireturn, 1) := by decide +kernel
theorem dX2_append_0 : decode cX2_append 0 = .ok (.aload_n 0, 1) := by decide +kernel
theorem dX2_append_1 : decode cX2_append 1 = .ok (.getfield 24, 3) := by decide +kernel
theorem dX2_append_4 : decode cX2_append 4 = .ok (.aload_n 0, 1) := by decide +kernel
theorem dX2_append_5 : decode cX2_append 5 = .ok (.getfield 9, 3) := by decide +kernel
theorem dX2_append_8 : decode cX2_append 8 = .ok (.arraylength, 1) := by decide +kernel
theorem dX2_append_9 : decode cX2_append 9 = .ok (.if_icmp .lt 5, 3) := by decide +kernel
theorem dX2_append_12 : decode cX2_append 12 = .ok (.iconst 0, 1) := by decide +kernel
theorem dX2_append_13 : decode cX2_append 13 = .ok (.ireturn, 1) := by decide +kernel
theorem dX2_append_14 : decode cX2_append 14 = .ok (.aload_n 0, 1) := by decide +kernel
theorem dX2_append_15 : decode cX2_append 15 = .ok (.getfield 9, 3) := by decide +kernel
theorem dX2_append_18 : decode cX2_append 18 = .ok (.aload_n 0, 1) := by decide +kernel
theorem dX2_append_19 : decode cX2_append 19 = .ok (.getfield 24, 3) := by decide +kernel
theorem dX2_append_22 : decode cX2_append 22 = .ok (.iload_n 1, 1) := by decide +kernel
theorem dX2_append_23 : decode cX2_append 23 = .ok (.iastore, 1) := by decide +kernel
theorem dX2_append_24 : decode cX2_append 24 = .ok (.aload_n 0, 1) := by decide +kernel
theorem dX2_append_25 : decode cX2_append 25 = .ok (.dup, 1) := by decide +kernel
theorem dX2_append_26 : decode cX2_append 26 = .ok (.getfield 24, 3) := by decide +kernel
theorem dX2_append_29 : decode cX2_append 29 = .ok (.iconst 1, 1) := by decide +kernel
theorem dX2_append_30 : decode cX2_append 30 = .ok (.iadd, 1) := by decide +kernel
theorem dX2_append_31 : decode cX2_append 31 = .ok (.putfield 24, 3) := by decide +kernel
theorem dX2_append_34 : decode cX2_append 34 = .ok (.aload_n 0, 1) := by decide +kernel
theorem dX2_append_35 : decode cX2_append 35 = .ok (.invokevirtual 34, 3) := by decide +kernel
theorem dX2_append_38 : decode cX2_append 38 = .ok (.iconst 1, 1) := by decide +kernel
theorem dX2_append_39 : decode cX2_append 39 = .ok (.ireturn, 1) := by decide +kernel
theorem dX2_cutTo_0 : decode cX2_cutTo 0 = .ok (.aload_n 0, 1) := by decide +kernel
theorem dX2_cutTo_1 : decode cX2_cutTo 1 = .ok (.iload_n 1, 1) := by decide +kernel
theorem dX2_cutTo_2 : decode cX2_cutTo 2 = .ok (.putfield 24, 3) := by decide +kernel
theorem dX2_cutTo_5 : decode cX2_cutTo 5 = .ok (.aload_n 0, 1) := by decide +kernel
theorem dX2_cutTo_6 : decode cX2_cutTo 6 = .ok (.invokevirtual 34, 3) := by decide +kernel
theorem dX2_cutTo_9 : decode cX2_cutTo 9 = .ok (.return_, 1) := by decide +kernel
theorem dX2_parse_0 : decode cX2_parse 0 = .ok (.aload_n 0, 1) := by decide +kernel
theorem dX2_parse_1 : decode cX2_parse 1 = .ok (.getfield 21, 3) := by decide +kernel
theorem dX2_parse_4 : decode cX2_parse 4 = .ok (.iconst 0, 1) := by decide +kernel
theorem dX2_parse_5 : decode cX2_parse 5 = .ok (.invokestatic 37, 3) := by decide +kernel
theorem dX2_parse_8 : decode cX2_parse 8 = .ok (.aload_n 0, 1) := by decide +kernel
theorem dX2_parse_9 : decode cX2_parse 9 = .ok (.iconst (-1), 1) := by decide +kernel
theorem dX2_parse_10 : decode cX2_parse 10 = .ok (.putfield 28, 3) := by decide +kernel
theorem dX2_parse_13 : decode cX2_parse 13 = .ok (.iconst 0, 1) := by decide +kernel
theorem dX2_parse_14 : decode cX2_parse 14 = .ok (.istore_n 1, 1) := by decide +kernel
theorem dX2_parse_15 : decode cX2_parse 15 = .ok (.iload_n 1, 1) := by decide +kernel
theorem dX2_parse_16 : decode cX2_parse 16 = .ok (.aload_n 0, 1) := by decide +kernel
theorem dX2_parse_17 : decode cX2_parse 17 = .ok (.getfield 24, 3) := by decide +kernel
theorem dX2_parse_20 : decode cX2_parse 20 = .ok (.if_icmp .ge 30, 3) := by decide +kernel
theorem dX2_parse_23 : decode cX2_parse 23 = .ok (.aload_n 0, 1) := by decide +kernel
theorem dX2_parse_24 : decode cX2_parse 24 = .ok (.getfield 28, 3) := by decide +kernel
theorem dX2_parse_27 : decode cX2_parse 27 = .ok (.iconst (-1), 1) := by decide +kernel
theorem dX2_parse_28 : decode cX2_parse 28 = .ok (.if_icmp .ne 22, 3) := by decide +kernel
theorem dX2_parse_31 : decode cX2_parse 31 = .ok (.aload_n 0, 1) := by decide +kernel
theorem dX2_parse_32 : decode cX2_parse 32 = .ok (.iload_n 1, 1) := by decide +kernel
theorem dX2_parse_33 : decode cX2_parse 33 = .ok (.invokevirtual 43, 3) := by decide +kernel
theorem dX2_parse_36 : decode cX2_parse 36 = .ok (.ifCond .ne 8, 3) := by decide +kernel
theorem dX2_parse_39 : decode cX2_parse 39 = .ok (.aload_n 0, 1) := by decide +kernel
theorem dX2_parse_40 : decode cX2_parse 40 = .ok (.iload_n 1, 1) := by decide +kernel
theorem dX2_parse_41 : decode cX2_parse 41 = .ok (.putfield 28, 3) := by decide +kernel
theorem dX2_parse_44 : decode cX2_parse 44 = .ok (.iinc 1 1, 3) := by decide +kernel
theorem dX2_parse_47 : decode cX2_parse 47 = .ok (.goto (-32), 3) := by decide +kernel
theorem dX2_parse_50 : decode cX2_parse 50 = .ok (.aload_n 0, 1) := by decide +kernel
theorem dX2_parse_51 : decode cX2_parse 51 = .ok (.getfield 28, 3) := by decide +kernel
theorem dX2_parse_54 : decode cX2_parse 54 = .ok (.iconst (-1), 1) := by decide +kernel
theorem dX2_parse_55 : decode cX2_parse 55 = .ok (.if_icmp .ne 29, 3) := by decide +kernel
theorem dX2_parse_58 : decode cX2_parse 58 = .ok (.aload_n 0, 1) := by decide +kernel
theorem dX2_parse_59 : decode cX2_parse 59 = .ok (.getfield 24, 3) := by decide +kernel
theorem dX2_parse_62 : decode cX2_parse 62 = .ok (.ifCond .le 22, 3) := by decide +kernel
theorem dX2_parse_65 : decode cX2_parse 65 = .ok (.aload_n 0, 1) := by decide +kernel
theorem dX2_parse_66 : decode cX2_parse 66 = .ok (.getfield 24, 3) := by decide +kernel
theorem dX2_parse_69 : decode cX2_parse 69 = .ok (.bipush 6, 2) := by decide +kernel
theorem dX2_parse_71 : decode cX2_parse 71 = .ok (.irem, 1) := by decide +kernel
theorem dX2_parse_72 : decode cX2_parse 72 = .ok (.iconst 5, 1) := by decide +kernel
theorem dX2_parse_73 : decode cX2_parse 73 = .ok (.if_icmp .eq 11, 3) := by decide +kernel
theorem dX2_parse_76 : decode cX2_parse 76 = .ok (.aload_n 0, 1) := by decide +kernel
theorem dX2_parse_77 : decode cX2_parse 77 = .ok (.aload_n 0, 1) := by decide +kernel
theorem dX2_parse_78 : decode cX2_parse 78 = .ok (.getfield 24, 3) := by decide +kernel
theorem dX2_parse_81 : decode cX2_parse 81 = .ok (.putfield 28, 3) := by decide +kernel
theorem dX2_parse_84 : decode cX2_parse 84 = .ok (.aload_n 0, 1) := by decide +kernel
theorem dX2_parse_85 : decode cX2_parse 85 = .ok (.aload_n 0, 1) := by decide +kernel
theorem dX2_parse_86 : decode cX2_parse 86 = .ok (.getfield 28, 3) := by decide +kernel
theorem dX2_parse_89 : decode cX2_parse 89 = .ok (.iconst (-1), 1) := by decide +kernel
theorem dX2_parse_90 : decode cX2_parse 90 = .ok (.if_icmp .ne 15, 3) := by decide +kernel
theorem dX2_parse_93 : decode cX2_parse 93 = .ok (.aload_n 0, 1) := by decide +kernel
theorem dX2_parse_94 : decode cX2_parse 94 = .ok (.getfield 24, 3) := by decide +kernel
theorem dX2_parse_97 : decode cX2_parse 97 = .ok (.iconst 1, 1) := by decide +kernel
theorem dX2_parse_98 : decode cX2_parse 98 = .ok (.iadd, 1) := by decide +kernel
theorem dX2_parse_99 : decode cX2_parse 99 = .ok (.bipush 6, 2) := by decide +kernel
theorem dX2_parse_101 : decode cX2_parse 101 = .ok (.idiv, 1) := by decide +kernel
theorem dX2_parse_102 : decode cX2_parse 102 = .ok (.goto 4, 3) := by decide +kernel
theorem dX2_parse_105 : decode cX2_parse 105 = .ok (.iconst 0, 1) := by decide +kernel
theorem dX2_parse_106 : decode cX2_parse 106 = .ok (.putfield 31, 3) := by decide +kernel
theorem dX2_parse_109 : decode cX2_parse 109 = .ok (.return_, 1) := by decide +kernel
theorem dX2_goesOn_0 : decode cX2_goesOn 0 = .ok (.iload_n 1, 1) := by decide +kernel
theorem dX2_goesOn_1 : decode cX2_goesOn 1 = .ok (.bipush 6, 2) := by decide +kernel
theorem dX2_goesOn_3 : decode cX2_goesOn 3 = .ok (.irem, 1) := by decide +kernel
theorem dX2_goesOn_4 : decode cX2_goesOn 4 = .ok (.istore_n 2, 1) := by decide +kernel
theorem dX2_goesOn_5 : decode cX2_goesOn 5 = .ok (.iload_n 2, 1) := by decide +kernel
theorem dX2_goesOn_6 : decode cX2_goesOn 6 = .ok (.iconst 5, 1) := by decide +kernel
theorem dX2_goesOn_7 : decode cX2_goesOn 7 = .ok (.if_icmp .ne 20, 3) := by decide +kernel
theorem dX2_goesOn_10 : decode cX2_goesOn 10 = .ok (.aload_n 0, 1) := by decide +kernel
theorem dX2_goesOn_11 : decode cX2_goesOn 11 = .ok (.getfield 9, 3) := by decide +kernel
theorem dX2_goesOn_14 : decode cX2_goesOn 14 = .ok (.iload_n 1, 1) := by decide +kernel
theorem dX2_goesOn_15 : decode cX2_goesOn 15 = .ok (.iaload, 1) := by decide +kernel
theorem dX2_goesOn_16 : decode cX2_goesOn 16 = .ok (.bipush 59, 2) := by decide +kernel
theorem dX2_goesOn_18 : decode cX2_goesOn 18 = .ok (.if_icmp .ne 7, 3) := by decide +kernel
theorem dX2_goesOn_21 : decode cX2_goesOn 21 = .ok (.iconst 1, 1) := by decide +kernel
theorem dX2_goesOn_22 : decode cX2_goesOn 22 = .ok (.goto 4, 3) := by decide +kernel
theorem dX2_goesOn_25 : decode cX2_goesOn 25 = .ok (.iconst 0, 1) := by decide +kernel
theorem dX2_goesOn_26 : decode cX2_goesOn 26 = .ok (.ireturn, 1) := by decide +kernel
theorem dX2_goesOn_27 : decode cX2_goesOn 27 = .ok (.aload_n 0, 1) := by decide +kernel
theorem dX2_goesOn_28 : decode cX2_goesOn 28 = .ok (.getfield 9, 3) := by decide +kernel
theorem dX2_goesOn_31 : decode cX2_goesOn 31 = .ok (.iload_n 1, 1) := by decide +kernel
theorem dX2_goesOn_32 : decode cX2_goesOn 32 = .ok (.iaload, 1) := by decide +kernel
theorem dX2_goesOn_33 : decode cX2_goesOn 33 = .ok (.bipush 48, 2) := by decide +kernel
theorem dX2_goesOn_35 : decode cX2_goesOn 35 = .ok (.isub, 1) := by decide +kernel
theorem dX2_goesOn_36 : decode cX2_goesOn 36 = .ok (.istore_n 3, 1) := by decide +kernel
theorem dX2_goesOn_37 : decode cX2_goesOn 37 = .ok (.iload_n 3, 1) := by decide +kernel
theorem dX2_goesOn_38 : decode cX2_goesOn 38 = .ok (.ifCond .lt 9, 3) := by decide +kernel
theorem dX2_goesOn_41 : decode cX2_goesOn 41 = .ok (.iload_n 3, 1) := by decide +kernel
theorem dX2_goesOn_42 : decode cX2_goesOn 42 = .ok (.bipush 9, 2) := by decide +kernel
theorem dX2_goesOn_44 : decode cX2_goesOn 44 = .ok (.if_icmp .le 5, 3) := by decide +kernel
theorem dX2_goesOn_47 : decode cX2_goesOn 47 = .ok (.iconst 0, 1) := by decide +kernel
theorem dX2_goesOn_48 : decode cX2_goesOn 48 = .ok (.ireturn, 1) := by decide +kernel
theorem dX2_goesOn_49 : decode cX2_goesOn 49 = .ok (.aload_n 0, 1) := by decide +kernel
theorem dX2_goesOn_50 : decode cX2_goesOn 50 = .ok (.getfield 15, 3) := by decide +kernel
theorem dX2_goesOn_53 : decode cX2_goesOn 53 = .ok (.iload_n 2, 1) := by decide +kernel
theorem dX2_goesOn_54 : decode cX2_goesOn 54 = .ok (.iaload, 1) := by decide +kernel
theorem dX2_goesOn_55 : decode cX2_goesOn 55 = .ok (.istore 4, 2) := by decide +kernel
theorem dX2_goesOn_57 : decode cX2_goesOn 57 = .ok (.iconst 3, 1) := by decide +kernel
theorem dX2_goesOn_58 : decode cX2_goesOn 58 = .ok (.iload_n 1, 1) := by decide +kernel
theorem dX2_goesOn_59 : decode cX2_goesOn 59 = .ok (.bipush 6, 2) := by decide +kernel
theorem dX2_goesOn_61 : decode cX2_goesOn 61 = .ok (.idiv, 1) := by decide +kernel
theorem dX2_goesOn_62 : decode cX2_goesOn 62 = .ok (.imul, 1) := by decide +kernel
theorem dX2_goesOn_63 : decode cX2_goesOn 63 = .ok (.iload 4, 2) := by decide +kernel
theorem dX2_goesOn_65 : decode cX2_goesOn 65 = .ok (.iadd, 1) := by decide +kernel
theorem dX2_goesOn_66 : decode cX2_goesOn 66 = .ok (.istore 5, 2) := by decide +kernel
theorem dX2_goesOn_68 : decode cX2_goesOn 68 = .ok (.aload_n 0, 1) := by decide +kernel
theorem dX2_goesOn_69 : decode cX2_goesOn 69 = .ok (.getfield 21, 3) := by decide +kernel
theorem dX2_goesOn_72 : decode cX2_goesOn 72 = .ok (.iload 5, 2) := by decide +kernel
theorem dX2_goesOn_74 : decode cX2_goesOn 74 = .ok (.bipush 10, 2) := by decide +kernel
theorem dX2_goesOn_76 : decode cX2_goesOn 76 = .ok (.aload_n 0, 1) := by decide +kernel
theorem dX2_goesOn_77 : decode cX2_goesOn 77 = .ok (.getfield 21, 3) := by decide +kernel
theorem dX2_goesOn_80 : decode cX2_goesOn 80 = .ok (.iload 5, 2) := by decide +kernel
theorem dX2_goesOn_82 : decode cX2_goesOn 82 = .ok (.iaload, 1) := by decide +kernel
theorem dX2_goesOn_83 : decode cX2_goesOn 83 = .ok (.imul, 1) := by decide +kernel
theorem dX2_goesOn_84 : decode cX2_goesOn 84 = .ok (.iload_n 3, 1) := by decide +kernel
theorem dX2_goesOn_85 : decode cX2_goesOn 85 = .ok (.iadd, 1) := by decide +kernel
theorem dX2_goesOn_86 : decode cX2_goesOn 86 = .ok (.iastore, 1) := by decide +kernel
theorem dX2_goesOn_87 : decode cX2_goesOn 87 = .ok (.iload_n 2, 1) := by decide +kernel
theorem dX2_goesOn_88 : decode cX2_goesOn 88 = .ok (.iconst 4, 1) := by decide +kernel
theorem dX2_goesOn_89 : decode cX2_goesOn 89 = .ok (.if_icmp .eq 16, 3) := by decide +kernel
theorem dX2_goesOn_92 : decode cX2_goesOn 92 = .ok (.aload_n 0, 1) := by decide +kernel
theorem dX2_goesOn_93 : decode cX2_goesOn 93 = .ok (.getfield 15, 3) := by decide +kernel
theorem dX2_goesOn_96 : decode cX2_goesOn 96 = .ok (.iload_n 2, 1) := by decide +kernel
theorem dX2_goesOn_97 : decode cX2_goesOn 97 = .ok (.iconst 1, 1) := by decide +kernel
theorem dX2_goesOn_98 : decode cX2_goesOn 98 = .ok (.iadd, 1) := by decide +kernel
theorem dX2_goesOn_99 : decode cX2_goesOn 99 = .ok (.iaload, 1) := by decide +kernel
theorem dX2_goesOn_100 : decode cX2_goesOn 100 = .ok (.iload 4, 2) := by decide +kernel
theorem dX2_goesOn_102 : decode cX2_goesOn 102 = .ok (.if_icmp .eq 7, 3) := by decide +kernel
theorem dX2_goesOn_105 : decode cX2_goesOn 105 = .ok (.iconst 1, 1) := by decide +kernel
theorem dX2_goesOn_106 : decode cX2_goesOn 106 = .ok (.goto 4, 3) := by decide +kernel
theorem dX2_goesOn_109 : decode cX2_goesOn 109 = .ok (.iconst 0, 1) := by decide +kernel
theorem dX2_goesOn_110 : decode cX2_goesOn 110 = .ok (.istore 6, 2) := by decide +kernel
theorem dX2_goesOn_112 : decode cX2_goesOn 112 = .ok (.iload 6, 2) := by decide +kernel
theorem dX2_goesOn_114 : decode cX2_goesOn 114 = .ok (.ifCond .eq 20, 3) := by decide +kernel
theorem dX2_goesOn_117 : decode cX2_goesOn 117 = .ok (.aload_n 0, 1) := by decide +kernel
theorem dX2_goesOn_118 : decode cX2_goesOn 118 = .ok (.getfield 21, 3) := by decide +kernel
theorem dX2_goesOn_121 : decode cX2_goesOn 121 = .ok (.iload 5, 2) := by decide +kernel
theorem dX2_goesOn_123 : decode cX2_goesOn 123 = .ok (.iaload, 1) := by decide +kernel
theorem dX2_goesOn_124 : decode cX2_goesOn 124 = .ok (.aload_n 0, 1) := by decide +kernel
theorem dX2_goesOn_125 : decode cX2_goesOn 125 = .ok (.getfield 18, 3) := by decide +kernel
theorem dX2_goesOn_128 : decode cX2_goesOn 128 = .ok (.iload 4, 2) := by decide +kernel
theorem dX2_goesOn_130 : decode cX2_goesOn 130 = .ok (.iaload, 1) := by decide +kernel
theorem dX2_goesOn_131 : decode cX2_goesOn 131 = .ok (.if_icmp .lt 7, 3) := by decide +kernel
theorem dX2_goesOn_134 : decode cX2_goesOn 134 = .ok (.iconst 1, 1) := by decide +kernel
theorem dX2_goesOn_135 : decode cX2_goesOn 135 = .ok (.goto 4, 3) := by decide +kernel
theorem dX2_goesOn_138 : decode cX2_goesOn 138 = .ok (.iconst 0, 1) := by decide +kernel
theorem dX2_goesOn_139 : decode cX2_goesOn 139 = .ok (.ireturn, 1) := by decide +kernel
theorem dX3_init_0 : decode cX3_init 0 = .ok (.aload_n 0, 1) := by decide +kernel
theorem dX3_init_1 : decode cX3_init 1 = .ok (.invokespecial 3, 3) := by decide +kernel
theorem dX3_init_4 : decode cX3_init 4 = .ok (.aload_n 0, 1) := by decide +kernel
theorem dX3_init_5 : decode cX3_init 5 = .ok (.sipush 240, 3) := by decide +kernel
theorem dX3_init_8 : decode cX3_init 8 = .ok (.newarray .int, 2) := by decide +kernel
theorem dX3_init_10 : decode cX3_init 10 = .ok (.putfield 9, 3) := by decide +kernel
theorem dX3_init_13 : decode cX3_init 13 = .ok (.aload_n 0, 1) := by decide +kernel
theorem dX3_init_14 : decode cX3_init 14 = .ok (.sipush 240, 3) := by decide +kernel
theorem dX3_init_17 : decode cX3_init 17 = .ok (.newarray .int, 2) := by decide +kernel
theorem dX3_init_19 : decode cX3_init 19 = .ok (.putfield 15, 3) := by decide +kernel
theorem dX3_init_22 : decode cX3_init 22 = .ok (.aload_n 0, 1) := by decide +kernel
theorem dX3_init_23 : decode cX3_init 23 = .ok (.sipush 240, 3) := by decide +kernel
theorem dX3_init_26 : decode cX3_init 26 = .ok (.newarray .boolean, 2) := by decide +kernel
theorem dX3_init_28 : decode cX3_init 28 = .ok (.putfield 18, 3) := by decide +kernel
theorem dX3_init_31 : decode cX3_init 31 = .ok (.aload_n 0, 1) := by decide +kernel
theorem dX3_init_32 : decode cX3_init 32 = .ok (.sipush 240, 3) := by decide +kernel
theorem dX3_init_35 : decode cX3_init 35 = .ok (.newarray .int, 2) := by decide +kernel
theorem dX3_init_37 : decode cX3_init 37 = .ok (.putfield 22, 3) := by decide +kernel
theorem dX3_init_40 : decode cX3_init 40 = .ok (.aload_n 0, 1) := by decide +kernel
theorem dX3_init_41 : decode cX3_init 41 = .ok (.sipush 241, 3) := by decide +kernel
theorem dX3_init_44 : decode cX3_init 44 = .ok (.newarray .int, 2) := by decide +kernel
theorem dX3_init_46 : decode cX3_init 46 = .ok (.putfield 25, 3) := by decide +kernel
theorem dX3_init_49 : decode cX3_init 49 = .ok (.aload_n 0, 1) := by decide +kernel
theorem dX3_init_50 : decode cX3_init 50 = .ok (.sipush 401, 3) := by decide +kernel
theorem dX3_init_53 : decode cX3_init 53 = .ok (.newarray .int, 2) := by decide +kernel
theorem dX3_init_55 : decode cX3_init 55 = .ok (.putfield 28, 3) := by decide +kernel
theorem dX3_init_58 : decode cX3_init 58 = .ok (.return_, 1) := by decide +kernel
theorem dX3_numberAt_0 : decode cX3_numberAt 0 = .ok (.aload_n 0, 1) := by decide +kernel
theorem dX3_numberAt_1 : decode cX3_numberAt 1 = .ok (.getfield 25, 3) := by decide +kernel
theorem dX3_numberAt_4 : decode cX3_numberAt 4 = .ok (.aload_n 0, 1) := by decide +kernel
theorem dX3_numberAt_5 : decode cX3_numberAt 5 = .ok (.getfield 22, 3) := by decide +kernel
theorem dX3_numberAt_8 : decode cX3_numberAt 8 = .ok (.iload_n 1, 1) := by decide +kernel
theorem dX3_numberAt_9 : decode cX3_numberAt 9 = .ok (.iaload, 1) := by decide +kernel
theorem dX3_numberAt_10 : decode cX3_numberAt 10 = .ok (.iaload, 1) := by decide +kernel
theorem dX3_numberAt_11 : decode cX3_numberAt 11 = .ok (.ireturn, 1) := by decide +kernel
theorem dX3_isDouble_0 : decode cX3_isDouble 0 = .ok (.aload_n 0, 1) := by decide +kernel
theorem dX3_isDouble_1 : decode cX3_isDouble 1 = .ok (.getfield 15, 3) := by decide +kernel
theorem dX3_isDouble_4 : decode cX3_isDouble 4 = .ok (.iload_n 1, 1) := by decide +kernel
theorem dX3_isDouble_5 : decode cX3_isDouble 5 = .ok (.iaload, 1) := by decide +kernel
theorem dX3_isDouble_6 : decode cX3_isDouble 6 = .ok (.iconst 2, 1) := by decide +kernel
theorem dX3_isDouble_7 : decode cX3_isDouble 7 = .ok (.if_icmp .lt 7, 3) := by decide +kernel
theorem dX3_isDouble_10 : decode cX3_isDouble 10 = .ok (.iconst 1, 1) := by decide +kernel
theorem dX3_isDouble_11 : decode cX3_isDouble 11 = .ok (.goto 4, 3) := by decide +kernel
theorem dX3_isDouble_14 : decode cX3_isDouble 14 = .ok (.iconst 0, 1) := by decide +kernel
theorem dX3_isDouble_15 : decode cX3_isDouble 15 = .ok (.ireturn, 1) := by decide +kernel
theorem dX3_last_0 : decode cX3_last 0 = .ok (.aload_n 0, 1) := by decide +kernel
theorem dX3_last_1 : decode cX3_last 1 = .ok (.getfield 25, 3) := by decide +kernel
theorem dX3_last_4 : decode cX3_last 4 = .ok (.aload_n 0, 1) := by decide +kernel
theorem dX3_last_5 : decode cX3_last 5 = .ok (.getfield 31, 3) := by decide +kernel
theorem dX3_last_8 : decode cX3_last 8 = .ok (.iaload, 1) := by decide +kernel
theorem dX3_last_9 : decode cX3_last 9 = .ok (.ireturn, 1) := by decide +kernel
theorem dX3_breakingBy_0 : decode cX3_breakingBy 0 = .ok (.iconst 0, 1) := by decide +kernel
theorem dX3_breakingBy_1 : decode cX3_breakingBy 1 = .ok (.istore_n 2, 1) := by decide +kernel
theorem dX3_breakingBy_2 : decode cX3_breakingBy 2 = .ok (.iconst 0, 1) := by decide +kernel
theorem dX3_breakingBy_3 : decode cX3_breakingBy 3 = .ok (.istore_n 3, 1) := by decide +kernel
theorem dX3_breakingBy_4 : decode cX3_breakingBy 4 = .ok (.iload_n 3, 1) := by decide +kernel
theorem dX3_breakingBy_5 : decode cX3_breakingBy 5 = .ok (.sipush 240, 3) := by decide +kernel
theorem dX3_breakingBy_8 : decode cX3_breakingBy 8 = .ok (.if_icmp .ge 25, 3) := by decide +kernel
theorem dX3_breakingBy_11 : decode cX3_breakingBy 11 = .ok (.aload_n 0, 1) := by decide +kernel
theorem dX3_breakingBy_12 : decode cX3_breakingBy 12 = .ok (.getfield 9, 3) := by decide +kernel
theorem dX3_breakingBy_15 : decode cX3_breakingBy 15 = .ok (.iload_n 3, 1) := by decide +kernel
theorem dX3_breakingBy_16 : decode cX3_breakingBy 16 = .ok (.iaload, 1) := by decide +kernel
theorem dX3_breakingBy_17 : decode cX3_breakingBy 17 = .ok (.iload_n 1, 1) := by decide +kernel
theorem dX3_breakingBy_18 : decode cX3_breakingBy 18 = .ok (.invokestatic 35, 3) := by decide +kernel
theorem dX3_breakingBy_21 : decode cX3_breakingBy 21 = .ok (.ifCond .eq 6, 3) := by decide +kernel
theorem dX3_breakingBy_24 : decode cX3_breakingBy 24 = .ok (.iinc 2 1, 3) := by decide +kernel
theorem dX3_breakingBy_27 : decode cX3_breakingBy 27 = .ok (.iinc 3 1, 3) := by decide +kernel
theorem dX3_breakingBy_30 : decode cX3_breakingBy 30 = .ok (.goto (-26), 3) := by decide +kernel
theorem dX3_breakingBy_33 : decode cX3_breakingBy 33 = .ok (.iload_n 2, 1) := by decide +kernel
theorem dX3_breakingBy_34 : decode cX3_breakingBy 34 = .ok (.ireturn, 1) := by decide +kernel
theorem dX3_reckon_0 : decode cX3_reckon 0 = .ok (.aload_n 0, 1) := by decide +kernel
theorem dX3_reckon_1 : decode cX3_reckon 1 = .ok (.aload_n 1, 1) := by decide +kernel
theorem dX3_reckon_2 : decode cX3_reckon 2 = .ok (.invokevirtual 39, 3) := by decide +kernel
theorem dX3_reckon_5 : decode cX3_reckon 5 = .ok (.aload_n 0, 1) := by decide +kernel
theorem dX3_reckon_6 : decode cX3_reckon 6 = .ok (.aload 4, 2) := by decide +kernel
theorem dX3_reckon_8 : decode cX3_reckon 8 = .ok (.invokevirtual 43, 3) := by decide +kernel
theorem dX3_reckon_11 : decode cX3_reckon 11 = .ok (.aload_n 0, 1) := by decide +kernel
theorem dX3_reckon_12 : decode cX3_reckon 12 = .ok (.getfield 28, 3) := by decide +kernel
theorem dX3_reckon_15 : decode cX3_reckon 15 = .ok (.iconst (-1), 1) := by decide +kernel
theorem dX3_reckon_16 : decode cX3_reckon 16 = .ok (.invokestatic 47, 3) := by decide +kernel
theorem dX3_reckon_19 : decode cX3_reckon 19 = .ok (.iconst 0, 1) := by decide +kernel
theorem dX3_reckon_20 : decode cX3_reckon 20 = .ok (.istore 5, 2) := by decide +kernel
theorem dX3_reckon_22 : decode cX3_reckon 22 = .ok (.iload 5, 2) := by decide +kernel
theorem dX3_reckon_24 : decode cX3_reckon 24 = .ok (.sipush 240, 3) := by decide +kernel
theorem dX3_reckon_27 : decode cX3_reckon 27 = .ok (.if_icmp .ge 17, 3) := by decide +kernel
theorem dX3_reckon_30 : decode cX3_reckon 30 = .ok (.aload_n 0, 1) := by decide +kernel
theorem dX3_reckon_31 : decode cX3_reckon 31 = .ok (.getfield 18, 3) := by decide +kernel
theorem dX3_reckon_34 : decode cX3_reckon 34 = .ok (.iload 5, 2) := by decide +kernel
theorem dX3_reckon_36 : decode cX3_reckon 36 = .ok (.iconst 0, 1) := by decide +kernel
theorem dX3_reckon_37 : decode cX3_reckon 37 = .ok (.bastore, 1) := by decide +kernel
theorem dX3_reckon_38 : decode cX3_reckon 38 = .ok (.iinc 5 1, 3) := by decide +kernel
theorem dX3_reckon_41 : decode cX3_reckon 41 = .ok (.goto (-19), 3) := by decide +kernel
theorem dX3_reckon_44 : decode cX3_reckon 44 = .ok (.iconst 0, 1) := by decide +kernel
theorem dX3_reckon_45 : decode cX3_reckon 45 = .ok (.istore 5, 2) := by decide +kernel
theorem dX3_reckon_47 : decode cX3_reckon 47 = .ok (.iload 5, 2) := by decide +kernel
theorem dX3_reckon_49 : decode cX3_reckon 49 = .ok (.aload_n 3, 1) := by decide +kernel
theorem dX3_reckon_50 : decode cX3_reckon 50 = .ok (.getfield 53, 3) := by decide +kernel
theorem dX3_reckon_53 : decode cX3_reckon 53 = .ok (.if_icmp .ge 22, 3) := by decide +kernel
theorem dX3_reckon_56 : decode cX3_reckon 56 = .ok (.aload_n 0, 1) := by decide +kernel
theorem dX3_reckon_57 : decode cX3_reckon 57 = .ok (.getfield 18, 3) := by decide +kernel
theorem dX3_reckon_60 : decode cX3_reckon 60 = .ok (.aload_n 3, 1) := by decide +kernel
theorem dX3_reckon_61 : decode cX3_reckon 61 = .ok (.getfield 58, 3) := by decide +kernel
theorem dX3_reckon_64 : decode cX3_reckon 64 = .ok (.iload 5, 2) := by decide +kernel
theorem dX3_reckon_66 : decode cX3_reckon 66 = .ok (.iaload, 1) := by decide +kernel
theorem dX3_reckon_67 : decode cX3_reckon 67 = .ok (.iconst 1, 1) := by decide +kernel
theorem dX3_reckon_68 : decode cX3_reckon 68 = .ok (.bastore, 1) := by decide +kernel
theorem dX3_reckon_69 : decode cX3_reckon 69 = .ok (.iinc 5 1, 3) := by decide +kernel
theorem dX3_reckon_72 : decode cX3_reckon 72 = .ok (.goto (-25), 3) := by decide +kernel
theorem dX3_reckon_75 : decode cX3_reckon 75 = .ok (.aload_n 0, 1) := by decide +kernel
theorem dX3_reckon_76 : decode cX3_reckon 76 = .ok (.iconst 0, 1) := by decide +kernel
theorem dX3_reckon_77 : decode cX3_reckon 77 = .ok (.putfield 31, 3) := by decide +kernel
theorem dX3_reckon_80 : decode cX3_reckon 80 = .ok (.iconst 0, 1) := by decide +kernel
theorem dX3_reckon_81 : decode cX3_reckon 81 = .ok (.istore 5, 2) := by decide +kernel
theorem dX3_reckon_83 : decode cX3_reckon 83 = .ok (.iload 5, 2) := by decide +kernel
theorem dX3_reckon_85 : decode cX3_reckon 85 = .ok (.sipush 240, 3) := by decide +kernel
theorem dX3_reckon_88 : decode cX3_reckon 88 = .ok (.if_icmp .ge 78, 3) := by decide +kernel
theorem dX3_reckon_91 : decode cX3_reckon 91 = .ok (.aload_n 0, 1) := by decide +kernel
theorem dX3_reckon_92 : decode cX3_reckon 92 = .ok (.getfield 22, 3) := by decide +kernel
theorem dX3_reckon_95 : decode cX3_reckon 95 = .ok (.iload 5, 2) := by decide +kernel
theorem dX3_reckon_97 : decode cX3_reckon 97 = .ok (.iconst 0, 1) := by decide +kernel
theorem dX3_reckon_98 : decode cX3_reckon 98 = .ok (.iastore, 1) := by decide +kernel
theorem dX3_reckon_99 : decode cX3_reckon 99 = .ok (.aload_n 0, 1) := by decide +kernel
theorem dX3_reckon_100 : decode cX3_reckon 100 = .ok (.getfield 9, 3) := by decide +kernel
theorem dX3_reckon_103 : decode cX3_reckon 103 = .ok (.iload 5, 2) := by decide +kernel
theorem dX3_reckon_105 : decode cX3_reckon 105 = .ok (.iaload, 1) := by decide +kernel
theorem dX3_reckon_106 : decode cX3_reckon 106 = .ok (.iload_n 2, 1) := by decide +kernel
theorem dX3_reckon_107 : decode cX3_reckon 107 = .ok (.invokestatic 35, 3) := by decide +kernel
theorem dX3_reckon_110 : decode cX3_reckon 110 = .ok (.ifCond .eq 50, 3) := by decide +kernel
theorem dX3_reckon_113 : decode cX3_reckon 113 = .ok (.aload_n 0, 1) := by decide +kernel
theorem dX3_reckon_114 : decode cX3_reckon 114 = .ok (.getfield 18, 3) := by decide +kernel
theorem dX3_reckon_117 : decode cX3_reckon 117 = .ok (.iload 5, 2) := by decide +kernel
theorem dX3_reckon_119 : decode cX3_reckon 119 = .ok (.baload, 1) := by decide +kernel
theorem dX3_reckon_120 : decode cX3_reckon 120 = .ok (.ifCond .ne 40, 3) := by decide +kernel
theorem dX3_reckon_123 : decode cX3_reckon 123 = .ok (.aload_n 0, 1) := by decide +kernel
theorem dX3_reckon_124 : decode cX3_reckon 124 = .ok (.dup, 1) := by decide +kernel
theorem dX3_reckon_125 : decode cX3_reckon 125 = .ok (.getfield 31, 3) := by decide +kernel
theorem dX3_reckon_128 : decode cX3_reckon 128 = .ok (.iconst 1, 1) := by decide +kernel
theorem dX3_reckon_129 : decode cX3_reckon 129 = .ok (.iadd, 1) := by decide +kernel
theorem dX3_reckon_130 : decode cX3_reckon 130 = .ok (.putfield 31, 3) := by decide +kernel
theorem dX3_reckon_133 : decode cX3_reckon 133 = .ok (.aload_n 0, 1) := by decide +kernel
theorem dX3_reckon_134 : decode cX3_reckon 134 = .ok (.getfield 22, 3) := by decide +kernel
theorem dX3_reckon_137 : decode cX3_reckon 137 = .ok (.iload 5, 2) := by decide +kernel
theorem dX3_reckon_139 : decode cX3_reckon 139 = .ok (.aload_n 0, 1) := by decide +kernel
theorem dX3_reckon_140 : decode cX3_reckon 140 = .ok (.getfield 31, 3) := by decide +kernel
theorem dX3_reckon_143 : decode cX3_reckon 143 = .ok (.iastore, 1) := by decide +kernel
theorem dX3_reckon_144 : decode cX3_reckon 144 = .ok (.aload_n 0, 1) := by decide +kernel
theorem dX3_reckon_145 : decode cX3_reckon 145 = .ok (.getfield 28, 3) := by decide +kernel
theorem dX3_reckon_148 : decode cX3_reckon 148 = .ok (.aload_n 0, 1) := by decide +kernel
theorem dX3_reckon_149 : decode cX3_reckon 149 = .ok (.getfield 25, 3) := by decide +kernel
theorem dX3_reckon_152 : decode cX3_reckon 152 = .ok (.aload_n 0, 1) := by decide +kernel
theorem dX3_reckon_153 : decode cX3_reckon 153 = .ok (.getfield 31, 3) := by decide +kernel
theorem dX3_reckon_156 : decode cX3_reckon 156 = .ok (.iaload, 1) := by decide +kernel
theorem dX3_reckon_157 : decode cX3_reckon 157 = .ok (.iload 5, 2) := by decide +kernel
theorem dX3_reckon_159 : decode cX3_reckon 159 = .ok (.iastore, 1) := by decide +kernel
theorem dX3_reckon_160 : decode cX3_reckon 160 = .ok (.iinc 5 1, 3) := by decide +kernel
theorem dX3_reckon_163 : decode cX3_reckon 163 = .ok (.goto (-80), 3) := by decide +kernel
theorem dX3_reckon_166 : decode cX3_reckon 166 = .ok (.return_, 1) := by decide +kernel
theorem dX3_reckonHeights_0 : decode cX3_reckonHeights 0 = .ok (.aload_n 0, 1) := by decide +kernel
theorem dX3_reckonHeights_1 : decode cX3_reckonHeights 1 = .ok (.getfield 9, 3) := by decide +kernel
theorem dX3_reckonHeights_4 : decode cX3_reckonHeights 4 = .ok (.iconst 0, 1) := by decide +kernel
theorem dX3_reckonHeights_5 : decode cX3_reckonHeights 5 = .ok (.invokestatic 47, 3) := by decide +kernel
theorem dX3_reckonHeights_8 : decode cX3_reckonHeights 8 = .ok (.aload_n 0, 1) := by decide +kernel
theorem dX3_reckonHeights_9 : decode cX3_reckonHeights 9 = .ok (.getfield 15, 3) := by decide +kernel
theorem dX3_reckonHeights_12 : decode cX3_reckonHeights 12 = .ok (.iconst 0, 1) := by decide +kernel
theorem dX3_reckonHeights_13 : decode cX3_reckonHeights 13 = .ok (.invokestatic 47, 3) := by decide +kernel
theorem dX3_reckonHeights_16 : decode cX3_reckonHeights 16 = .ok (.iconst 0, 1) := by decide +kernel
theorem dX3_reckonHeights_17 : decode cX3_reckonHeights 17 = .ok (.istore_n 2, 1) := by decide +kernel
theorem dX3_reckonHeights_18 : decode cX3_reckonHeights 18 = .ok (.iload_n 2, 1) := by decide +kernel
theorem dX3_reckonHeights_19 : decode cX3_reckonHeights 19 = .ok (.aload_n 1, 1) := by decide +kernel
theorem dX3_reckonHeights_20 : decode cX3_reckonHeights 20 = .ok (.getfield 61, 3) := by decide +kernel
theorem dX3_reckonHeights_23 : decode cX3_reckonHeights 23 = .ok (.if_icmp .ge 68, 3) := by decide +kernel
theorem dX3_reckonHeights_26 : decode cX3_reckonHeights 26 = .ok (.iconst 0, 1) := by decide +kernel
theorem dX3_reckonHeights_27 : decode cX3_reckonHeights 27 = .ok (.istore_n 3, 1) := by decide +kernel
theorem dX3_reckonHeights_28 : decode cX3_reckonHeights 28 = .ok (.iload_n 3, 1) := by decide +kernel
theorem dX3_reckonHeights_29 : decode cX3_reckonHeights 29 = .ok (.sipush 240, 3) := by decide +kernel
theorem dX3_reckonHeights_32 : decode cX3_reckonHeights 32 = .ok (.if_icmp .ge 53, 3) := by decide +kernel
theorem dX3_reckonHeights_35 : decode cX3_reckonHeights 35 = .ok (.iload_n 3, 1) := by decide +kernel
theorem dX3_reckonHeights_36 : decode cX3_reckonHeights 36 = .ok (.aload_n 1, 1) := by decide +kernel
theorem dX3_reckonHeights_37 : decode cX3_reckonHeights 37 = .ok (.iload_n 2, 1) := by decide +kernel
theorem dX3_reckonHeights_38 : decode cX3_reckonHeights 38 = .ok (.iconst 2, 1) := by decide +kernel
theorem dX3_reckonHeights_39 : decode cX3_reckonHeights 39 = .ok (.invokevirtual 66, 3) := by decide +kernel
theorem dX3_reckonHeights_42 : decode cX3_reckonHeights 42 = .ok (.aload_n 1, 1) := by decide +kernel
theorem dX3_reckonHeights_43 : decode cX3_reckonHeights 43 = .ok (.iload_n 2, 1) := by decide +kernel
theorem dX3_reckonHeights_44 : decode cX3_reckonHeights 44 = .ok (.iconst 1, 1) := by decide +kernel
theorem dX3_reckonHeights_45 : decode cX3_reckonHeights 45 = .ok (.invokevirtual 66, 3) := by decide +kernel
theorem dX3_reckonHeights_48 : decode cX3_reckonHeights 48 = .ok (.invokestatic 70, 3) := by decide +kernel
theorem dX3_reckonHeights_51 : decode cX3_reckonHeights 51 = .ok (.ifCond .eq 28, 3) := by decide +kernel
theorem dX3_reckonHeights_54 : decode cX3_reckonHeights 54 = .ok (.aload_n 0, 1) := by decide +kernel
theorem dX3_reckonHeights_55 : decode cX3_reckonHeights 55 = .ok (.getfield 9, 3) := by decide +kernel
theorem dX3_reckonHeights_58 : decode cX3_reckonHeights 58 = .ok (.iload_n 3, 1) := by decide +kernel
theorem dX3_reckonHeights_59 : decode cX3_reckonHeights 59 = .ok (.dup2, 1) := by decide +kernel
theorem dX3_reckonHeights_60 : decode cX3_reckonHeights 60 = .ok (.iaload, 1) := by decide +kernel
theorem dX3_reckonHeights_61 : decode cX3_reckonHeights 61 = .ok (.aload_n 1, 1) := by decide +kernel
theorem dX3_reckonHeights_62 : decode cX3_reckonHeights 62 = .ok (.iload_n 2, 1) := by decide +kernel
theorem dX3_reckonHeights_63 : decode cX3_reckonHeights 63 = .ok (.iconst 0, 1) := by decide +kernel
theorem dX3_reckonHeights_64 : decode cX3_reckonHeights 64 = .ok (.invokevirtual 66, 3) := by decide +kernel
theorem dX3_reckonHeights_67 : decode cX3_reckonHeights 67 = .ok (.iadd, 1) := by decide +kernel
theorem dX3_reckonHeights_68 : decode cX3_reckonHeights 68 = .ok (.iastore, 1) := by decide +kernel
theorem dX3_reckonHeights_69 : decode cX3_reckonHeights 69 = .ok (.aload_n 0, 1) := by decide +kernel
theorem dX3_reckonHeights_70 : decode cX3_reckonHeights 70 = .ok (.getfield 15, 3) := by decide +kernel
theorem dX3_reckonHeights_73 : decode cX3_reckonHeights 73 = .ok (.iload_n 3, 1) := by decide +kernel
theorem dX3_reckonHeights_74 : decode cX3_reckonHeights 74 = .ok (.dup2, 1) := by decide +kernel
theorem dX3_reckonHeights_75 : decode cX3_reckonHeights 75 = .ok (.iaload, 1) := by decide +kernel
theorem dX3_reckonHeights_76 : decode cX3_reckonHeights 76 = .ok (.iconst 1, 1) := by decide +kernel
theorem dX3_reckonHeights_77 : decode cX3_reckonHeights 77 = .ok (.iadd, 1) := by decide +kernel
theorem dX3_reckonHeights_78 : decode cX3_reckonHeights 78 = .ok (.iastore, 1) := by decide +kernel
theorem dX3_reckonHeights_79 : decode cX3_reckonHeights 79 = .ok (.iinc 3 1, 3) := by decide +kernel
theorem dX3_reckonHeights_82 : decode cX3_reckonHeights 82 = .ok (.goto (-54), 3) := by decide +kernel
theorem dX3_reckonHeights_85 : decode cX3_reckonHeights 85 = .ok (.iinc 2 1, 3) := by decide +kernel
theorem dX3_reckonHeights_88 : decode cX3_reckonHeights 88 = .ok (.goto (-70), 3) := by decide +kernel
theorem dX3_reckonHeights_91 : decode cX3_reckonHeights 91 = .ok (.return_, 1) := by decide +kernel
theorem dX3_reckonNumbers_0 : decode cX3_reckonNumbers 0 = .ok (.iconst 0, 1) := by decide +kernel
theorem dX3_reckonNumbers_1 : decode cX3_reckonNumbers 1 = .ok (.istore_n 2, 1) := by decide +kernel
theorem dX3_reckonNumbers_2 : decode cX3_reckonNumbers 2 = .ok (.iload_n 2, 1) := by decide +kernel
theorem dX3_reckonNumbers_3 : decode cX3_reckonNumbers 3 = .ok (.sipush 240, 3) := by decide +kernel
theorem dX3_reckonNumbers_6 : decode cX3_reckonNumbers 6 = .ok (.if_icmp .gt 16, 3) := by decide +kernel
theorem dX3_reckonNumbers_9 : decode cX3_reckonNumbers 9 = .ok (.aload_n 0, 1) := by decide +kernel
theorem dX3_reckonNumbers_10 : decode cX3_reckonNumbers 10 = .ok (.getfield 25, 3) := by decide +kernel
theorem dX3_reckonNumbers_13 : decode cX3_reckonNumbers 13 = .ok (.iload_n 2, 1) := by decide +kernel
theorem dX3_reckonNumbers_14 : decode cX3_reckonNumbers 14 = .ok (.iload_n 2, 1) := by decide +kernel
theorem dX3_reckonNumbers_15 : decode cX3_reckonNumbers 15 = .ok (.iastore, 1) := by decide +kernel
theorem dX3_reckonNumbers_16 : decode cX3_reckonNumbers 16 = .ok (.iinc 2 1, 3) := by decide +kernel
theorem dX3_reckonNumbers_19 : decode cX3_reckonNumbers 19 = .ok (.goto (-17), 3) := by decide +kernel
theorem dX3_reckonNumbers_22 : decode cX3_reckonNumbers 22 = .ok (.iconst 0, 1) := by decide +kernel
theorem dX3_reckonNumbers_23 : decode cX3_reckonNumbers 23 = .ok (.istore_n 2, 1) := by decide +kernel
theorem dX3_reckonNumbers_24 : decode cX3_reckonNumbers 24 = .ok (.iload_n 2, 1) := by decide +kernel
theorem dX3_reckonNumbers_25 : decode cX3_reckonNumbers 25 = .ok (.aload_n 1, 1) := by decide +kernel
theorem dX3_reckonNumbers_26 : decode cX3_reckonNumbers 26 = .ok (.getfield 53, 3) := by decide +kernel
theorem dX3_reckonNumbers_29 : decode cX3_reckonNumbers 29 = .ok (.if_icmp .ge 44, 3) := by decide +kernel
theorem dX3_reckonNumbers_32 : decode cX3_reckonNumbers 32 = .ok (.aload_n 1, 1) := by decide +kernel
theorem dX3_reckonNumbers_33 : decode cX3_reckonNumbers 33 = .ok (.getfield 58, 3) := by decide +kernel
theorem dX3_reckonNumbers_36 : decode cX3_reckonNumbers 36 = .ok (.iload_n 2, 1) := by decide +kernel
theorem dX3_reckonNumbers_37 : decode cX3_reckonNumbers 37 = .ok (.iaload, 1) := by decide +kernel
theorem dX3_reckonNumbers_38 : decode cX3_reckonNumbers 38 = .ok (.istore_n 3, 1) := by decide +kernel
theorem dX3_reckonNumbers_39 : decode cX3_reckonNumbers 39 = .ok (.iload_n 3, 1) := by decide +kernel
theorem dX3_reckonNumbers_40 : decode cX3_reckonNumbers 40 = .ok (.sipush 240, 3) := by decide +kernel
theorem dX3_reckonNumbers_43 : decode cX3_reckonNumbers 43 = .ok (.if_icmp .gt 24, 3) := by decide +kernel
theorem dX3_reckonNumbers_46 : decode cX3_reckonNumbers 46 = .ok (.aload_n 0, 1) := by decide +kernel
theorem dX3_reckonNumbers_47 : decode cX3_reckonNumbers 47 = .ok (.getfield 25, 3) := by decide +kernel
theorem dX3_reckonNumbers_50 : decode cX3_reckonNumbers 50 = .ok (.iload_n 3, 1) := by decide +kernel
theorem dX3_reckonNumbers_51 : decode cX3_reckonNumbers 51 = .ok (.dup2, 1) := by decide +kernel
theorem dX3_reckonNumbers_52 : decode cX3_reckonNumbers 52 = .ok (.iaload, 1) := by decide +kernel
theorem dX3_reckonNumbers_53 : decode cX3_reckonNumbers 53 = .ok (.aload_n 1, 1) := by decide +kernel
theorem dX3_reckonNumbers_54 : decode cX3_reckonNumbers 54 = .ok (.getfield 74, 3) := by decide +kernel
theorem dX3_reckonNumbers_57 : decode cX3_reckonNumbers 57 = .ok (.iload_n 2, 1) := by decide +kernel
theorem dX3_reckonNumbers_58 : decode cX3_reckonNumbers 58 = .ok (.iaload, 1) := by decide +kernel
theorem dX3_reckonNumbers_59 : decode cX3_reckonNumbers 59 = .ok (.iadd, 1) := by decide +kernel
theorem dX3_reckonNumbers_60 : decode cX3_reckonNumbers 60 = .ok (.iastore, 1) := by decide +kernel
theorem dX3_reckonNumbers_61 : decode cX3_reckonNumbers 61 = .ok (.iinc 3 1, 3) := by decide +kernel
theorem dX3_reckonNumbers_64 : decode cX3_reckonNumbers 64 = .ok (.goto (-25), 3) := by decide +kernel
theorem dX3_reckonNumbers_67 : decode cX3_reckonNumbers 67 = .ok (.iinc 2 1, 3) := by decide +kernel
theorem dX3_reckonNumbers_70 : decode cX3_reckonNumbers 70 = .ok (.goto (-46), 3) := by decide +kernel
theorem dX3_reckonNumbers_73 : decode cX3_reckonNumbers 73 = .ok (.return_, 1) := by decide +kernel
theorem dX4_init_0 : decode cX4_init 0 = .ok (.aload_n 0, 1) := by decide +kernel
theorem dX4_init_1 : decode cX4_init 1 = .ok (.invokespecial 1, 3) := by decide +kernel
theorem dX4_init_4 : decode cX4_init 4 = .ok (.aload_n 0, 1) := by decide +kernel
theorem dX4_init_5 : decode cX4_init 5 = .ok (.new 7, 3) := by decide +kernel
theorem dX4_init_8 : decode cX4_init 8 = .ok (.dup, 1) := by decide +kernel
theorem dX4_init_9 : decode cX4_init 9 = .ok (.bipush 35, 2) := by decide +kernel
theorem dX4_init_11 : decode cX4_init 11 = .ok (.getstatic 9, 3) := by decide +kernel
theorem dX4_init_14 : decode cX4_init 14 = .ok (.getstatic 15, 3) := by decide +kernel
theorem dX4_init_17 : decode cX4_init 17 = .ok (.invokespecial 18, 3) := by decide +kernel
theorem dX4_init_20 : decode cX4_init 20 = .ok (.putfield 21, 3) := by decide +kernel
theorem dX4_init_23 : decode cX4_init 23 = .ok (.aload_n 0, 1) := by decide +kernel
theorem dX4_init_24 : decode cX4_init 24 = .ok (.new 7, 3) := by decide +kernel
theorem dX4_init_27 : decode cX4_init 27 = .ok (.dup, 1) := by decide +kernel
theorem dX4_init_28 : decode cX4_init 28 = .ok (.bipush 47, 2) := by decide +kernel
theorem dX4_init_30 : decode cX4_init 30 = .ok (.getstatic 25, 3) := by decide +kernel
theorem dX4_init_33 : decode cX4_init 33 = .ok (.getstatic 28, 3) := by decide +kernel
theorem dX4_init_36 : decode cX4_init 36 = .ok (.invokespecial 18, 3) := by decide +kernel
theorem dX4_init_39 : decode cX4_init 39 = .ok (.putfield 31, 3) := by decide +kernel
theorem dX4_init_42 : decode cX4_init 42 = .ok (.aload_n 0, 1) := by decide +kernel
theorem dX4_init_43 : decode cX4_init 43 = .ok (.new 34, 3) := by decide +kernel
theorem dX4_init_46 : decode cX4_init 46 = .ok (.dup, 1) := by decide +kernel
theorem dX4_init_47 : decode cX4_init 47 = .ok (.bipush 12, 2) := by decide +kernel
theorem dX4_init_49 : decode cX4_init 49 = .ok (.invokespecial 36, 3) := by decide +kernel
theorem dX4_init_52 : decode cX4_init 52 = .ok (.putfield 39, 3) := by decide +kernel
theorem dX4_init_55 : decode cX4_init 55 = .ok (.aload_n 0, 1) := by decide +kernel
theorem dX4_init_56 : decode cX4_init 56 = .ok (.new 34, 3) := by decide +kernel
theorem dX4_init_59 : decode cX4_init 59 = .ok (.dup, 1) := by decide +kernel
theorem dX4_init_60 : decode cX4_init 60 = .ok (.bipush 8, 2) := by decide +kernel
theorem dX4_init_62 : decode cX4_init 62 = .ok (.invokespecial 36, 3) := by decide +kernel
theorem dX4_init_65 : decode cX4_init 65 = .ok (.putfield 43, 3) := by decide +kernel
theorem dX4_init_68 : decode cX4_init 68 = .ok (.aload_n 0, 1) := by decide +kernel
theorem dX4_init_69 : decode cX4_init 69 = .ok (.new 34, 3) := by decide +kernel
theorem dX4_init_72 : decode cX4_init 72 = .ok (.dup, 1) := by decide +kernel
theorem dX4_init_73 : decode cX4_init 73 = .ok (.bipush 12, 2) := by decide +kernel
theorem dX4_init_75 : decode cX4_init 75 = .ok (.invokespecial 36, 3) := by decide +kernel
theorem dX4_init_78 : decode cX4_init 78 = .ok (.putfield 46, 3) := by decide +kernel
theorem dX4_init_81 : decode cX4_init 81 = .ok (.aload_n 0, 1) := by decide +kernel
theorem dX4_init_82 : decode cX4_init 82 = .ok (.new 34, 3) := by decide +kernel
theorem dX4_init_85 : decode cX4_init 85 = .ok (.dup, 1) := by decide +kernel
theorem dX4_init_86 : decode cX4_init 86 = .ok (.bipush 8, 2) := by decide +kernel
theorem dX4_init_88 : decode cX4_init 88 = .ok (.invokespecial 36, 3) := by decide +kernel
theorem dX4_init_91 : decode cX4_init 91 = .ok (.putfield 49, 3) := by decide +kernel
theorem dX4_init_94 : decode cX4_init 94 = .ok (.aload_n 0, 1) := by decide +kernel
theorem dX4_init_95 : decode cX4_init 95 = .ok (.new 52, 3) := by decide +kernel
theorem dX4_init_98 : decode cX4_init 98 = .ok (.dup, 1) := by decide +kernel
theorem dX4_init_99 : decode cX4_init 99 = .ok (.invokespecial 54, 3) := by decide +kernel
theorem dX4_init_102 : decode cX4_init 102 = .ok (.putfield 55, 3) := by decide +kernel
theorem dX4_init_105 : decode cX4_init 105 = .ok (.aload_n 0, 1) := by decide +kernel
theorem dX4_init_106 : decode cX4_init 106 = .ok (.iconst 4, 1) := by decide +kernel
theorem dX4_init_107 : decode cX4_init 107 = .ok (.anewarray 59, 3) := by decide +kernel
theorem dX4_init_110 : decode cX4_init 110 = .ok (.putfield 61, 3) := by decide +kernel
theorem dX4_init_113 : decode cX4_init 113 = .ok (.iconst 0, 1) := by decide +kernel
theorem dX4_init_114 : decode cX4_init 114 = .ok (.istore_n 1, 1) := by decide +kernel
theorem dX4_init_115 : decode cX4_init 115 = .ok (.iload_n 1, 1) := by decide +kernel
theorem dX4_init_116 : decode cX4_init 116 = .ok (.iconst 4, 1) := by decide +kernel
theorem dX4_init_117 : decode cX4_init 117 = .ok (.if_icmp .ge 22, 3) := by decide +kernel
theorem dX4_init_120 : decode cX4_init 120 = .ok (.aload_n 0, 1) := by decide +kernel
theorem dX4_init_121 : decode cX4_init 121 = .ok (.getfield 61, 3) := by decide +kernel
theorem dX4_init_124 : decode cX4_init 124 = .ok (.iload_n 1, 1) := by decide +kernel
theorem dX4_init_125 : decode cX4_init 125 = .ok (.new 59, 3) := by decide +kernel
theorem dX4_init_128 : decode cX4_init 128 = .ok (.dup, 1) := by decide +kernel
theorem dX4_init_129 : decode cX4_init 129 = .ok (.invokespecial 65, 3) := by decide +kernel
theorem dX4_init_132 : decode cX4_init 132 = .ok (.aastore, 1) := by decide +kernel
theorem dX4_init_133 : decode cX4_init 133 = .ok (.iinc 1 1, 3) := by decide +kernel
theorem dX4_init_136 : decode cX4_init 136 = .ok (.goto (-21), 3) := by decide +kernel
theorem dX4_init_139 : decode cX4_init 139 = .ok (.aload_n 0, 1) := by decide +kernel
theorem dX4_init_140 : decode cX4_init 140 = .ok (.sipush 240, 3) := by decide +kernel
theorem dX4_init_143 : decode cX4_init 143 = .ok (.newarray .int, 2) := by decide +kernel
theorem dX4_init_145 : decode cX4_init 145 = .ok (.putfield 66, 3) := by decide +kernel
theorem dX4_init_148 : decode cX4_init 148 = .ok (.aload_n 0, 1) := by decide +kernel
theorem dX4_init_149 : decode cX4_init 149 = .ok (.bipush 13, 2) := by decide +kernel
theorem dX4_init_151 : decode cX4_init 151 = .ok (.newarray .long, 2) := by decide +kernel
theorem dX4_init_153 : decode cX4_init 153 = .ok (.putfield 69, 3) := by decide +kernel
theorem dX4_init_156 : decode cX4_init 156 = .ok (.aload_n 0, 1) := by decide +kernel
theorem dX4_init_157 : decode cX4_init 157 = .ok (.iconst 0, 1) := by decide +kernel
theorem dX4_init_158 : decode cX4_init 158 = .ok (.putfield 73, 3) := by decide +kernel
theorem dX4_init_161 : decode cX4_init 161 = .ok (.aload_n 0, 1) := by decide +kernel
theorem dX4_init_162 : decode cX4_init 162 = .ok (.iconst 0, 1) := by decide +kernel
theorem dX4_init_163 : decode cX4_init 163 = .ok (.putfield 77, 3) := by decide +kernel
theorem dX4_init_166 : decode cX4_init 166 = .ok (.aload_n 0, 1) := by decide +kernel
theorem dX4_init_167 : decode cX4_init 167 = .ok (.iconst 0, 1) := by decide +kernel
theorem dX4_init_168 : decode cX4_init 168 = .ok (.putfield 80, 3) := by decide +kernel
theorem dX4_init_171 : decode cX4_init 171 = .ok (.return_, 1) := by decide +kernel
theorem dX4_type_0 : decode cX4_type 0 = .ok (.iload_n 1, 1) := by decide +kernel
theorem dX4_type_1 : decode cX4_type 1 = .ok (.iconst 2, 1) := by decide +kernel
theorem dX4_type_2 : decode cX4_type 2 = .ok (.invokestatic 84, 3) := by decide +kernel
theorem dX4_type_5 : decode cX4_type 5 = .ok (.ifCond .eq 13, 3) := by decide +kernel
theorem dX4_type_8 : decode cX4_type 8 = .ok (.iload_n 2, 1) := by decide +kernel
theorem dX4_type_9 : decode cX4_type 9 = .ok (.sipush 256, 3) := by decide +kernel
theorem dX4_type_12 : decode cX4_type 12 = .ok (.invokestatic 84, 3) := by decide +kernel
theorem dX4_type_15 : decode cX4_type 15 = .ok (.ifCond .ne 6, 3) := by decide +kernel
theorem dX4_type_18 : decode cX4_type 18 = .ok (.bipush (-2), 2) := by decide +kernel
theorem dX4_type_20 : decode cX4_type 20 = .ok (.ireturn, 1) := by decide +kernel
theorem dX4_type_21 : decode cX4_type 21 = .ok (.aload_n 0, 1) := by decide +kernel
theorem dX4_type_22 : decode cX4_type 22 = .ok (.iload_n 1, 1) := by decide +kernel
theorem dX4_type_23 : decode cX4_type 23 = .ok (.invokevirtual 88, 3) := by decide +kernel
theorem dX4_type_26 : decode cX4_type 26 = .ok (.astore_n 3, 1) := by decide +kernel
theorem dX4_type_27 : decode cX4_type 27 = .ok (.aload_n 3, 1) := by decide +kernel
theorem dX4_type_28 : decode cX4_type 28 = .ok (.iload_n 2, 1) := by decide +kernel
theorem dX4_type_29 : decode cX4_type 29 = .ok (.invokevirtual 92, 3) := by decide +kernel
theorem dX4_type_32 : decode cX4_type 32 = .ok (.ifCond .ne 6, 3) := by decide +kernel
theorem dX4_type_35 : decode cX4_type 35 = .ok (.bipush (-4), 2) := by decide +kernel
theorem dX4_type_37 : decode cX4_type 37 = .ok (.ireturn, 1) := by decide +kernel
theorem dX4_type_38 : decode cX4_type 38 = .ok (.aload_n 0, 1) := by decide +kernel
theorem dX4_type_39 : decode cX4_type 39 = .ok (.iconst 0, 1) := by decide +kernel
theorem dX4_type_40 : decode cX4_type 40 = .ok (.putfield 80, 3) := by decide +kernel
theorem dX4_type_43 : decode cX4_type 43 = .ok (.aload_n 3, 1) := by decide +kernel
theorem dX4_type_44 : decode cX4_type 44 = .ok (.getfield 96, 3) := by decide +kernel
theorem dX4_type_47 : decode cX4_type 47 = .ok (.ireturn, 1) := by decide +kernel
theorem dX4_wipe_0 : decode cX4_wipe 0 = .ok (.iload_n 1, 1) := by decide +kernel
theorem dX4_wipe_1 : decode cX4_wipe 1 = .ok (.iconst 2, 1) := by decide +kernel
theorem dX4_wipe_2 : decode cX4_wipe 2 = .ok (.invokestatic 84, 3) := by decide +kernel
theorem dX4_wipe_5 : decode cX4_wipe 5 = .ok (.ifCond .ne 6, 3) := by decide +kernel
theorem dX4_wipe_8 : decode cX4_wipe 8 = .ok (.bipush (-2), 2) := by decide +kernel
theorem dX4_wipe_10 : decode cX4_wipe 10 = .ok (.ireturn, 1) := by decide +kernel
theorem dX4_wipe_11 : decode cX4_wipe 11 = .ok (.aload_n 0, 1) := by decide +kernel
theorem dX4_wipe_12 : decode cX4_wipe 12 = .ok (.iload_n 1, 1) := by decide +kernel
theorem dX4_wipe_13 : decode cX4_wipe 13 = .ok (.invokevirtual 88, 3) := by decide +kernel
theorem dX4_wipe_16 : decode cX4_wipe 16 = .ok (.astore_n 2, 1) := by decide +kernel
theorem dX4_wipe_17 : decode cX4_wipe 17 = .ok (.aload_n 2, 1) := by decide +kernel
theorem dX4_wipe_18 : decode cX4_wipe 18 = .ok (.getfield 96, 3) := by decide +kernel
theorem dX4_wipe_21 : decode cX4_wipe 21 = .ok (.istore_n 3, 1) := by decide +kernel
theorem dX4_wipe_22 : decode cX4_wipe 22 = .ok (.aload_n 2, 1) := by decide +kernel
theorem dX4_wipe_23 : decode cX4_wipe 23 = .ok (.iconst 0, 1) := by decide +kernel
theorem dX4_wipe_24 : decode cX4_wipe 24 = .ok (.invokevirtual 99, 3) := by decide +kernel
theorem dX4_wipe_27 : decode cX4_wipe 27 = .ok (.aload_n 0, 1) := by decide +kernel
theorem dX4_wipe_28 : decode cX4_wipe 28 = .ok (.iconst 0, 1) := by decide +kernel
theorem dX4_wipe_29 : decode cX4_wipe 29 = .ok (.putfield 80, 3) := by decide +kernel
theorem dX4_wipe_32 : decode cX4_wipe 32 = .ok (.iload_n 3, 1) := by decide +kernel
theorem dX4_wipe_33 : decode cX4_wipe 33 = .ok (.ireturn, 1) := by decide +kernel
theorem dX4_undo_0 : decode cX4_undo 0 = .ok (.iload_n 1, 1) := by decide +kernel
theorem dX4_undo_1 : decode cX4_undo 1 = .ok (.iconst 2, 1) := by decide +kernel
theorem dX4_undo_2 : decode cX4_undo 2 = .ok (.invokestatic 84, 3) := by decide +kernel
theorem dX4_undo_5 : decode cX4_undo 5 = .ok (.ifCond .ne 6, 3) := by decide +kernel
theorem dX4_undo_8 : decode cX4_undo 8 = .ok (.bipush (-2), 2) := by decide +kernel
theorem dX4_undo_10 : decode cX4_undo 10 = .ok (.ireturn, 1) := by decide +kernel
theorem dX4_undo_11 : decode cX4_undo 11 = .ok (.aload_n 0, 1) := by decide +kernel
theorem dX4_undo_12 : decode cX4_undo 12 = .ok (.iload_n 1, 1) := by decide +kernel
theorem dX4_undo_13 : decode cX4_undo 13 = .ok (.invokevirtual 88, 3) := by decide +kernel
theorem dX4_undo_16 : decode cX4_undo 16 = .ok (.astore_n 2, 1) := by decide +kernel
theorem dX4_undo_17 : decode cX4_undo 17 = .ok (.aload_n 2, 1) := by decide +kernel
theorem dX4_undo_18 : decode cX4_undo 18 = .ok (.getfield 96, 3) := by decide +kernel
theorem dX4_undo_21 : decode cX4_undo 21 = .ok (.ifCond .ne 6, 3) := by decide +kernel
theorem dX4_undo_24 : decode cX4_undo 24 = .ok (.bipush (-3), 2) := by decide +kernel
theorem dX4_undo_26 : decode cX4_undo 26 = .ok (.ireturn, 1) := by decide +kernel
theorem dX4_undo_27 : decode cX4_undo 27 = .ok (.aload_n 2, 1) := by decide +kernel
theorem dX4_undo_28 : decode cX4_undo 28 = .ok (.aload_n 2, 1) := by decide +kernel
theorem dX4_undo_29 : decode cX4_undo 29 = .ok (.getfield 96, 3) := by decide +kernel
theorem dX4_undo_32 : decode cX4_undo 32 = .ok (.iconst 1, 1) := by decide +kernel
theorem dX4_undo_33 : decode cX4_undo 33 = .ok (.isub, 1) := by decide +kernel
theorem dX4_undo_34 : decode cX4_undo 34 = .ok (.invokevirtual 99, 3) := by decide +kernel
theorem dX4_undo_37 : decode cX4_undo 37 = .ok (.aload_n 0, 1) := by decide +kernel
theorem dX4_undo_38 : decode cX4_undo 38 = .ok (.iconst 0, 1) := by decide +kernel
theorem dX4_undo_39 : decode cX4_undo 39 = .ok (.putfield 80, 3) := by decide +kernel
theorem dX4_undo_42 : decode cX4_undo 42 = .ok (.aload_n 2, 1) := by decide +kernel
theorem dX4_undo_43 : decode cX4_undo 43 = .ok (.getfield 96, 3) := by decide +kernel
theorem dX4_undo_46 : decode cX4_undo 46 = .ok (.ireturn, 1) := by decide +kernel
theorem dX4_fault_0 : decode cX4_fault 0 = .ok (.iload_n 1, 1) := by decide +kernel
theorem dX4_fault_1 : decode cX4_fault 1 = .ok (.iconst 2, 1) := by decide +kernel
theorem dX4_fault_2 : decode cX4_fault 2 = .ok (.invokestatic 84, 3) := by decide +kernel
theorem dX4_fault_5 : decode cX4_fault 5 = .ok (.ifCond .eq 14, 3) := by decide +kernel
theorem dX4_fault_8 : decode cX4_fault 8 = .ok (.aload_n 0, 1) := by decide +kernel
theorem dX4_fault_9 : decode cX4_fault 9 = .ok (.iload_n 1, 1) := by decide +kernel
theorem dX4_fault_10 : decode cX4_fault 10 = .ok (.invokevirtual 88, 3) := by decide +kernel
theorem dX4_fault_13 : decode cX4_fault 13 = .ok (.getfield 102, 3) := by decide +kernel
theorem dX4_fault_16 : decode cX4_fault 16 = .ok (.goto 5, 3) := by decide +kernel
theorem dX4_fault_19 : decode cX4_fault 19 = .ok (.bipush (-2), 2) := by decide +kernel
theorem dX4_fault_21 : decode cX4_fault 21 = .ok (.ireturn, 1) := by decide +kernel
theorem dX4_swell_0 : decode cX4_swell 0 = .ok (.aload_n 0, 1) := by decide +kernel
theorem dX4_swell_1 : decode cX4_swell 1 = .ok (.getfield 21, 3) := by decide +kernel
theorem dX4_swell_4 : decode cX4_swell 4 = .ok (.iload_n 1, 1) := by decide +kernel
theorem dX4_swell_5 : decode cX4_swell 5 = .ok (.iload_n 2, 1) := by decide +kernel
theorem dX4_swell_6 : decode cX4_swell 6 = .ok (.invokestatic 105, 3) := by decide +kernel
theorem dX4_swell_9 : decode cX4_swell 9 = .ok (.ireturn, 1) := by decide +kernel
theorem dX4_find_0 : decode cX4_find 0 = .ok (.aload_n 0, 1) := by decide +kernel
theorem dX4_find_1 : decode cX4_find 1 = .ok (.getfield 31, 3) := by decide +kernel
theorem dX4_find_4 : decode cX4_find 4 = .ok (.iload_n 1, 1) := by decide +kernel
theorem dX4_find_5 : decode cX4_find 5 = .ok (.iload_n 2, 1) := by decide +kernel
theorem dX4_find_6 : decode cX4_find 6 = .ok (.invokestatic 105, 3) := by decide +kernel
theorem dX4_find_9 : decode cX4_find 9 = .ok (.ireturn, 1) := by decide +kernel
theorem dX4_depth_0 : decode cX4_depth 0 = .ok (.iload_n 1, 1) := by decide +kernel
theorem dX4_depth_1 : decode cX4_depth 1 = .ok (.iconst 0, 1) := by decide +kernel
theorem dX4_depth_2 : decode cX4_depth 2 = .ok (.bipush 55, 2) := by decide +kernel
theorem dX4_depth_4 : decode cX4_depth 4 = .ok (.invokestatic 109, 3) := by decide +kernel
theorem dX4_depth_7 : decode cX4_depth 7 = .ok (.ifCond .ne 6, 3) := by decide +kernel
theorem dX4_depth_10 : decode cX4_depth 10 = .ok (.bipush (-2), 2) := by decide +kernel
theorem dX4_depth_12 : decode cX4_depth 12 = .ok (.ireturn, 1) := by decide +kernel
theorem dX4_depth_13 : decode cX4_depth 13 = .ok (.aload_n 0, 1) := by decide +kernel
theorem dX4_depth_14 : decode cX4_depth 14 = .ok (.getfield 73, 3) := by decide +kernel
theorem dX4_depth_17 : decode cX4_depth 17 = .ok (.istore_n 2, 1) := by decide +kernel
theorem dX4_depth_18 : decode cX4_depth 18 = .ok (.aload_n 0, 1) := by decide +kernel
theorem dX4_depth_19 : decode cX4_depth 19 = .ok (.iload_n 1, 1) := by decide +kernel
theorem dX4_depth_20 : decode cX4_depth 20 = .ok (.putfield 73, 3) := by decide +kernel
theorem dX4_depth_23 : decode cX4_depth 23 = .ok (.aload_n 0, 1) := by decide +kernel
theorem dX4_depth_24 : decode cX4_depth 24 = .ok (.iconst 0, 1) := by decide +kernel
theorem dX4_depth_25 : decode cX4_depth 25 = .ok (.putfield 80, 3) := by decide +kernel
theorem dX4_depth_28 : decode cX4_depth 28 = .ok (.iload_n 2, 1) := by decide +kernel
theorem dX4_depth_29 : decode cX4_depth 29 = .ok (.ireturn, 1) := by decide +kernel
theorem dX4_slip_0 : decode cX4_slip 0 = .ok (.iload_n 1, 1) := by decide +kernel
theorem dX4_slip_1 : decode cX4_slip 1 = .ok (.iconst 1, 1) := by decide +kernel
theorem dX4_slip_2 : decode cX4_slip 2 = .ok (.sipush 240, 3) := by decide +kernel
theorem dX4_slip_5 : decode cX4_slip 5 = .ok (.invokestatic 109, 3) := by decide +kernel
theorem dX4_slip_8 : decode cX4_slip 8 = .ok (.ifCond .eq 13, 3) := by decide +kernel
theorem dX4_slip_11 : decode cX4_slip 11 = .ok (.iload_n 2, 1) := by decide +kernel
theorem dX4_slip_12 : decode cX4_slip 12 = .ok (.iconst 1, 1) := by decide +kernel
theorem dX4_slip_13 : decode cX4_slip 13 = .ok (.bipush 11, 2) := by decide +kernel
theorem dX4_slip_15 : decode cX4_slip 15 = .ok (.invokestatic 109, 3) := by decide +kernel
theorem dX4_slip_18 : decode cX4_slip 18 = .ok (.ifCond .ne 6, 3) := by decide +kernel
theorem dX4_slip_21 : decode cX4_slip 21 = .ok (.bipush (-2), 2) := by decide +kernel
theorem dX4_slip_23 : decode cX4_slip 23 = .ok (.ireturn, 1) := by decide +kernel
theorem dX4_slip_24 : decode cX4_slip 24 = .ok (.aload_n 0, 1) := by decide +kernel
theorem dX4_slip_25 : decode cX4_slip 25 = .ok (.aload_n 0, 1) := by decide +kernel
theorem dX4_slip_26 : decode cX4_slip 26 = .ok (.getfield 39, 3) := by decide +kernel
theorem dX4_slip_29 : decode cX4_slip 29 = .ok (.iload_n 1, 1) := by decide +kernel
theorem dX4_slip_30 : decode cX4_slip 30 = .ok (.iload_n 2, 1) := by decide +kernel
theorem dX4_slip_31 : decode cX4_slip 31 = .ok (.invokevirtual 113, 3) := by decide +kernel
theorem dX4_slip_34 : decode cX4_slip 34 = .ok (.ireturn, 1) := by decide +kernel
theorem dX4_wake_0 : decode cX4_wake 0 = .ok (.iload_n 1, 1) := by decide +kernel
theorem dX4_wake_1 : decode cX4_wake 1 = .ok (.invokestatic 117, 3) := by decide +kernel
theorem dX4_wake_4 : decode cX4_wake 4 = .ok (.ifCond .eq 16, 3) := by decide +kernel
theorem dX4_wake_7 : decode cX4_wake 7 = .ok (.aload_n 0, 1) := by decide +kernel
theorem dX4_wake_8 : decode cX4_wake 8 = .ok (.aload_n 0, 1) := by decide +kernel
theorem dX4_wake_9 : decode cX4_wake 9 = .ok (.getfield 43, 3) := by decide +kernel
theorem dX4_wake_12 : decode cX4_wake 12 = .ok (.iload_n 1, 1) := by decide +kernel
theorem dX4_wake_13 : decode cX4_wake 13 = .ok (.iconst 0, 1) := by decide +kernel
theorem dX4_wake_14 : decode cX4_wake 14 = .ok (.invokevirtual 113, 3) := by decide +kernel
theorem dX4_wake_17 : decode cX4_wake 17 = .ok (.goto 5, 3) := by decide +kernel
theorem dX4_wake_20 : decode cX4_wake 20 = .ok (.bipush (-2), 2) := by decide +kernel
theorem dX4_wake_22 : decode cX4_wake 22 = .ok (.ireturn, 1) := by decide +kernel
theorem dX4_ticket_0 : decode cX4_ticket 0 = .ok (.iload_n 1, 1) := by decide +kernel
theorem dX4_ticket_1 : decode cX4_ticket 1 = .ok (.iload_n 2, 1) := by decide +kernel
theorem dX4_ticket_2 : decode cX4_ticket 2 = .ok (.invokestatic 120, 3) := by decide +kernel
theorem dX4_ticket_5 : decode cX4_ticket 5 = .ok (.ifCond .eq 16, 3) := by decide +kernel
theorem dX4_ticket_8 : decode cX4_ticket 8 = .ok (.aload_n 0, 1) := by decide +kernel
theorem dX4_ticket_9 : decode cX4_ticket 9 = .ok (.aload_n 0, 1) := by decide +kernel
theorem dX4_ticket_10 : decode cX4_ticket 10 = .ok (.getfield 46, 3) := by decide +kernel
theorem dX4_ticket_13 : decode cX4_ticket 13 = .ok (.iload_n 1, 1) := by decide +kernel
theorem dX4_ticket_14 : decode cX4_ticket 14 = .ok (.iload_n 2, 1) := by decide +kernel
theorem dX4_ticket_15 : decode cX4_ticket 15 = .ok (.invokevirtual 113, 3) := by decide +kernel
theorem dX4_ticket_18 : decode cX4_ticket 18 = .ok (.goto 5, 3) := by decide +kernel
theorem dX4_ticket_21 : decode cX4_ticket 21 = .ok (.bipush (-2), 2) := by decide +kernel
theorem dX4_ticket_23 : decode cX4_ticket 23 = .ok (.ireturn, 1) := by decide +kernel
theorem dX4_back_0 : decode cX4_back 0 = .ok (.iload_n 1, 1) := by decide +kernel
theorem dX4_back_1 : decode cX4_back 1 = .ok (.iconst 3, 1) := by decide +kernel
theorem dX4_back_2 : decode cX4_back 2 = .ok (.invokestatic 84, 3) := by decide +kernel
theorem dX4_back_5 : decode cX4_back 5 = .ok (.ifCond .ne 6, 3) := by decide +kernel
theorem dX4_back_8 : decode cX4_back 8 = .ok (.bipush (-2), 2) := by decide +kernel
theorem dX4_back_10 : decode cX4_back 10 = .ok (.ireturn, 1) := by decide +kernel
theorem dX4_back_11 : decode cX4_back 11 = .ok (.iload_n 1, 1) := by decide +kernel
theorem dX4_back_12 : decode cX4_back 12 = .ok (.ifCond .ne 10, 3) := by decide +kernel
theorem dX4_back_15 : decode cX4_back 15 = .ok (.aload_n 0, 1) := by decide +kernel
theorem dX4_back_16 : decode cX4_back 16 = .ok (.getfield 39, 3) := by decide +kernel
theorem dX4_back_19 : decode cX4_back 19 = .ok (.goto 19, 3) := by decide +kernel
theorem dX4_back_22 : decode cX4_back 22 = .ok (.iload_n 1, 1) := by decide +kernel
theorem dX4_back_23 : decode cX4_back 23 = .ok (.iconst 1, 1) := by decide +kernel
theorem dX4_back_24 : decode cX4_back 24 = .ok (.if_icmp .ne 10, 3) := by decide +kernel
theorem dX4_back_27 : decode cX4_back 27 = .ok (.aload_n 0, 1) := by decide +kernel
theorem dX4_back_28 : decode cX4_back 28 = .ok (.getfield 43, 3) := by decide +kernel
theorem dX4_back_31 : decode cX4_back 31 = .ok (.goto 7, 3) := by decide +kernel
theorem dX4_back_34 : decode cX4_back 34 = .ok (.aload_n 0, 1) := by decide +kernel
theorem dX4_back_35 : decode cX4_back 35 = .ok (.getfield 46, 3) := by decide +kernel
theorem dX4_back_38 : decode cX4_back 38 = .ok (.astore_n 2, 1) := by decide +kernel
theorem dX4_back_39 : decode cX4_back 39 = .ok (.aload_n 2, 1) := by decide +kernel
theorem dX4_back_40 : decode cX4_back 40 = .ok (.invokevirtual 123, 3) := by decide +kernel
theorem dX4_back_43 : decode cX4_back 43 = .ok (.ifCond .ne 6, 3) := by decide +kernel
theorem dX4_back_46 : decode cX4_back 46 = .ok (.bipush (-3), 2) := by decide +kernel
theorem dX4_back_48 : decode cX4_back 48 = .ok (.ireturn, 1) := by decide +kernel
theorem dX4_back_49 : decode cX4_back 49 = .ok (.aload_n 0, 1) := by decide +kernel
theorem dX4_back_50 : decode cX4_back 50 = .ok (.iconst 0, 1) := by decide +kernel
theorem dX4_back_51 : decode cX4_back 51 = .ok (.putfield 80, 3) := by decide +kernel
theorem dX4_back_54 : decode cX4_back 54 = .ok (.aload_n 2, 1) := by decide +kernel
theorem dX4_back_55 : decode cX4_back 55 = .ok (.getfield 127, 3) := by decide +kernel
theorem dX4_back_58 : decode cX4_back 58 = .ok (.ireturn, 1) := by decide +kernel
theorem dX4_read_0 : decode cX4_read 0 = .ok (.aload_n 0, 1) := by decide +kernel
theorem dX4_read_1 : decode cX4_read 1 = .ok (.iload_n 1, 1) := by decide +kernel
theorem dX4_read_2 : decode cX4_read 2 = .ok (.invokevirtual 130, 3) := by decide +kernel
theorem dX4_read_5 : decode cX4_read 5 = .ok (.istore_n 2, 1) := by decide +kernel
theorem dX4_read_6 : decode cX4_read 6 = .ok (.iload_n 2, 1) := by decide +kernel
theorem dX4_read_7 : decode cX4_read 7 = .ok (.ifCond .eq 5, 3) := by decide +kernel
theorem dX4_read_10 : decode cX4_read 10 = .ok (.iload_n 2, 1) := by decide +kernel
theorem dX4_read_11 : decode cX4_read 11 = .ok (.ireturn, 1) := by decide +kernel
theorem dX4_read_12 : decode cX4_read 12 = .ok (.aload_n 0, 1) := by decide +kernel
theorem dX4_read_13 : decode cX4_read 13 = .ok (.getfield 61, 3) := by decide +kernel
theorem dX4_read_16 : decode cX4_read 16 = .ok (.iload_n 1, 1) := by decide +kernel
theorem dX4_read_17 : decode cX4_read 17 = .ok (.aaload, 1) := by decide +kernel
theorem dX4_read_18 : decode cX4_read 18 = .ok (.astore_n 3, 1) := by decide +kernel
theorem dX4_read_19 : decode cX4_read 19 = .ok (.iconst 0, 1) := by decide +kernel
theorem dX4_read_20 : decode cX4_read 20 = .ok (.istore 4, 2) := by decide +kernel
theorem dX4_read_22 : decode cX4_read 22 = .ok (.iconst 0, 1) := by decide +kernel
theorem dX4_read_23 : decode cX4_read 23 = .ok (.istore 5, 2) := by decide +kernel
theorem dX4_read_25 : decode cX4_read 25 = .ok (.iload 5, 2) := by decide +kernel
theorem dX4_read_27 : decode cX4_read 27 = .ok (.iconst 1, 1) := by decide +kernel
theorem dX4_read_28 : decode cX4_read 28 = .ok (.iadd, 1) := by decide +kernel
theorem dX4_read_29 : decode cX4_read 29 = .ok (.aload_n 3, 1) := by decide +kernel
theorem dX4_read_30 : decode cX4_read 30 = .ok (.getfield 134, 3) := by decide +kernel
theorem dX4_read_33 : decode cX4_read 33 = .ok (.if_icmp .ge 59, 3) := by decide +kernel
theorem dX4_read_36 : decode cX4_read 36 = .ok (.aload_n 3, 1) := by decide +kernel
theorem dX4_read_37 : decode cX4_read 37 = .ok (.getfield 135, 3) := by decide +kernel
theorem dX4_read_40 : decode cX4_read 40 = .ok (.iload 5, 2) := by decide +kernel
theorem dX4_read_42 : decode cX4_read 42 = .ok (.iaload, 1) := by decide +kernel
theorem dX4_read_43 : decode cX4_read 43 = .ok (.istore 6, 2) := by decide +kernel
theorem dX4_read_45 : decode cX4_read 45 = .ok (.aload_n 3, 1) := by decide +kernel
theorem dX4_read_46 : decode cX4_read 46 = .ok (.getfield 135, 3) := by decide +kernel
theorem dX4_read_49 : decode cX4_read 49 = .ok (.iload 5, 2) := by decide +kernel
theorem dX4_read_51 : decode cX4_read 51 = .ok (.iconst 1, 1) := by decide +kernel
theorem dX4_read_52 : decode cX4_read 52 = .ok (.iadd, 1) := by decide +kernel
theorem dX4_read_53 : decode cX4_read 53 = .ok (.iaload, 1) := by decide +kernel
theorem dX4_read_54 : decode cX4_read 54 = .ok (.istore 7, 2) := by decide +kernel
theorem dX4_read_56 : decode cX4_read 56 = .ok (.iload 6, 2) := by decide +kernel
theorem dX4_read_58 : decode cX4_read 58 = .ok (.iload 7, 2) := by decide +kernel
theorem dX4_read_60 : decode cX4_read 60 = .ok (.invokestatic 120, 3) := by decide +kernel
theorem dX4_read_63 : decode cX4_read 63 = .ok (.ifCond .eq 29, 3) := by decide +kernel
theorem dX4_read_66 : decode cX4_read 66 = .ok (.aload_n 0, 1) := by decide +kernel
theorem dX4_read_67 : decode cX4_read 67 = .ok (.getfield 46, 3) := by decide +kernel
theorem dX4_read_70 : decode cX4_read 70 = .ok (.iload 6, 2) := by decide +kernel
theorem dX4_read_72 : decode cX4_read 72 = .ok (.iload 7, 2) := by decide +kernel
theorem dX4_read_74 : decode cX4_read 74 = .ok (.invokevirtual 138, 3) := by decide +kernel
theorem dX4_read_77 : decode cX4_read 77 = .ok (.ifCond .ne 6, 3) := by decide +kernel
theorem dX4_read_80 : decode cX4_read 80 = .ok (.goto 12, 3) := by decide +kernel
theorem dX4_read_83 : decode cX4_read 83 = .ok (.iinc 4 1, 3) := by decide +kernel
theorem dX4_read_86 : decode cX4_read 86 = .ok (.iinc 5 2, 3) := by decide +kernel
theorem dX4_read_89 : decode cX4_read 89 = .ok (.goto (-64), 3) := by decide +kernel
theorem dX4_read_92 : decode cX4_read 92 = .ok (.iload 4, 2) := by decide +kernel
theorem dX4_read_94 : decode cX4_read 94 = .ok (.ireturn, 1) := by decide +kernel
theorem dX4_high_0 : decode cX4_high 0 = .ok (.iload_n 1, 1) := by decide +kernel
theorem dX4_high_1 : decode cX4_high 1 = .ok (.invokestatic 117, 3) := by decide +kernel
theorem dX4_high_4 : decode cX4_high 4 = .ok (.ifCond .eq 15, 3) := by decide +kernel
theorem dX4_high_7 : decode cX4_high 7 = .ok (.aload_n 0, 1) := by decide +kernel
theorem dX4_high_8 : decode cX4_high 8 = .ok (.invokevirtual 140, 3) := by decide +kernel
theorem dX4_high_11 : decode cX4_high 11 = .ok (.getfield 144, 3) := by decide +kernel
theorem dX4_high_14 : decode cX4_high 14 = .ok (.iload_n 1, 1) := by decide +kernel
theorem dX4_high_15 : decode cX4_high 15 = .ok (.iaload, 1) := by decide +kernel
theorem dX4_high_16 : decode cX4_high 16 = .ok (.goto 5, 3) := by decide +kernel
theorem dX4_high_19 : decode cX4_high 19 = .ok (.bipush (-2), 2) := by decide +kernel
theorem dX4_high_21 : decode cX4_high 21 = .ok (.ireturn, 1) := by decide +kernel
theorem dX4_wave_0 : decode cX4_wave 0 = .ok (.iload_n 1, 1) := by decide +kernel
theorem dX4_wave_1 : decode cX4_wave 1 = .ok (.invokestatic 117, 3) := by decide +kernel
theorem dX4_wave_4 : decode cX4_wave 4 = .ok (.ifCond .eq 11, 3) := by decide +kernel
theorem dX4_wave_7 : decode cX4_wave 7 = .ok (.iload_n 2, 1) := by decide +kernel
theorem dX4_wave_8 : decode cX4_wave 8 = .ok (.iconst 3, 1) := by decide +kernel
theorem dX4_wave_9 : decode cX4_wave 9 = .ok (.invokestatic 84, 3) := by decide +kernel
theorem dX4_wave_12 : decode cX4_wave 12 = .ok (.ifCond .ne 6, 3) := by decide +kernel
theorem dX4_wave_15 : decode cX4_wave 15 = .ok (.bipush (-2), 2) := by decide +kernel
theorem dX4_wave_17 : decode cX4_wave 17 = .ok (.ireturn, 1) := by decide +kernel
theorem dX4_wave_18 : decode cX4_wave 18 = .ok (.iload_n 2, 1) := by decide +kernel
theorem dX4_wave_19 : decode cX4_wave 19 = .ok (.ifCond .ne 28, 3) := by decide +kernel
theorem dX4_wave_22 : decode cX4_wave 22 = .ok (.aload_n 0, 1) := by decide +kernel
theorem dX4_wave_23 : decode cX4_wave 23 = .ok (.invokevirtual 140, 3) := by decide +kernel
theorem dX4_wave_26 : decode cX4_wave 26 = .ok (.getfield 144, 3) := by decide +kernel
theorem dX4_wave_29 : decode cX4_wave 29 = .ok (.iload_n 1, 1) := by decide +kernel
theorem dX4_wave_30 : decode cX4_wave 30 = .ok (.iaload, 1) := by decide +kernel
theorem dX4_wave_31 : decode cX4_wave 31 = .ok (.aload_n 0, 1) := by decide +kernel
theorem dX4_wave_32 : decode cX4_wave 32 = .ok (.getfield 73, 3) := by decide +kernel
theorem dX4_wave_35 : decode cX4_wave 35 = .ok (.invokestatic 147, 3) := by decide +kernel
theorem dX4_wave_38 : decode cX4_wave 38 = .ok (.ifCond .eq 7, 3) := by decide +kernel
theorem dX4_wave_41 : decode cX4_wave 41 = .ok (.iconst 1, 1) := by decide +kernel
theorem dX4_wave_42 : decode cX4_wave 42 = .ok (.goto 4, 3) := by decide +kernel
theorem dX4_wave_45 : decode cX4_wave 45 = .ok (.iconst 0, 1) := by decide +kernel
theorem dX4_wave_46 : decode cX4_wave 46 = .ok (.ireturn, 1) := by decide +kernel
theorem dX4_wave_47 : decode cX4_wave 47 = .ok (.iload_n 2, 1) := by decide +kernel
theorem dX4_wave_48 : decode cX4_wave 48 = .ok (.iconst 1, 1) := by decide +kernel
theorem dX4_wave_49 : decode cX4_wave 49 = .ok (.if_icmp .ne 12, 3) := by decide +kernel
theorem dX4_wave_52 : decode cX4_wave 52 = .ok (.aload_n 0, 1) := by decide +kernel
theorem dX4_wave_53 : decode cX4_wave 53 = .ok (.invokevirtual 140, 3) := by decide +kernel
theorem dX4_wave_56 : decode cX4_wave 56 = .ok (.iload_n 1, 1) := by decide +kernel
theorem dX4_wave_57 : decode cX4_wave 57 = .ok (.invokevirtual 150, 3) := by decide +kernel
theorem dX4_wave_60 : decode cX4_wave 60 = .ok (.ireturn, 1) := by decide +kernel
theorem dX4_wave_61 : decode cX4_wave 61 = .ok (.aload_n 0, 1) := by decide +kernel
theorem dX4_wave_62 : decode cX4_wave 62 = .ok (.invokevirtual 140, 3) := by decide +kernel
theorem dX4_wave_65 : decode cX4_wave 65 = .ok (.iload_n 1, 1) := by decide +kernel
theorem dX4_wave_66 : decode cX4_wave 66 = .ok (.invokevirtual 153, 3) := by decide +kernel
theorem dX4_wave_69 : decode cX4_wave 69 = .ok (.ifCond .eq 7, 3) := by decide +kernel
theorem dX4_wave_72 : decode cX4_wave 72 = .ok (.iconst 1, 1) := by decide +kernel
theorem dX4_wave_73 : decode cX4_wave 73 = .ok (.goto 4, 3) := by decide +kernel
theorem dX4_wave_76 : decode cX4_wave 76 = .ok (.iconst 0, 1) := by decide +kernel
theorem dX4_wave_77 : decode cX4_wave 77 = .ok (.ireturn, 1) := by decide +kernel
theorem dX4_when_0 : decode cX4_when 0 = .ok (.iload_n 1, 1) := by decide +kernel
theorem dX4_when_1 : decode cX4_when 1 = .ok (.invokestatic 156, 3) := by decide +kernel
theorem dX4_when_4 : decode cX4_when 4 = .ok (.ifCond .eq 15, 3) := by decide +kernel
theorem dX4_when_7 : decode cX4_when 7 = .ok (.aload_n 0, 1) := by decide +kernel
theorem dX4_when_8 : decode cX4_when 8 = .ok (.invokevirtual 140, 3) := by decide +kernel
theorem dX4_when_11 : decode cX4_when 11 = .ok (.getfield 159, 3) := by decide +kernel
theorem dX4_when_14 : decode cX4_when 14 = .ok (.iload_n 1, 1) := by decide +kernel
theorem dX4_when_15 : decode cX4_when 15 = .ok (.iaload, 1) := by decide +kernel
theorem dX4_when_16 : decode cX4_when 16 = .ok (.goto 5, 3) := by decide +kernel
theorem dX4_when_19 : decode cX4_when 19 = .ok (.bipush (-2), 2) := by decide +kernel
theorem dX4_when_21 : decode cX4_when 21 = .ok (.ireturn, 1) := by decide +kernel
theorem dX4_called_0 : decode cX4_called 0 = .ok (.iload_n 1, 1) := by decide +kernel
theorem dX4_called_1 : decode cX4_called 1 = .ok (.invokestatic 117, 3) := by decide +kernel
theorem dX4_called_4 : decode cX4_called 4 = .ok (.ifCond .eq 10, 3) := by decide +kernel
theorem dX4_called_7 : decode cX4_called 7 = .ok (.iload_n 2, 1) := by decide +kernel
theorem dX4_called_8 : decode cX4_called 8 = .ok (.invokestatic 117, 3) := by decide +kernel
theorem dX4_called_11 : decode cX4_called 11 = .ok (.ifCond .ne 6, 3) := by decide +kernel
theorem dX4_called_14 : decode cX4_called 14 = .ok (.bipush (-2), 2) := by decide +kernel
theorem dX4_called_16 : decode cX4_called 16 = .ok (.ireturn, 1) := by decide +kernel
theorem dX4_called_17 : decode cX4_called 17 = .ok (.aload_n 0, 1) := by decide +kernel
theorem dX4_called_18 : decode cX4_called 18 = .ok (.invokevirtual 140, 3) := by decide +kernel
theorem dX4_called_21 : decode cX4_called 21 = .ok (.astore_n 3, 1) := by decide +kernel
theorem dX4_called_22 : decode cX4_called 22 = .ok (.iconst 0, 1) := by decide +kernel
theorem dX4_called_23 : decode cX4_called 23 = .ok (.istore 4, 2) := by decide +kernel
theorem dX4_called_25 : decode cX4_called 25 = .ok (.iload_n 1, 1) := by decide +kernel
theorem dX4_called_26 : decode cX4_called 26 = .ok (.istore 5, 2) := by decide +kernel
theorem dX4_called_28 : decode cX4_called 28 = .ok (.iload 5, 2) := by decide +kernel
theorem dX4_called_30 : decode cX4_called 30 = .ok (.iload_n 2, 1) := by decide +kernel
theorem dX4_called_31 : decode cX4_called 31 = .ok (.if_icmp .gt 22, 3) := by decide +kernel
theorem dX4_called_34 : decode cX4_called 34 = .ok (.aload_n 3, 1) := by decide +kernel
theorem dX4_called_35 : decode cX4_called 35 = .ok (.getfield 162, 3) := by decide +kernel
theorem dX4_called_38 : decode cX4_called 38 = .ok (.iload 5, 2) := by decide +kernel
theorem dX4_called_40 : decode cX4_called 40 = .ok (.iaload, 1) := by decide +kernel
theorem dX4_called_41 : decode cX4_called 41 = .ok (.ifCond .le 6, 3) := by decide +kernel
theorem dX4_called_44 : decode cX4_called 44 = .ok (.iinc 4 1, 3) := by decide +kernel
theorem dX4_called_47 : decode cX4_called 47 = .ok (.iinc 5 1, 3) := by decide +kernel
theorem dX4_called_50 : decode cX4_called 50 = .ok (.goto (-22), 3) := by decide +kernel
theorem dX4_called_53 : decode cX4_called 53 = .ok (.iload 4, 2) := by decide +kernel
theorem dX4_called_55 : decode cX4_called 55 = .ok (.ireturn, 1) := by decide +kernel
theorem dX4_brings_0 : decode cX4_brings 0 = .ok (.iload_n 1, 1) := by decide +kernel
theorem dX4_brings_1 : decode cX4_brings 1 = .ok (.invokestatic 156, 3) := by decide +kernel
theorem dX4_brings_4 : decode cX4_brings 4 = .ok (.ifCond .eq 11, 3) := by decide +kernel
theorem dX4_brings_7 : decode cX4_brings 7 = .ok (.aload_n 0, 1) := by decide +kernel
theorem dX4_brings_8 : decode cX4_brings 8 = .ok (.iload_n 1, 1) := by decide +kernel
theorem dX4_brings_9 : decode cX4_brings 9 = .ok (.invokevirtual 165, 3) := by decide +kernel
theorem dX4_brings_12 : decode cX4_brings 12 = .ok (.goto 5, 3) := by decide +kernel
theorem dX4_brings_15 : decode cX4_brings 15 = .ok (.bipush (-2), 2) := by decide +kernel
theorem dX4_brings_17 : decode cX4_brings 17 = .ok (.ireturn, 1) := by decide +kernel
theorem dX4_claims_0 : decode cX4_claims 0 = .ok (.iload_n 1, 1) := by decide +kernel
theorem dX4_claims_1 : decode cX4_claims 1 = .ok (.bipush 8, 2) := by decide +kernel
theorem dX4_claims_3 : decode cX4_claims 3 = .ok (.invokestatic 84, 3) := by decide +kernel
theorem dX4_claims_6 : decode cX4_claims 6 = .ok (.ifCond .ne 6, 3) := by decide +kernel
theorem dX4_claims_9 : decode cX4_claims 9 = .ok (.bipush (-2), 2) := by decide +kernel
theorem dX4_claims_11 : decode cX4_claims 11 = .ok (.ireturn, 1) := by decide +kernel
theorem dX4_claims_12 : decode cX4_claims 12 = .ok (.aload_n 0, 1) := by decide +kernel
theorem dX4_claims_13 : decode cX4_claims 13 = .ok (.aload_n 0, 1) := by decide +kernel
theorem dX4_claims_14 : decode cX4_claims 14 = .ok (.invokevirtual 140, 3) := by decide +kernel
theorem dX4_claims_17 : decode cX4_claims 17 = .ok (.iload_n 1, 1) := by decide +kernel
theorem dX4_claims_18 : decode cX4_claims 18 = .ok (.invokevirtual 168, 3) := by decide +kernel
theorem dX4_claims_21 : decode cX4_claims 21 = .ok (.ireturn, 1) := by decide +kernel
theorem dX4_good_0 : decode cX4_good 0 = .ok (.iload_n 1, 1) := by decide +kernel
theorem dX4_good_1 : decode cX4_good 1 = .ok (.aload_n 0, 1) := by decide +kernel
theorem dX4_good_2 : decode cX4_good 2 = .ok (.getfield 46, 3) := by decide +kernel
theorem dX4_good_5 : decode cX4_good 5 = .ok (.getfield 127, 3) := by decide +kernel
theorem dX4_good_8 : decode cX4_good 8 = .ok (.invokestatic 84, 3) := by decide +kernel
theorem dX4_good_11 : decode cX4_good 11 = .ok (.ifCond .ne 6, 3) := by decide +kernel
theorem dX4_good_14 : decode cX4_good 14 = .ok (.bipush (-2), 2) := by decide +kernel
theorem dX4_good_16 : decode cX4_good 16 = .ok (.ireturn, 1) := by decide +kernel
theorem dX4_good_17 : decode cX4_good 17 = .ok (.aload_n 0, 1) := by decide +kernel
theorem dX4_good_18 : decode cX4_good 18 = .ok (.getfield 46, 3) := by decide +kernel
theorem dX4_good_21 : decode cX4_good 21 = .ok (.getfield 172, 3) := by decide +kernel
theorem dX4_good_24 : decode cX4_good 24 = .ok (.iload_n 1, 1) := by decide +kernel
theorem dX4_good_25 : decode cX4_good 25 = .ok (.iaload, 1) := by decide +kernel
theorem dX4_good_26 : decode cX4_good 26 = .ok (.istore_n 2, 1) := by decide +kernel
theorem dX4_good_27 : decode cX4_good 27 = .ok (.aload_n 0, 1) := by decide +kernel
theorem dX4_good_28 : decode cX4_good 28 = .ok (.getfield 46, 3) := by decide +kernel
theorem dX4_good_31 : decode cX4_good 31 = .ok (.iload_n 2, 1) := by decide +kernel
theorem dX4_good_32 : decode cX4_good 32 = .ok (.invokevirtual 175, 3) := by decide +kernel
theorem dX4_good_35 : decode cX4_good 35 = .ok (.iload_n 1, 1) := by decide +kernel
theorem dX4_good_36 : decode cX4_good 36 = .ok (.if_icmp .ne 7, 3) := by decide +kernel
theorem dX4_good_39 : decode cX4_good 39 = .ok (.iconst 1, 1) := by decide +kernel
theorem dX4_good_40 : decode cX4_good 40 = .ok (.goto 4, 3) := by decide +kernel
theorem dX4_good_43 : decode cX4_good 43 = .ok (.iconst 0, 1) := by decide +kernel
theorem dX4_good_44 : decode cX4_good 44 = .ok (.istore_n 3, 1) := by decide +kernel
theorem dX4_good_45 : decode cX4_good 45 = .ok (.iload_n 3, 1) := by decide +kernel
theorem dX4_good_46 : decode cX4_good 46 = .ok (.ifCond .eq 20, 3) := by decide +kernel
theorem dX4_good_49 : decode cX4_good 49 = .ok (.aload_n 0, 1) := by decide +kernel
theorem dX4_good_50 : decode cX4_good 50 = .ok (.invokevirtual 140, 3) := by decide +kernel
theorem dX4_good_53 : decode cX4_good 53 = .ok (.getfield 159, 3) := by decide +kernel
theorem dX4_good_56 : decode cX4_good 56 = .ok (.iload_n 2, 1) := by decide +kernel
theorem dX4_good_57 : decode cX4_good 57 = .ok (.iaload, 1) := by decide +kernel
theorem dX4_good_58 : decode cX4_good 58 = .ok (.iconst (-1), 1) := by decide +kernel
theorem dX4_good_59 : decode cX4_good 59 = .ok (.if_icmp .eq 7, 3) := by decide +kernel
theorem dX4_good_62 : decode cX4_good 62 = .ok (.iconst 1, 1) := by decide +kernel
theorem dX4_good_63 : decode cX4_good 63 = .ok (.goto 4, 3) := by decide +kernel
theorem dX4_good_66 : decode cX4_good 66 = .ok (.iconst 0, 1) := by decide +kernel
theorem dX4_good_67 : decode cX4_good 67 = .ok (.ireturn, 1) := by decide +kernel
theorem dX4_agree_0 : decode cX4_agree 0 = .ok (.iload_n 1, 1) := by decide +kernel
theorem dX4_agree_1 : decode cX4_agree 1 = .ok (.aload_n 0, 1) := by decide +kernel
theorem dX4_agree_2 : decode cX4_agree 2 = .ok (.getfield 21, 3) := by decide +kernel
theorem dX4_agree_5 : decode cX4_agree 5 = .ok (.getfield 178, 3) := by decide +kernel
theorem dX4_agree_8 : decode cX4_agree 8 = .ok (.invokestatic 84, 3) := by decide +kernel
theorem dX4_agree_11 : decode cX4_agree 11 = .ok (.ifCond .eq 22, 3) := by decide +kernel
theorem dX4_agree_14 : decode cX4_agree 14 = .ok (.iload_n 2, 1) := by decide +kernel
theorem dX4_agree_15 : decode cX4_agree 15 = .ok (.aload_n 0, 1) := by decide +kernel
theorem dX4_agree_16 : decode cX4_agree 16 = .ok (.getfield 21, 3) := by decide +kernel
theorem dX4_agree_19 : decode cX4_agree 19 = .ok (.getfield 178, 3) := by decide +kernel
theorem dX4_agree_22 : decode cX4_agree 22 = .ok (.invokestatic 84, 3) := by decide +kernel
theorem dX4_agree_25 : decode cX4_agree 25 = .ok (.ifCond .eq 8, 3) := by decide +kernel
theorem dX4_agree_28 : decode cX4_agree 28 = .ok (.iload_n 1, 1) := by decide +kernel
theorem dX4_agree_29 : decode cX4_agree 29 = .ok (.iload_n 2, 1) := by decide +kernel
theorem dX4_agree_30 : decode cX4_agree 30 = .ok (.if_icmp .ne 6, 3) := by decide +kernel
theorem dX4_agree_33 : decode cX4_agree 33 = .ok (.bipush (-2), 2) := by decide +kernel
theorem dX4_agree_35 : decode cX4_agree 35 = .ok (.ireturn, 1) := by decide +kernel
theorem dX4_agree_36 : decode cX4_agree 36 = .ok (.iload_n 3, 1) := by decide +kernel
theorem dX4_agree_37 : decode cX4_agree 37 = .ok (.invokestatic 117, 3) := by decide +kernel
theorem dX4_agree_40 : decode cX4_agree 40 = .ok (.ifCond .eq 12, 3) := by decide +kernel
theorem dX4_agree_43 : decode cX4_agree 43 = .ok (.iload 4, 2) := by decide +kernel
theorem dX4_agree_45 : decode cX4_agree 45 = .ok (.iconst 2, 1) := by decide +kernel
theorem dX4_agree_46 : decode cX4_agree 46 = .ok (.invokestatic 84, 3) := by decide +kernel
theorem dX4_agree_49 : decode cX4_agree 49 = .ok (.ifCond .ne 6, 3) := by decide +kernel
theorem dX4_agree_52 : decode cX4_agree 52 = .ok (.bipush (-2), 2) := by decide +kernel
theorem dX4_agree_54 : decode cX4_agree 54 = .ok (.ireturn, 1) := by decide +kernel
theorem dX4_agree_55 : decode cX4_agree 55 = .ok (.aload_n 0, 1) := by decide +kernel
theorem dX4_agree_56 : decode cX4_agree 56 = .ok (.getfield 21, 3) := by decide +kernel
theorem dX4_agree_59 : decode cX4_agree 59 = .ok (.iload_n 1, 1) := by decide +kernel
theorem dX4_agree_60 : decode cX4_agree 60 = .ok (.iconst 1, 1) := by decide +kernel
theorem dX4_agree_61 : decode cX4_agree 61 = .ok (.invokevirtual 181, 3) := by decide +kernel
theorem dX4_agree_64 : decode cX4_agree 64 = .ok (.istore 5, 2) := by decide +kernel
theorem dX4_agree_66 : decode cX4_agree 66 = .ok (.aload_n 0, 1) := by decide +kernel
theorem dX4_agree_67 : decode cX4_agree 67 = .ok (.getfield 21, 3) := by decide +kernel
theorem dX4_agree_70 : decode cX4_agree 70 = .ok (.iload_n 2, 1) := by decide +kernel
theorem dX4_agree_71 : decode cX4_agree 71 = .ok (.iconst 1, 1) := by decide +kernel
theorem dX4_agree_72 : decode cX4_agree 72 = .ok (.invokevirtual 181, 3) := by decide +kernel
theorem dX4_agree_75 : decode cX4_agree 75 = .ok (.istore 6, 2) := by decide +kernel
theorem dX4_agree_77 : decode cX4_agree 77 = .ok (.aload_n 0, 1) := by decide +kernel
theorem dX4_agree_78 : decode cX4_agree 78 = .ok (.iload_n 1, 1) := by decide +kernel
theorem dX4_agree_79 : decode cX4_agree 79 = .ok (.iload_n 3, 1) := by decide +kernel
theorem dX4_agree_80 : decode cX4_agree 80 = .ok (.aload_n 0, 1) := by decide +kernel
theorem dX4_agree_81 : decode cX4_agree 81 = .ok (.getfield 21, 3) := by decide +kernel
theorem dX4_agree_84 : decode cX4_agree 84 = .ok (.iload_n 2, 1) := by decide +kernel
theorem dX4_agree_85 : decode cX4_agree 85 = .ok (.iconst 2, 1) := by decide +kernel
theorem dX4_agree_86 : decode cX4_agree 86 = .ok (.invokevirtual 181, 3) := by decide +kernel
theorem dX4_agree_89 : decode cX4_agree 89 = .ok (.invokestatic 185, 3) := by decide +kernel
theorem dX4_agree_92 : decode cX4_agree 92 = .ok (.invokevirtual 190, 3) := by decide +kernel
theorem dX4_agree_95 : decode cX4_agree 95 = .ok (.istore 7, 2) := by decide +kernel
theorem dX4_agree_97 : decode cX4_agree 97 = .ok (.iconst 0, 1) := by decide +kernel
theorem dX4_agree_98 : decode cX4_agree 98 = .ok (.istore 8, 2) := by decide +kernel
theorem dX4_agree_100 : decode cX4_agree 100 = .ok (.iload 8, 2) := by decide +kernel
theorem dX4_agree_102 : decode cX4_agree 102 = .ok (.iload 6, 2) := by decide +kernel
theorem dX4_agree_104 : decode cX4_agree 104 = .ok (.if_icmp .ge 53, 3) := by decide +kernel
theorem dX4_agree_107 : decode cX4_agree 107 = .ok (.iload 7, 2) := by decide +kernel
theorem dX4_agree_109 : decode cX4_agree 109 = .ok (.aload_n 0, 1) := by decide +kernel
theorem dX4_agree_110 : decode cX4_agree 110 = .ok (.getfield 21, 3) := by decide +kernel
theorem dX4_agree_113 : decode cX4_agree 113 = .ok (.iload_n 2, 1) := by decide +kernel
theorem dX4_agree_114 : decode cX4_agree 114 = .ok (.iconst 2, 1) := by decide +kernel
theorem dX4_agree_115 : decode cX4_agree 115 = .ok (.invokevirtual 181, 3) := by decide +kernel
theorem dX4_agree_118 : decode cX4_agree 118 = .ok (.iload 6, 2) := by decide +kernel
theorem dX4_agree_120 : decode cX4_agree 120 = .ok (.invokestatic 193, 3) := by decide +kernel
theorem dX4_agree_123 : decode cX4_agree 123 = .ok (.ifCond .eq 21, 3) := by decide +kernel
theorem dX4_agree_126 : decode cX4_agree 126 = .ok (.iload 4, 2) := by decide +kernel
theorem dX4_agree_128 : decode cX4_agree 128 = .ok (.ifCond .ne 8, 3) := by decide +kernel
theorem dX4_agree_131 : decode cX4_agree 131 = .ok (.iload 7, 2) := by decide +kernel
theorem dX4_agree_133 : decode cX4_agree 133 = .ok (.goto 10, 3) := by decide +kernel
theorem dX4_agree_136 : decode cX4_agree 136 = .ok (.iload 5, 2) := by decide +kernel
theorem dX4_agree_138 : decode cX4_agree 138 = .ok (.iload 6, 2) := by decide +kernel
theorem dX4_agree_140 : decode cX4_agree 140 = .ok (.invokestatic 196, 3) := by decide +kernel
theorem dX4_agree_143 : decode cX4_agree 143 = .ok (.ireturn, 1) := by decide +kernel
theorem dX4_agree_144 : decode cX4_agree 144 = .ok (.iload 7, 2) := by decide +kernel
theorem dX4_agree_146 : decode cX4_agree 146 = .ok (.iload 5, 2) := by decide +kernel
theorem dX4_agree_148 : decode cX4_agree 148 = .ok (.iadd, 1) := by decide +kernel
theorem dX4_agree_149 : decode cX4_agree 149 = .ok (.istore 7, 2) := by decide +kernel
theorem dX4_agree_151 : decode cX4_agree 151 = .ok (.iinc 8 1, 3) := by decide +kernel
theorem dX4_agree_154 : decode cX4_agree 154 = .ok (.goto (-54), 3) := by decide +kernel
theorem dX4_agree_157 : decode cX4_agree 157 = .ok (.iconst (-1), 1) := by decide +kernel
theorem dX4_agree_158 : decode cX4_agree 158 = .ok (.ireturn, 1) := by decide +kernel
theorem dX4_run_0 : decode cX4_run 0 = .ok (.iload_n 1, 1) := by decide +kernel
theorem dX4_run_1 : decode cX4_run 1 = .ok (.iconst 1, 1) := by decide +kernel
theorem dX4_run_2 : decode cX4_run 2 = .ok (.bipush 9, 2) := by decide +kernel
theorem dX4_run_4 : decode cX4_run 4 = .ok (.invokestatic 109, 3) := by decide +kernel
theorem dX4_run_7 : decode cX4_run 7 = .ok (.ifCond .eq 11, 3) := by decide +kernel
theorem dX4_run_10 : decode cX4_run 10 = .ok (.iload_n 2, 1) := by decide +kernel
theorem dX4_run_11 : decode cX4_run 11 = .ok (.iconst 2, 1) := by decide +kernel
theorem dX4_run_12 : decode cX4_run 12 = .ok (.invokestatic 84, 3) := by decide +kernel
theorem dX4_run_15 : decode cX4_run 15 = .ok (.ifCond .ne 6, 3) := by decide +kernel
theorem dX4_run_18 : decode cX4_run 18 = .ok (.bipush (-2), 2) := by decide +kernel
theorem dX4_run_20 : decode cX4_run 20 = .ok (.ireturn, 1) := by decide +kernel
theorem dX4_run_21 : decode cX4_run 21 = .ok (.aload_n 0, 1) := by decide +kernel
theorem dX4_run_22 : decode cX4_run 22 = .ok (.invokevirtual 140, 3) := by decide +kernel
theorem dX4_run_25 : decode cX4_run 25 = .ok (.astore_n 3, 1) := by decide +kernel
theorem dX4_run_26 : decode cX4_run 26 = .ok (.iconst (-1), 1) := by decide +kernel
theorem dX4_run_27 : decode cX4_run 27 = .ok (.istore 4, 2) := by decide +kernel
theorem dX4_run_29 : decode cX4_run 29 = .ok (.iconst (-1), 1) := by decide +kernel
theorem dX4_run_30 : decode cX4_run 30 = .ok (.istore 5, 2) := by decide +kernel
theorem dX4_run_32 : decode cX4_run 32 = .ok (.iconst 1, 1) := by decide +kernel
theorem dX4_run_33 : decode cX4_run 33 = .ok (.istore 6, 2) := by decide +kernel
theorem dX4_run_35 : decode cX4_run 35 = .ok (.iload 6, 2) := by decide +kernel
theorem dX4_run_37 : decode cX4_run 37 = .ok (.iload_n 1, 1) := by decide +kernel
theorem dX4_run_38 : decode cX4_run 38 = .ok (.iadd, 1) := by decide +kernel
theorem dX4_run_39 : decode cX4_run 39 = .ok (.iconst 1, 1) := by decide +kernel
theorem dX4_run_40 : decode cX4_run 40 = .ok (.isub, 1) := by decide +kernel
theorem dX4_run_41 : decode cX4_run 41 = .ok (.aload_n 3, 1) := by decide +kernel
theorem dX4_run_42 : decode cX4_run 42 = .ok (.invokevirtual 199, 3) := by decide +kernel
theorem dX4_run_45 : decode cX4_run 45 = .ok (.if_icmp .gt 34, 3) := by decide +kernel
theorem dX4_run_48 : decode cX4_run 48 = .ok (.aload_n 0, 1) := by decide +kernel
theorem dX4_run_49 : decode cX4_run 49 = .ok (.aload_n 3, 1) := by decide +kernel
theorem dX4_run_50 : decode cX4_run 50 = .ok (.iload 6, 2) := by decide +kernel
theorem dX4_run_52 : decode cX4_run 52 = .ok (.iload_n 1, 1) := by decide +kernel
theorem dX4_run_53 : decode cX4_run 53 = .ok (.invokevirtual 203, 3) := by decide +kernel
theorem dX4_run_56 : decode cX4_run 56 = .ok (.istore 7, 2) := by decide +kernel
theorem dX4_run_58 : decode cX4_run 58 = .ok (.iload 7, 2) := by decide +kernel
theorem dX4_run_60 : decode cX4_run 60 = .ok (.iload 5, 2) := by decide +kernel
theorem dX4_run_62 : decode cX4_run 62 = .ok (.if_icmp .le 11, 3) := by decide +kernel
theorem dX4_run_65 : decode cX4_run 65 = .ok (.iload 7, 2) := by decide +kernel
theorem dX4_run_67 : decode cX4_run 67 = .ok (.istore 5, 2) := by decide +kernel
theorem dX4_run_69 : decode cX4_run 69 = .ok (.iload 6, 2) := by decide +kernel
theorem dX4_run_71 : decode cX4_run 71 = .ok (.istore 4, 2) := by decide +kernel
theorem dX4_run_73 : decode cX4_run 73 = .ok (.iinc 6 1, 3) := by decide +kernel
theorem dX4_run_76 : decode cX4_run 76 = .ok (.goto (-41), 3) := by decide +kernel
theorem dX4_run_79 : decode cX4_run 79 = .ok (.iload_n 2, 1) := by decide +kernel
theorem dX4_run_80 : decode cX4_run 80 = .ok (.ifCond .ne 8, 3) := by decide +kernel
theorem dX4_run_83 : decode cX4_run 83 = .ok (.iload 4, 2) := by decide +kernel
theorem dX4_run_85 : decode cX4_run 85 = .ok (.goto 5, 3) := by decide +kernel
theorem dX4_run_88 : decode cX4_run 88 = .ok (.iload 5, 2) := by decide +kernel
theorem dX4_run_90 : decode cX4_run 90 = .ok (.ireturn, 1) := by decide +kernel
theorem dX4_bar_0 : decode cX4_bar 0 = .ok (.iload_n 1, 1) := by decide +kernel
theorem dX4_bar_1 : decode cX4_bar 1 = .ok (.iconst 0, 1) := by decide +kernel
theorem dX4_bar_2 : decode cX4_bar 2 = .ok (.sipush 240, 3) := by decide +kernel
theorem dX4_bar_5 : decode cX4_bar 5 = .ok (.invokestatic 109, 3) := by decide +kernel
theorem dX4_bar_8 : decode cX4_bar 8 = .ok (.ifCond .ne 6, 3) := by decide +kernel
theorem dX4_bar_11 : decode cX4_bar 11 = .ok (.bipush (-2), 2) := by decide +kernel
theorem dX4_bar_13 : decode cX4_bar 13 = .ok (.ireturn, 1) := by decide +kernel
theorem dX4_bar_14 : decode cX4_bar 14 = .ok (.aload_n 0, 1) := by decide +kernel
theorem dX4_bar_15 : decode cX4_bar 15 = .ok (.invokevirtual 140, 3) := by decide +kernel
theorem dX4_bar_18 : decode cX4_bar 18 = .ok (.astore_n 2, 1) := by decide +kernel
theorem dX4_bar_19 : decode cX4_bar 19 = .ok (.iconst 0, 1) := by decide +kernel
theorem dX4_bar_20 : decode cX4_bar 20 = .ok (.istore_n 3, 1) := by decide +kernel
theorem dX4_bar_21 : decode cX4_bar 21 = .ok (.iload_n 3, 1) := by decide +kernel
theorem dX4_bar_22 : decode cX4_bar 22 = .ok (.bipush 55, 2) := by decide +kernel
theorem dX4_bar_24 : decode cX4_bar 24 = .ok (.if_icmp .ge 20, 3) := by decide +kernel
theorem dX4_bar_27 : decode cX4_bar 27 = .ok (.aload_n 2, 1) := by decide +kernel
theorem dX4_bar_28 : decode cX4_bar 28 = .ok (.iload_n 3, 1) := by decide +kernel
theorem dX4_bar_29 : decode cX4_bar 29 = .ok (.invokevirtual 207, 3) := by decide +kernel
theorem dX4_bar_32 : decode cX4_bar 32 = .ok (.iload_n 1, 1) := by decide +kernel
theorem dX4_bar_33 : decode cX4_bar 33 = .ok (.if_icmp .gt 5, 3) := by decide +kernel
theorem dX4_bar_36 : decode cX4_bar 36 = .ok (.iload_n 3, 1) := by decide +kernel
theorem dX4_bar_37 : decode cX4_bar 37 = .ok (.ireturn, 1) := by decide +kernel
theorem dX4_bar_38 : decode cX4_bar 38 = .ok (.iinc 3 1, 3) := by decide +kernel
theorem dX4_bar_41 : decode cX4_bar 41 = .ok (.goto (-20), 3) := by decide +kernel
theorem dX4_bar_44 : decode cX4_bar 44 = .ok (.bipush 55, 2) := by decide +kernel
theorem dX4_bar_46 : decode cX4_bar 46 = .ok (.ireturn, 1) := by decide +kernel
theorem dX4_earn_0 : decode cX4_earn 0 = .ok (.iload_n 1, 1) := by decide +kernel
theorem dX4_earn_1 : decode cX4_earn 1 = .ok (.bipush 8, 2) := by decide +kernel
theorem dX4_earn_3 : decode cX4_earn 3 = .ok (.invokestatic 84, 3) := by decide +kernel
theorem dX4_earn_6 : decode cX4_earn 6 = .ok (.ifCond .eq 11, 3) := by decide +kernel
theorem dX4_earn_9 : decode cX4_earn 9 = .ok (.iload_n 2, 1) := by decide +kernel
theorem dX4_earn_10 : decode cX4_earn 10 = .ok (.iconst 2, 1) := by decide +kernel
theorem dX4_earn_11 : decode cX4_earn 11 = .ok (.invokestatic 84, 3) := by decide +kernel
theorem dX4_earn_14 : decode cX4_earn 14 = .ok (.ifCond .ne 6, 3) := by decide +kernel
theorem dX4_earn_17 : decode cX4_earn 17 = .ok (.bipush (-2), 2) := by decide +kernel
theorem dX4_earn_19 : decode cX4_earn 19 = .ok (.ireturn, 1) := by decide +kernel
theorem dX4_earn_20 : decode cX4_earn 20 = .ok (.aload_n 0, 1) := by decide +kernel
theorem dX4_earn_21 : decode cX4_earn 21 = .ok (.invokevirtual 140, 3) := by decide +kernel
theorem dX4_earn_24 : decode cX4_earn 24 = .ok (.astore_n 3, 1) := by decide +kernel
theorem dX4_earn_25 : decode cX4_earn 25 = .ok (.iconst (-1), 1) := by decide +kernel
theorem dX4_earn_26 : decode cX4_earn 26 = .ok (.istore 4, 2) := by decide +kernel
theorem dX4_earn_28 : decode cX4_earn 28 = .ok (.iconst 0, 1) := by decide +kernel
theorem dX4_earn_29 : decode cX4_earn 29 = .ok (.istore 5, 2) := by decide +kernel
theorem dX4_earn_31 : decode cX4_earn 31 = .ok (.iconst 1, 1) := by decide +kernel
theorem dX4_earn_32 : decode cX4_earn 32 = .ok (.istore 6, 2) := by decide +kernel
theorem dX4_earn_34 : decode cX4_earn 34 = .ok (.iload 6, 2) := by decide +kernel
theorem dX4_earn_36 : decode cX4_earn 36 = .ok (.sipush 400, 3) := by decide +kernel
theorem dX4_earn_39 : decode cX4_earn 39 = .ok (.if_icmp .gt 46, 3) := by decide +kernel
theorem dX4_earn_42 : decode cX4_earn 42 = .ok (.aload_n 0, 1) := by decide +kernel
theorem dX4_earn_43 : decode cX4_earn 43 = .ok (.getfield 46, 3) := by decide +kernel
theorem dX4_earn_46 : decode cX4_earn 46 = .ok (.iload 6, 2) := by decide +kernel
theorem dX4_earn_48 : decode cX4_earn 48 = .ok (.invokevirtual 175, 3) := by decide +kernel
theorem dX4_earn_51 : decode cX4_earn 51 = .ok (.iconst (-1), 1) := by decide +kernel
theorem dX4_earn_52 : decode cX4_earn 52 = .ok (.if_icmp .ne 27, 3) := by decide +kernel
theorem dX4_earn_55 : decode cX4_earn 55 = .ok (.aload_n 0, 1) := by decide +kernel
theorem dX4_earn_56 : decode cX4_earn 56 = .ok (.aload_n 3, 1) := by decide +kernel
theorem dX4_earn_57 : decode cX4_earn 57 = .ok (.iload 6, 2) := by decide +kernel
theorem dX4_earn_59 : decode cX4_earn 59 = .ok (.invokevirtual 210, 3) := by decide +kernel
theorem dX4_earn_62 : decode cX4_earn 62 = .ok (.istore 7, 2) := by decide +kernel
theorem dX4_earn_64 : decode cX4_earn 64 = .ok (.iload 7, 2) := by decide +kernel
theorem dX4_earn_66 : decode cX4_earn 66 = .ok (.iload 5, 2) := by decide +kernel
theorem dX4_earn_68 : decode cX4_earn 68 = .ok (.if_icmp .le 11, 3) := by decide +kernel
theorem dX4_earn_71 : decode cX4_earn 71 = .ok (.iload 7, 2) := by decide +kernel
theorem dX4_earn_73 : decode cX4_earn 73 = .ok (.istore 5, 2) := by decide +kernel
theorem dX4_earn_75 : decode cX4_earn 75 = .ok (.iload 6, 2) := by decide +kernel
theorem dX4_earn_77 : decode cX4_earn 77 = .ok (.istore 4, 2) := by decide +kernel
theorem dX4_earn_79 : decode cX4_earn 79 = .ok (.iinc 6 1, 3) := by decide +kernel
theorem dX4_earn_82 : decode cX4_earn 82 = .ok (.goto (-48), 3) := by decide +kernel
theorem dX4_earn_85 : decode cX4_earn 85 = .ok (.iload 4, 2) := by decide +kernel
theorem dX4_earn_87 : decode cX4_earn 87 = .ok (.iconst (-1), 1) := by decide +kernel
theorem dX4_earn_88 : decode cX4_earn 88 = .ok (.if_icmp .ne 5, 3) := by decide +kernel
theorem dX4_earn_91 : decode cX4_earn 91 = .ok (.iconst (-1), 1) := by decide +kernel
theorem dX4_earn_92 : decode cX4_earn 92 = .ok (.ireturn, 1) := by decide +kernel
theorem dX4_earn_93 : decode cX4_earn 93 = .ok (.iload_n 2, 1) := by decide +kernel
theorem dX4_earn_94 : decode cX4_earn 94 = .ok (.ifCond .ne 8, 3) := by decide +kernel
theorem dX4_earn_97 : decode cX4_earn 97 = .ok (.iload 4, 2) := by decide +kernel
theorem dX4_earn_99 : decode cX4_earn 99 = .ok (.goto 12, 3) := by decide +kernel
theorem dX4_earn_102 : decode cX4_earn 102 = .ok (.aload_n 0, 1) := by decide +kernel
theorem dX4_earn_103 : decode cX4_earn 103 = .ok (.aload_n 3, 1) := by decide +kernel
theorem dX4_earn_104 : decode cX4_earn 104 = .ok (.iload_n 1, 1) := by decide +kernel
theorem dX4_earn_105 : decode cX4_earn 105 = .ok (.invokevirtual 168, 3) := by decide +kernel
theorem dX4_earn_108 : decode cX4_earn 108 = .ok (.iload 5, 2) := by decide +kernel
theorem dX4_earn_110 : decode cX4_earn 110 = .ok (.iadd, 1) := by decide +kernel
theorem dX4_earn_111 : decode cX4_earn 111 = .ok (.ireturn, 1) := by decide +kernel
theorem dX4_heard_0 : decode cX4_heard 0 = .ok (.iload_n 1, 1) := by decide +kernel
theorem dX4_heard_1 : decode cX4_heard 1 = .ok (.invokestatic 117, 3) := by decide +kernel
theorem dX4_heard_4 : decode cX4_heard 4 = .ok (.ifCond .eq 14, 3) := by decide +kernel
theorem dX4_heard_7 : decode cX4_heard 7 = .ok (.iload_n 2, 1) := by decide +kernel
theorem dX4_heard_8 : decode cX4_heard 8 = .ok (.iconst 0, 1) := by decide +kernel
theorem dX4_heard_9 : decode cX4_heard 9 = .ok (.sipush 400, 3) := by decide +kernel
theorem dX4_heard_12 : decode cX4_heard 12 = .ok (.invokestatic 109, 3) := by decide +kernel
theorem dX4_heard_15 : decode cX4_heard 15 = .ok (.ifCond .ne 6, 3) := by decide +kernel
theorem dX4_heard_18 : decode cX4_heard 18 = .ok (.bipush (-2), 2) := by decide +kernel
theorem dX4_heard_20 : decode cX4_heard 20 = .ok (.ireturn, 1) := by decide +kernel
theorem dX4_heard_21 : decode cX4_heard 21 = .ok (.aload_n 0, 1) := by decide +kernel
theorem dX4_heard_22 : decode cX4_heard 22 = .ok (.getfield 49, 3) := by decide +kernel
theorem dX4_heard_25 : decode cX4_heard 25 = .ok (.iload_n 1, 1) := by decide +kernel
theorem dX4_heard_26 : decode cX4_heard 26 = .ok (.iload_n 2, 1) := by decide +kernel
theorem dX4_heard_27 : decode cX4_heard 27 = .ok (.invokevirtual 138, 3) := by decide +kernel
theorem dX4_heard_30 : decode cX4_heard 30 = .ok (.ifCond .eq 13, 3) := by decide +kernel
theorem dX4_heard_33 : decode cX4_heard 33 = .ok (.aload_n 0, 1) := by decide +kernel
theorem dX4_heard_34 : decode cX4_heard 34 = .ok (.getfield 49, 3) := by decide +kernel
theorem dX4_heard_37 : decode cX4_heard 37 = .ok (.getfield 127, 3) := by decide +kernel
theorem dX4_heard_40 : decode cX4_heard 40 = .ok (.goto 5, 3) := by decide +kernel
theorem dX4_heard_43 : decode cX4_heard 43 = .ok (.bipush (-4), 2) := by decide +kernel
theorem dX4_heard_45 : decode cX4_heard 45 = .ok (.ireturn, 1) := by decide +kernel
theorem dX4_forget_0 : decode cX4_forget 0 = .ok (.aload_n 0, 1) := by decide +kernel
theorem dX4_forget_1 : decode cX4_forget 1 = .ok (.getfield 49, 3) := by decide +kernel
theorem dX4_forget_4 : decode cX4_forget 4 = .ok (.getfield 127, 3) := by decide +kernel
theorem dX4_forget_7 : decode cX4_forget 7 = .ok (.istore_n 1, 1) := by decide +kernel
theorem dX4_forget_8 : decode cX4_forget 8 = .ok (.aload_n 0, 1) := by decide +kernel
theorem dX4_forget_9 : decode cX4_forget 9 = .ok (.getfield 49, 3) := by decide +kernel
theorem dX4_forget_12 : decode cX4_forget 12 = .ok (.iconst 0, 1) := by decide +kernel
theorem dX4_forget_13 : decode cX4_forget 13 = .ok (.putfield 127, 3) := by decide +kernel
theorem dX4_forget_16 : decode cX4_forget 16 = .ok (.iload_n 1, 1) := by decide +kernel
theorem dX4_forget_17 : decode cX4_forget 17 = .ok (.ireturn, 1) := by decide +kernel
theorem dX4_skipped_0 : decode cX4_skipped 0 = .ok (.iload_n 1, 1) := by decide +kernel
theorem dX4_skipped_1 : decode cX4_skipped 1 = .ok (.iconst 1, 1) := by decide +kernel
theorem dX4_skipped_2 : decode cX4_skipped 2 = .ok (.bipush 11, 2) := by decide +kernel
theorem dX4_skipped_4 : decode cX4_skipped 4 = .ok (.invokestatic 109, 3) := by decide +kernel
theorem dX4_skipped_7 : decode cX4_skipped 7 = .ok (.ifCond .ne 6, 3) := by decide +kernel
theorem dX4_skipped_10 : decode cX4_skipped 10 = .ok (.bipush (-2), 2) := by decide +kernel
theorem dX4_skipped_12 : decode cX4_skipped 12 = .ok (.ireturn, 1) := by decide +kernel
theorem dX4_skipped_13 : decode cX4_skipped 13 = .ok (.aload_n 0, 1) := by decide +kernel
theorem dX4_skipped_14 : decode cX4_skipped 14 = .ok (.invokevirtual 140, 3) := by decide +kernel
theorem dX4_skipped_17 : decode cX4_skipped 17 = .ok (.astore_n 2, 1) := by decide +kernel
theorem dX4_skipped_18 : decode cX4_skipped 18 = .ok (.iconst 0, 1) := by decide +kernel
theorem dX4_skipped_19 : decode cX4_skipped 19 = .ok (.istore_n 3, 1) := by decide +kernel
theorem dX4_skipped_20 : decode cX4_skipped 20 = .ok (.iconst 1, 1) := by decide +kernel
theorem dX4_skipped_21 : decode cX4_skipped 21 = .ok (.istore 4, 2) := by decide +kernel
theorem dX4_skipped_23 : decode cX4_skipped 23 = .ok (.iload 4, 2) := by decide +kernel
theorem dX4_skipped_25 : decode cX4_skipped 25 = .ok (.bipush 31, 2) := by decide +kernel
theorem dX4_skipped_27 : decode cX4_skipped 27 = .ok (.if_icmp .gt 29, 3) := by decide +kernel
theorem dX4_skipped_30 : decode cX4_skipped 30 = .ok (.aload_n 0, 1) := by decide +kernel
theorem dX4_skipped_31 : decode cX4_skipped 31 = .ok (.aload_n 2, 1) := by decide +kernel
theorem dX4_skipped_32 : decode cX4_skipped 32 = .ok (.iload 4, 2) := by decide +kernel
theorem dX4_skipped_34 : decode cX4_skipped 34 = .ok (.iload_n 1, 1) := by decide +kernel
theorem dX4_skipped_35 : decode cX4_skipped 35 = .ok (.invokevirtual 213, 3) := by decide +kernel
theorem dX4_skipped_38 : decode cX4_skipped 38 = .ok (.ifCond .eq 12, 3) := by decide +kernel
theorem dX4_skipped_41 : decode cX4_skipped 41 = .ok (.iload_n 3, 1) := by decide +kernel
theorem dX4_skipped_42 : decode cX4_skipped 42 = .ok (.iconst 1, 1) := by decide +kernel
theorem dX4_skipped_43 : decode cX4_skipped 43 = .ok (.iload 4, 2) := by decide +kernel
theorem dX4_skipped_45 : decode cX4_skipped 45 = .ok (.iconst 1, 1) := by decide +kernel
theorem dX4_skipped_46 : decode cX4_skipped 46 = .ok (.isub, 1) := by decide +kernel
theorem dX4_skipped_47 : decode cX4_skipped 47 = .ok (.ishl, 1) := by decide +kernel
theorem dX4_skipped_48 : decode cX4_skipped 48 = .ok (.ior, 1) := by decide +kernel
theorem dX4_skipped_49 : decode cX4_skipped 49 = .ok (.istore_n 3, 1) := by decide +kernel
theorem dX4_skipped_50 : decode cX4_skipped 50 = .ok (.iinc 4 1, 3) := by decide +kernel
theorem dX4_skipped_53 : decode cX4_skipped 53 = .ok (.goto (-30), 3) := by decide +kernel
theorem dX4_skipped_56 : decode cX4_skipped 56 = .ok (.iload_n 3, 1) := by decide +kernel
theorem dX4_skipped_57 : decode cX4_skipped 57 = .ok (.ireturn, 1) := by decide +kernel
theorem dX4_voids_0 : decode cX4_voids 0 = .ok (.iload_n 1, 1) := by decide +kernel
theorem dX4_voids_1 : decode cX4_voids 1 = .ok (.iconst (-1), 1) := by decide +kernel
theorem dX4_voids_2 : decode cX4_voids 2 = .ok (.sipush 239, 3) := by decide +kernel
theorem dX4_voids_5 : decode cX4_voids 5 = .ok (.invokestatic 109, 3) := by decide +kernel
theorem dX4_voids_8 : decode cX4_voids 8 = .ok (.ifCond .ne 6, 3) := by decide +kernel
theorem dX4_voids_11 : decode cX4_voids 11 = .ok (.bipush (-2), 2) := by decide +kernel
theorem dX4_voids_13 : decode cX4_voids 13 = .ok (.ireturn, 1) := by decide +kernel
theorem dX4_voids_14 : decode cX4_voids 14 = .ok (.aload_n 0, 1) := by decide +kernel
theorem dX4_voids_15 : decode cX4_voids 15 = .ok (.invokevirtual 140, 3) := by decide +kernel
theorem dX4_voids_18 : decode cX4_voids 18 = .ok (.astore_n 2, 1) := by decide +kernel
theorem dX4_voids_19 : decode cX4_voids 19 = .ok (.iconst 0, 1) := by decide +kernel
theorem dX4_voids_20 : decode cX4_voids 20 = .ok (.istore_n 3, 1) := by decide +kernel
theorem dX4_voids_21 : decode cX4_voids 21 = .ok (.iconst 0, 1) := by decide +kernel
theorem dX4_voids_22 : decode cX4_voids 22 = .ok (.istore 4, 2) := by decide +kernel
theorem dX4_voids_24 : decode cX4_voids 24 = .ok (.iload 4, 2) := by decide +kernel
theorem dX4_voids_26 : decode cX4_voids 26 = .ok (.sipush 240, 3) := by decide +kernel
theorem dX4_voids_29 : decode cX4_voids 29 = .ok (.if_icmp .ge 30, 3) := by decide +kernel
theorem dX4_voids_32 : decode cX4_voids 32 = .ok (.aload_n 0, 1) := by decide +kernel
theorem dX4_voids_33 : decode cX4_voids 33 = .ok (.aload_n 2, 1) := by decide +kernel
theorem dX4_voids_34 : decode cX4_voids 34 = .ok (.iload 4, 2) := by decide +kernel
theorem dX4_voids_36 : decode cX4_voids 36 = .ok (.invokevirtual 217, 3) := by decide +kernel
theorem dX4_voids_39 : decode cX4_voids 39 = .ok (.ifCond .eq 14, 3) := by decide +kernel
theorem dX4_voids_42 : decode cX4_voids 42 = .ok (.iload_n 3, 1) := by decide +kernel
theorem dX4_voids_43 : decode cX4_voids 43 = .ok (.iload_n 1, 1) := by decide +kernel
theorem dX4_voids_44 : decode cX4_voids 44 = .ok (.if_icmp .ne 6, 3) := by decide +kernel
theorem dX4_voids_47 : decode cX4_voids 47 = .ok (.iload 4, 2) := by decide +kernel
theorem dX4_voids_49 : decode cX4_voids 49 = .ok (.ireturn, 1) := by decide +kernel
theorem dX4_voids_50 : decode cX4_voids 50 = .ok (.iinc 3 1, 3) := by decide +kernel
theorem dX4_voids_53 : decode cX4_voids 53 = .ok (.iinc 4 1, 3) := by decide +kernel
theorem dX4_voids_56 : decode cX4_voids 56 = .ok (.goto (-32), 3) := by decide +kernel
theorem dX4_voids_59 : decode cX4_voids 59 = .ok (.iload_n 1, 1) := by decide +kernel
theorem dX4_voids_60 : decode cX4_voids 60 = .ok (.iconst (-1), 1) := by decide +kernel
theorem dX4_voids_61 : decode cX4_voids 61 = .ok (.if_icmp .ne 7, 3) := by decide +kernel
theorem dX4_voids_64 : decode cX4_voids 64 = .ok (.iload_n 3, 1) := by decide +kernel
theorem dX4_voids_65 : decode cX4_voids 65 = .ok (.goto 4, 3) := by decide +kernel
theorem dX4_voids_68 : decode cX4_voids 68 = .ok (.iconst (-1), 1) := by decide +kernel
theorem dX4_voids_69 : decode cX4_voids 69 = .ok (.ireturn, 1) := by decide +kernel
theorem dX4_often_0 : decode cX4_often 0 = .ok (.iload_n 1, 1) := by decide +kernel
theorem dX4_often_1 : decode cX4_often 1 = .ok (.aload_n 0, 1) := by decide +kernel
theorem dX4_often_2 : decode cX4_often 2 = .ok (.getfield 21, 3) := by decide +kernel
theorem dX4_often_5 : decode cX4_often 5 = .ok (.getfield 178, 3) := by decide +kernel
theorem dX4_often_8 : decode cX4_often 8 = .ok (.invokestatic 84, 3) := by decide +kernel
theorem dX4_often_11 : decode cX4_often 11 = .ok (.ifCond .eq 13, 3) := by decide +kernel
theorem dX4_often_14 : decode cX4_often 14 = .ok (.iload_n 2, 1) := by decide +kernel
theorem dX4_often_15 : decode cX4_often 15 = .ok (.iconst (-1), 1) := by decide +kernel
theorem dX4_often_16 : decode cX4_often 16 = .ok (.bipush 97, 2) := by decide +kernel
theorem dX4_often_18 : decode cX4_often 18 = .ok (.invokestatic 109, 3) := by decide +kernel
theorem dX4_often_21 : decode cX4_often 21 = .ok (.ifCond .ne 6, 3) := by decide +kernel
theorem dX4_often_24 : decode cX4_often 24 = .ok (.bipush (-2), 2) := by decide +kernel
theorem dX4_often_26 : decode cX4_often 26 = .ok (.ireturn, 1) := by decide +kernel
theorem dX4_often_27 : decode cX4_often 27 = .ok (.aload_n 0, 1) := by decide +kernel
theorem dX4_often_28 : decode cX4_often 28 = .ok (.invokevirtual 140, 3) := by decide +kernel
theorem dX4_often_31 : decode cX4_often 31 = .ok (.astore_n 3, 1) := by decide +kernel
theorem dX4_often_32 : decode cX4_often 32 = .ok (.aload_n 0, 1) := by decide +kernel
theorem dX4_often_33 : decode cX4_often 33 = .ok (.invokevirtual 221, 3) := by decide +kernel
theorem dX4_often_36 : decode cX4_often 36 = .ok (.istore 4, 2) := by decide +kernel
theorem dX4_often_38 : decode cX4_often 38 = .ok (.iconst 0, 1) := by decide +kernel
theorem dX4_often_39 : decode cX4_often 39 = .ok (.istore 5, 2) := by decide +kernel
theorem dX4_often_41 : decode cX4_often 41 = .ok (.iconst 2, 1) := by decide +kernel
theorem dX4_often_42 : decode cX4_often 42 = .ok (.istore 6, 2) := by decide +kernel
theorem dX4_often_44 : decode cX4_often 44 = .ok (.iload 6, 2) := by decide +kernel
theorem dX4_often_46 : decode cX4_often 46 = .ok (.bipush 99, 2) := by decide +kernel
theorem dX4_often_48 : decode cX4_often 48 = .ok (.if_icmp .gt 34, 3) := by decide +kernel
theorem dX4_often_51 : decode cX4_often 51 = .ok (.aload_n 0, 1) := by decide +kernel
theorem dX4_often_52 : decode cX4_often 52 = .ok (.aload_n 3, 1) := by decide +kernel
theorem dX4_often_53 : decode cX4_often 53 = .ok (.iload_n 1, 1) := by decide +kernel
theorem dX4_often_54 : decode cX4_often 54 = .ok (.iload 6, 2) := by decide +kernel
theorem dX4_often_56 : decode cX4_often 56 = .ok (.iload 4, 2) := by decide +kernel
theorem dX4_often_58 : decode cX4_often 58 = .ok (.invokevirtual 224, 3) := by decide +kernel
theorem dX4_often_61 : decode cX4_often 61 = .ok (.ifCond .eq 15, 3) := by decide +kernel
theorem dX4_often_64 : decode cX4_often 64 = .ok (.iload 5, 2) := by decide +kernel
theorem dX4_often_66 : decode cX4_often 66 = .ok (.iload_n 2, 1) := by decide +kernel
theorem dX4_often_67 : decode cX4_often 67 = .ok (.if_icmp .ne 6, 3) := by decide +kernel
theorem dX4_often_70 : decode cX4_often 70 = .ok (.iload 6, 2) := by decide +kernel
theorem dX4_often_72 : decode cX4_often 72 = .ok (.ireturn, 1) := by decide +kernel
theorem dX4_often_73 : decode cX4_often 73 = .ok (.iinc 5 1, 3) := by decide +kernel
theorem dX4_often_76 : decode cX4_often 76 = .ok (.iinc 6 1, 3) := by decide +kernel
theorem dX4_often_79 : decode cX4_often 79 = .ok (.goto (-35), 3) := by decide +kernel
theorem dX4_often_82 : decode cX4_often 82 = .ok (.iload_n 2, 1) := by decide +kernel
theorem dX4_often_83 : decode cX4_often 83 = .ok (.iconst (-1), 1) := by decide +kernel
theorem dX4_often_84 : decode cX4_often 84 = .ok (.if_icmp .ne 8, 3) := by decide +kernel
theorem dX4_often_87 : decode cX4_often 87 = .ok (.iload 5, 2) := by decide +kernel
theorem dX4_often_89 : decode cX4_often 89 = .ok (.goto 4, 3) := by decide +kernel
theorem dX4_often_92 : decode cX4_often 92 = .ok (.iconst (-1), 1) := by decide +kernel
theorem dX4_often_93 : decode cX4_often 93 = .ok (.ireturn, 1) := by decide +kernel
theorem dX4_hoarse_0 : decode cX4_hoarse 0 = .ok (.iload_n 1, 1) := by decide +kernel
theorem dX4_hoarse_1 : decode cX4_hoarse 1 = .ok (.iconst 0, 1) := by decide +kernel
theorem dX4_hoarse_2 : decode cX4_hoarse 2 = .ok (.bipush 16, 2) := by decide +kernel
theorem dX4_hoarse_4 : decode cX4_hoarse 4 = .ok (.invokestatic 109, 3) := by decide +kernel
theorem dX4_hoarse_7 : decode cX4_hoarse 7 = .ok (.ifCond .eq 21, 3) := by decide +kernel
theorem dX4_hoarse_10 : decode cX4_hoarse 10 = .ok (.iload_n 2, 1) := by decide +kernel
theorem dX4_hoarse_11 : decode cX4_hoarse 11 = .ok (.iconst 1, 1) := by decide +kernel
theorem dX4_hoarse_12 : decode cX4_hoarse 12 = .ok (.bipush 12, 2) := by decide +kernel
theorem dX4_hoarse_14 : decode cX4_hoarse 14 = .ok (.invokestatic 109, 3) := by decide +kernel
theorem dX4_hoarse_17 : decode cX4_hoarse 17 = .ok (.ifCond .eq 11, 3) := by decide +kernel
theorem dX4_hoarse_20 : decode cX4_hoarse 20 = .ok (.iload_n 3, 1) := by decide +kernel
theorem dX4_hoarse_21 : decode cX4_hoarse 21 = .ok (.iconst 2, 1) := by decide +kernel
theorem dX4_hoarse_22 : decode cX4_hoarse 22 = .ok (.invokestatic 84, 3) := by decide +kernel
theorem dX4_hoarse_25 : decode cX4_hoarse 25 = .ok (.ifCond .ne 7, 3) := by decide +kernel
theorem dX4_hoarse_28 : decode cX4_hoarse 28 = .ok (.ldc2_w 228, 3) := by decide +kernel
theorem dX4_hoarse_31 : decode cX4_hoarse 31 = .ok (.lreturn, 1) := by decide +kernel
theorem dX4_hoarse_32 : decode cX4_hoarse 32 = .ok (.aload_n 0, 1) := by decide +kernel
theorem dX4_hoarse_33 : decode cX4_hoarse 33 = .ok (.getfield 69, 3) := by decide +kernel
theorem dX4_hoarse_36 : decode cX4_hoarse 36 = .ok (.lconst 0, 1) := by decide +kernel
theorem dX4_hoarse_37 : decode cX4_hoarse 37 = .ok (.invokestatic 230, 3) := by decide +kernel
theorem dX4_hoarse_40 : decode cX4_hoarse 40 = .ok (.aload_n 0, 1) := by decide +kernel
theorem dX4_hoarse_41 : decode cX4_hoarse 41 = .ok (.getfield 69, 3) := by decide +kernel
theorem dX4_hoarse_44 : decode cX4_hoarse 44 = .ok (.iconst 0, 1) := by decide +kernel
theorem dX4_hoarse_45 : decode cX4_hoarse 45 = .ok (.lconst 1, 1) := by decide +kernel
theorem dX4_hoarse_46 : decode cX4_hoarse 46 = .ok (.lastore, 1) := by decide +kernel
theorem dX4_hoarse_47 : decode cX4_hoarse 47 = .ok (.lconst 0, 1) := by decide +kernel
theorem dX4_hoarse_48 : decode cX4_hoarse 48 = .ok (.lstore 4, 2) := by decide +kernel
theorem dX4_hoarse_50 : decode cX4_hoarse 50 = .ok (.lconst 1, 1) := by decide +kernel
theorem dX4_hoarse_51 : decode cX4_hoarse 51 = .ok (.lstore 6, 2) := by decide +kernel
theorem dX4_hoarse_53 : decode cX4_hoarse 53 = .ok (.iload_n 2, 1) := by decide +kernel
theorem dX4_hoarse_54 : decode cX4_hoarse 54 = .ok (.aload_n 0, 1) := by decide +kernel
theorem dX4_hoarse_55 : decode cX4_hoarse 55 = .ok (.invokevirtual 140, 3) := by decide +kernel
theorem dX4_hoarse_58 : decode cX4_hoarse 58 = .ok (.getfield 236, 3) := by decide +kernel
theorem dX4_hoarse_61 : decode cX4_hoarse 61 = .ok (.invokestatic 239, 3) := by decide +kernel
theorem dX4_hoarse_64 : decode cX4_hoarse 64 = .ok (.istore 8, 2) := by decide +kernel
theorem dX4_hoarse_66 : decode cX4_hoarse 66 = .ok (.iconst 0, 1) := by decide +kernel
theorem dX4_hoarse_67 : decode cX4_hoarse 67 = .ok (.istore 9, 2) := by decide +kernel
theorem dX4_hoarse_69 : decode cX4_hoarse 69 = .ok (.iload 9, 2) := by decide +kernel
theorem dX4_hoarse_71 : decode cX4_hoarse 71 = .ok (.iload 8, 2) := by decide +kernel
theorem dX4_hoarse_73 : decode cX4_hoarse 73 = .ok (.if_icmp .ge 37, 3) := by decide +kernel
theorem dX4_hoarse_76 : decode cX4_hoarse 76 = .ok (.aload_n 0, 1) := by decide +kernel
theorem dX4_hoarse_77 : decode cX4_hoarse 77 = .ok (.iload_n 1, 1) := by decide +kernel
theorem dX4_hoarse_78 : decode cX4_hoarse 78 = .ok (.invokevirtual 242, 3) := by decide +kernel
theorem dX4_hoarse_81 : decode cX4_hoarse 81 = .ok (.lload 4, 2) := by decide +kernel
theorem dX4_hoarse_83 : decode cX4_hoarse 83 = .ok (.ldc2_w 245, 3) := by decide +kernel
theorem dX4_hoarse_86 : decode cX4_hoarse 86 = .ok (.lmul, 1) := by decide +kernel
theorem dX4_hoarse_87 : decode cX4_hoarse 87 = .ok (.aload_n 0, 1) := by decide +kernel
theorem dX4_hoarse_88 : decode cX4_hoarse 88 = .ok (.getfield 69, 3) := by decide +kernel
theorem dX4_hoarse_91 : decode cX4_hoarse 91 = .ok (.iload_n 2, 1) := by decide +kernel
theorem dX4_hoarse_92 : decode cX4_hoarse 92 = .ok (.laload, 1) := by decide +kernel
theorem dX4_hoarse_93 : decode cX4_hoarse 93 = .ok (.ladd, 1) := by decide +kernel
theorem dX4_hoarse_94 : decode cX4_hoarse 94 = .ok (.lstore 4, 2) := by decide +kernel
theorem dX4_hoarse_96 : decode cX4_hoarse 96 = .ok (.lload 6, 2) := by decide +kernel
theorem dX4_hoarse_98 : decode cX4_hoarse 98 = .ok (.ldc2_w 245, 3) := by decide +kernel
theorem dX4_hoarse_101 : decode cX4_hoarse 101 = .ok (.lmul, 1) := by decide +kernel
theorem dX4_hoarse_102 : decode cX4_hoarse 102 = .ok (.lstore 6, 2) := by decide +kernel
theorem dX4_hoarse_104 : decode cX4_hoarse 104 = .ok (.iinc 9 1, 3) := by decide +kernel
theorem dX4_hoarse_107 : decode cX4_hoarse 107 = .ok (.goto (-38), 3) := by decide +kernel
theorem dX4_hoarse_110 : decode cX4_hoarse 110 = .ok (.lload 4, 2) := by decide +kernel
theorem dX4_hoarse_112 : decode cX4_hoarse 112 = .ok (.lload 6, 2) := by decide +kernel
theorem dX4_hoarse_114 : decode cX4_hoarse 114 = .ok (.invokestatic 247, 3) := by decide +kernel
theorem dX4_hoarse_117 : decode cX4_hoarse 117 = .ok (.istore 9, 2) := by decide +kernel
theorem dX4_hoarse_119 : decode cX4_hoarse 119 = .ok (.iload_n 3, 1) := by decide +kernel
theorem dX4_hoarse_120 : decode cX4_hoarse 120 = .ok (.ifCond .ne 11, 3) := by decide +kernel
theorem dX4_hoarse_123 : decode cX4_hoarse 123 = .ok (.lload 4, 2) := by decide +kernel
theorem dX4_hoarse_125 : decode cX4_hoarse 125 = .ok (.iload 9, 2) := by decide +kernel
theorem dX4_hoarse_127 : decode cX4_hoarse 127 = .ok (.lshr, 1) := by decide +kernel
theorem dX4_hoarse_128 : decode cX4_hoarse 128 = .ok (.goto 8, 3) := by decide +kernel
theorem dX4_hoarse_131 : decode cX4_hoarse 131 = .ok (.lload 6, 2) := by decide +kernel
theorem dX4_hoarse_133 : decode cX4_hoarse 133 = .ok (.iload 9, 2) := by decide +kernel
theorem dX4_hoarse_135 : decode cX4_hoarse 135 = .ok (.lshr, 1) := by decide +kernel
theorem dX4_hoarse_136 : decode cX4_hoarse 136 = .ok (.lreturn, 1) := by decide +kernel
theorem dX4_storm_0 : decode cX4_storm 0 = .ok (.iload_n 2, 1) := by decide +kernel
theorem dX4_storm_1 : decode cX4_storm 1 = .ok (.iconst 1, 1) := by decide +kernel
theorem dX4_storm_2 : decode cX4_storm 2 = .ok (.bipush 99, 2) := by decide +kernel
theorem dX4_storm_4 : decode cX4_storm 4 = .ok (.invokestatic 109, 3) := by decide +kernel
theorem dX4_storm_7 : decode cX4_storm 7 = .ok (.ifCond .eq 11, 3) := by decide +kernel
theorem dX4_storm_10 : decode cX4_storm 10 = .ok (.iload_n 3, 1) := by decide +kernel
theorem dX4_storm_11 : decode cX4_storm 11 = .ok (.iconst 2, 1) := by decide +kernel
theorem dX4_storm_12 : decode cX4_storm 12 = .ok (.invokestatic 84, 3) := by decide +kernel
theorem dX4_storm_15 : decode cX4_storm 15 = .ok (.ifCond .ne 6, 3) := by decide +kernel
theorem dX4_storm_18 : decode cX4_storm 18 = .ok (.bipush (-2), 2) := by decide +kernel
theorem dX4_storm_20 : decode cX4_storm 20 = .ok (.ireturn, 1) := by decide +kernel
theorem dX4_storm_21 : decode cX4_storm 21 = .ok (.aload_n 0, 1) := by decide +kernel
theorem dX4_storm_22 : decode cX4_storm 22 = .ok (.invokevirtual 140, 3) := by decide +kernel
theorem dX4_storm_25 : decode cX4_storm 25 = .ok (.astore 4, 2) := by decide +kernel
theorem dX4_storm_27 : decode cX4_storm 27 = .ok (.iconst 0, 1) := by decide +kernel
theorem dX4_storm_28 : decode cX4_storm 28 = .ok (.istore 5, 2) := by decide +kernel
theorem dX4_storm_30 : decode cX4_storm 30 = .ok (.iconst 0, 1) := by decide +kernel
theorem dX4_storm_31 : decode cX4_storm 31 = .ok (.istore 6, 2) := by decide +kernel
theorem dX4_storm_33 : decode cX4_storm 33 = .ok (.iload_n 1, 1) := by decide +kernel
theorem dX4_storm_34 : decode cX4_storm 34 = .ok (.istore 7, 2) := by decide +kernel
theorem dX4_storm_36 : decode cX4_storm 36 = .ok (.iconst 0, 1) := by decide +kernel
theorem dX4_storm_37 : decode cX4_storm 37 = .ok (.istore 8, 2) := by decide +kernel
theorem dX4_storm_39 : decode cX4_storm 39 = .ok (.iload 8, 2) := by decide +kernel
theorem dX4_storm_41 : decode cX4_storm 41 = .ok (.iload_n 2, 1) := by decide +kernel
theorem dX4_storm_42 : decode cX4_storm 42 = .ok (.if_icmp .ge 55, 3) := by decide +kernel
theorem dX4_storm_45 : decode cX4_storm 45 = .ok (.ldc 251, 2) := by decide +kernel
theorem dX4_storm_47 : decode cX4_storm 47 = .ok (.iload 7, 2) := by decide +kernel
theorem dX4_storm_49 : decode cX4_storm 49 = .ok (.imul, 1) := by decide +kernel
theorem dX4_storm_50 : decode cX4_storm 50 = .ok (.sipush 12345, 3) := by decide +kernel
theorem dX4_storm_53 : decode cX4_storm 53 = .ok (.iadd, 1) := by decide +kernel
theorem dX4_storm_54 : decode cX4_storm 54 = .ok (.istore 7, 2) := by decide +kernel
theorem dX4_storm_56 : decode cX4_storm 56 = .ok (.aload 4, 2) := by decide +kernel
theorem dX4_storm_58 : decode cX4_storm 58 = .ok (.iload 7, 2) := by decide +kernel
theorem dX4_storm_60 : decode cX4_storm 60 = .ok (.bipush 16, 2) := by decide +kernel
theorem dX4_storm_62 : decode cX4_storm 62 = .ok (.iushr, 1) := by decide +kernel
theorem dX4_storm_63 : decode cX4_storm 63 = .ok (.sipush 240, 3) := by decide +kernel
theorem dX4_storm_66 : decode cX4_storm 66 = .ok (.irem, 1) := by decide +kernel
theorem dX4_storm_67 : decode cX4_storm 67 = .ok (.invokevirtual 150, 3) := by decide +kernel
theorem dX4_storm_70 : decode cX4_storm 70 = .ok (.istore 9, 2) := by decide +kernel
theorem dX4_storm_72 : decode cX4_storm 72 = .ok (.iload 9, 2) := by decide +kernel
theorem dX4_storm_74 : decode cX4_storm 74 = .ok (.ifCond .le 17, 3) := by decide +kernel
theorem dX4_storm_77 : decode cX4_storm 77 = .ok (.iload 5, 2) := by decide +kernel
theorem dX4_storm_79 : decode cX4_storm 79 = .ok (.aload_n 0, 1) := by decide +kernel
theorem dX4_storm_80 : decode cX4_storm 80 = .ok (.iload 9, 2) := by decide +kernel
theorem dX4_storm_82 : decode cX4_storm 82 = .ok (.invokevirtual 165, 3) := by decide +kernel
theorem dX4_storm_85 : decode cX4_storm 85 = .ok (.iadd, 1) := by decide +kernel
theorem dX4_storm_86 : decode cX4_storm 86 = .ok (.istore 5, 2) := by decide +kernel
theorem dX4_storm_88 : decode cX4_storm 88 = .ok (.iinc 6 1, 3) := by decide +kernel
theorem dX4_storm_91 : decode cX4_storm 91 = .ok (.iinc 8 1, 3) := by decide +kernel
theorem dX4_storm_94 : decode cX4_storm 94 = .ok (.goto (-55), 3) := by decide +kernel
theorem dX4_storm_97 : decode cX4_storm 97 = .ok (.iload_n 3, 1) := by decide +kernel
theorem dX4_storm_98 : decode cX4_storm 98 = .ok (.ifCond .ne 8, 3) := by decide +kernel
theorem dX4_storm_101 : decode cX4_storm 101 = .ok (.iload 5, 2) := by decide +kernel
theorem dX4_storm_103 : decode cX4_storm 103 = .ok (.goto 5, 3) := by decide +kernel
theorem dX4_storm_106 : decode cX4_storm 106 = .ok (.iload 6, 2) := by decide +kernel
theorem dX4_storm_108 : decode cX4_storm 108 = .ok (.ireturn, 1) := by decide +kernel
theorem dX4_sheet_0 : decode cX4_sheet 0 = .ok (.iload_n 1, 1) := by decide +kernel
theorem dX4_sheet_1 : decode cX4_sheet 1 = .ok (.iconst 4, 1) := by decide +kernel
theorem dX4_sheet_2 : decode cX4_sheet 2 = .ok (.invokestatic 84, 3) := by decide +kernel
theorem dX4_sheet_5 : decode cX4_sheet 5 = .ok (.ifCond .eq 17, 3) := by decide +kernel
theorem dX4_sheet_8 : decode cX4_sheet 8 = .ok (.iload_n 2, 1) := by decide +kernel
theorem dX4_sheet_9 : decode cX4_sheet 9 = .ok (.iconst 3, 1) := by decide +kernel
theorem dX4_sheet_10 : decode cX4_sheet 10 = .ok (.invokestatic 84, 3) := by decide +kernel
theorem dX4_sheet_13 : decode cX4_sheet 13 = .ok (.ifCond .eq 9, 3) := by decide +kernel
theorem dX4_sheet_16 : decode cX4_sheet 16 = .ok (.iload_n 3, 1) := by decide +kernel
theorem dX4_sheet_17 : decode cX4_sheet 17 = .ok (.bipush 48, 2) := by decide +kernel
theorem dX4_sheet_19 : decode cX4_sheet 19 = .ok (.if_icmp .le 6, 3) := by decide +kernel
theorem dX4_sheet_22 : decode cX4_sheet 22 = .ok (.bipush (-2), 2) := by decide +kernel
theorem dX4_sheet_24 : decode cX4_sheet 24 = .ok (.ireturn, 1) := by decide +kernel
theorem dX4_sheet_25 : decode cX4_sheet 25 = .ok (.iload_n 3, 1) := by decide +kernel
theorem dX4_sheet_26 : decode cX4_sheet 26 = .ok (.ifCond .ge 9, 3) := by decide +kernel
theorem dX4_sheet_29 : decode cX4_sheet 29 = .ok (.aload_n 0, 1) := by decide +kernel
theorem dX4_sheet_30 : decode cX4_sheet 30 = .ok (.iconst 5, 1) := by decide +kernel
theorem dX4_sheet_31 : decode cX4_sheet 31 = .ok (.invokevirtual 252, 3) := by decide +kernel
theorem dX4_sheet_34 : decode cX4_sheet 34 = .ok (.ireturn, 1) := by decide +kernel
theorem dX4_sheet_35 : decode cX4_sheet 35 = .ok (.aload_n 0, 1) := by decide +kernel
theorem dX4_sheet_36 : decode cX4_sheet 36 = .ok (.getfield 61, 3) := by decide +kernel
theorem dX4_sheet_39 : decode cX4_sheet 39 = .ok (.iload_n 1, 1) := by decide +kernel
theorem dX4_sheet_40 : decode cX4_sheet 40 = .ok (.aaload, 1) := by decide +kernel
theorem dX4_sheet_41 : decode cX4_sheet 41 = .ok (.iload_n 2, 1) := by decide +kernel
theorem dX4_sheet_42 : decode cX4_sheet 42 = .ok (.iload_n 3, 1) := by decide +kernel
theorem dX4_sheet_43 : decode cX4_sheet 43 = .ok (.invokevirtual 255, 3) := by decide +kernel
theorem dX4_sheet_46 : decode cX4_sheet 46 = .ok (.iload_n 3, 1) := by decide +kernel
theorem dX4_sheet_47 : decode cX4_sheet 47 = .ok (.ireturn, 1) := by decide +kernel
theorem dX4_lose_0 : decode cX4_lose 0 = .ok (.aload_n 0, 1) := by decide +kernel
theorem dX4_lose_1 : decode cX4_lose 1 = .ok (.iload_n 1, 1) := by decide +kernel
theorem dX4_lose_2 : decode cX4_lose 2 = .ok (.invokevirtual 130, 3) := by decide +kernel
theorem dX4_lose_5 : decode cX4_lose 5 = .ok (.istore_n 2, 1) := by decide +kernel
theorem dX4_lose_6 : decode cX4_lose 6 = .ok (.iload_n 2, 1) := by decide +kernel
theorem dX4_lose_7 : decode cX4_lose 7 = .ok (.ifCond .eq 5, 3) := by decide +kernel
theorem dX4_lose_10 : decode cX4_lose 10 = .ok (.iload_n 2, 1) := by decide +kernel
theorem dX4_lose_11 : decode cX4_lose 11 = .ok (.ireturn, 1) := by decide +kernel
theorem dX4_lose_12 : decode cX4_lose 12 = .ok (.aload_n 0, 1) := by decide +kernel
theorem dX4_lose_13 : decode cX4_lose 13 = .ok (.getfield 61, 3) := by decide +kernel
theorem dX4_lose_16 : decode cX4_lose 16 = .ok (.iload_n 1, 1) := by decide +kernel
theorem dX4_lose_17 : decode cX4_lose 17 = .ok (.aaload, 1) := by decide +kernel
theorem dX4_lose_18 : decode cX4_lose 18 = .ok (.iconst 1, 1) := by decide +kernel
theorem dX4_lose_19 : decode cX4_lose 19 = .ok (.putfield 259, 3) := by decide +kernel
theorem dX4_lose_22 : decode cX4_lose 22 = .ok (.aload_n 0, 1) := by decide +kernel
theorem dX4_lose_23 : decode cX4_lose 23 = .ok (.getfield 61, 3) := by decide +kernel
theorem dX4_lose_26 : decode cX4_lose 26 = .ok (.iload_n 1, 1) := by decide +kernel
theorem dX4_lose_27 : decode cX4_lose 27 = .ok (.aaload, 1) := by decide +kernel
theorem dX4_lose_28 : decode cX4_lose 28 = .ok (.getfield 134, 3) := by decide +kernel
theorem dX4_lose_31 : decode cX4_lose 31 = .ok (.ireturn, 1) := by decide +kernel
theorem dX4_put_0 : decode cX4_put 0 = .ok (.aload_n 0, 1) := by decide +kernel
theorem dX4_put_1 : decode cX4_put 1 = .ok (.iload_n 1, 1) := by decide +kernel
theorem dX4_put_2 : decode cX4_put 2 = .ok (.iload_n 2, 1) := by decide +kernel
theorem dX4_put_3 : decode cX4_put 3 = .ok (.iload_n 3, 1) := by decide +kernel
theorem dX4_put_4 : decode cX4_put 4 = .ok (.invokevirtual 262, 3) := by decide +kernel
theorem dX4_put_7 : decode cX4_put 7 = .ok (.istore 5, 2) := by decide +kernel
theorem dX4_put_9 : decode cX4_put 9 = .ok (.iload 5, 2) := by decide +kernel
theorem dX4_put_11 : decode cX4_put 11 = .ok (.ifCond .eq 6, 3) := by decide +kernel
theorem dX4_put_14 : decode cX4_put 14 = .ok (.iload 5, 2) := by decide +kernel
theorem dX4_put_16 : decode cX4_put 16 = .ok (.ireturn, 1) := by decide +kernel
theorem dX4_put_17 : decode cX4_put 17 = .ok (.aload_n 0, 1) := by decide +kernel
theorem dX4_put_18 : decode cX4_put 18 = .ok (.getfield 61, 3) := by decide +kernel
theorem dX4_put_21 : decode cX4_put 21 = .ok (.iload_n 1, 1) := by decide +kernel
theorem dX4_put_22 : decode cX4_put 22 = .ok (.aaload, 1) := by decide +kernel
theorem dX4_put_23 : decode cX4_put 23 = .ok (.iload_n 3, 1) := by decide +kernel
theorem dX4_put_24 : decode cX4_put 24 = .ok (.iload 4, 2) := by decide +kernel
theorem dX4_put_26 : decode cX4_put 26 = .ok (.invokevirtual 266, 3) := by decide +kernel
theorem dX4_put_29 : decode cX4_put 29 = .ok (.iconst 1, 1) := by decide +kernel
theorem dX4_put_30 : decode cX4_put 30 = .ok (.ireturn, 1) := by decide +kernel
theorem dX4_get_0 : decode cX4_get 0 = .ok (.aload_n 0, 1) := by decide +kernel
theorem dX4_get_1 : decode cX4_get 1 = .ok (.iload_n 1, 1) := by decide +kernel
theorem dX4_get_2 : decode cX4_get 2 = .ok (.iload_n 2, 1) := by decide +kernel
theorem dX4_get_3 : decode cX4_get 3 = .ok (.iload_n 3, 1) := by decide +kernel
theorem dX4_get_4 : decode cX4_get 4 = .ok (.invokevirtual 262, 3) := by decide +kernel
theorem dX4_get_7 : decode cX4_get 7 = .ok (.ifCond .eq 9, 3) := by decide +kernel
theorem dX4_get_10 : decode cX4_get 10 = .ok (.ldc_w 269, 3) := by decide +kernel
theorem dX4_get_13 : decode cX4_get 13 = .ok (.goto 14, 3) := by decide +kernel
theorem dX4_get_16 : decode cX4_get 16 = .ok (.aload_n 0, 1) := by decide +kernel
theorem dX4_get_17 : decode cX4_get 17 = .ok (.getfield 61, 3) := by decide +kernel
theorem dX4_get_20 : decode cX4_get 20 = .ok (.iload_n 1, 1) := by decide +kernel
theorem dX4_get_21 : decode cX4_get 21 = .ok (.aaload, 1) := by decide +kernel
theorem dX4_get_22 : decode cX4_get 22 = .ok (.getfield 135, 3) := by decide +kernel
theorem dX4_get_25 : decode cX4_get 25 = .ok (.iload_n 3, 1) := by decide +kernel
theorem dX4_get_26 : decode cX4_get 26 = .ok (.iaload, 1) := by decide +kernel
theorem dX4_get_27 : decode cX4_get 27 = .ok (.ireturn, 1) := by decide +kernel
theorem dX4_copy_0 : decode cX4_copy 0 = .ok (.iload_n 1, 1) := by decide +kernel
theorem dX4_copy_1 : decode cX4_copy 1 = .ok (.iconst 4, 1) := by decide +kernel
theorem dX4_copy_2 : decode cX4_copy 2 = .ok (.invokestatic 84, 3) := by decide +kernel
theorem dX4_copy_5 : decode cX4_copy 5 = .ok (.ifCond .eq 11, 3) := by decide +kernel
theorem dX4_copy_8 : decode cX4_copy 8 = .ok (.iload_n 3, 1) := by decide +kernel
theorem dX4_copy_9 : decode cX4_copy 9 = .ok (.iconst 4, 1) := by decide +kernel
theorem dX4_copy_10 : decode cX4_copy 10 = .ok (.invokestatic 84, 3) := by decide +kernel
theorem dX4_copy_13 : decode cX4_copy 13 = .ok (.ifCond .ne 6, 3) := by decide +kernel
theorem dX4_copy_16 : decode cX4_copy 16 = .ok (.bipush (-2), 2) := by decide +kernel
theorem dX4_copy_18 : decode cX4_copy 18 = .ok (.ireturn, 1) := by decide +kernel
theorem dX4_copy_19 : decode cX4_copy 19 = .ok (.aload_n 0, 1) := by decide +kernel
theorem dX4_copy_20 : decode cX4_copy 20 = .ok (.getfield 61, 3) := by decide +kernel
theorem dX4_copy_23 : decode cX4_copy 23 = .ok (.iload_n 1, 1) := by decide +kernel
theorem dX4_copy_24 : decode cX4_copy 24 = .ok (.aaload, 1) := by decide +kernel
theorem dX4_copy_25 : decode cX4_copy 25 = .ok (.astore 6, 2) := by decide +kernel
theorem dX4_copy_27 : decode cX4_copy 27 = .ok (.aload_n 0, 1) := by decide +kernel
theorem dX4_copy_28 : decode cX4_copy 28 = .ok (.getfield 61, 3) := by decide +kernel
theorem dX4_copy_31 : decode cX4_copy 31 = .ok (.iload_n 3, 1) := by decide +kernel
theorem dX4_copy_32 : decode cX4_copy 32 = .ok (.aaload, 1) := by decide +kernel
theorem dX4_copy_33 : decode cX4_copy 33 = .ok (.astore 7, 2) := by decide +kernel
theorem dX4_copy_35 : decode cX4_copy 35 = .ok (.aload 6, 2) := by decide +kernel
theorem dX4_copy_37 : decode cX4_copy 37 = .ok (.getfield 259, 3) := by decide +kernel
theorem dX4_copy_40 : decode cX4_copy 40 = .ok (.ifCond .ne 11, 3) := by decide +kernel
theorem dX4_copy_43 : decode cX4_copy 43 = .ok (.aload 7, 2) := by decide +kernel
theorem dX4_copy_45 : decode cX4_copy 45 = .ok (.getfield 259, 3) := by decide +kernel
theorem dX4_copy_48 : decode cX4_copy 48 = .ok (.ifCond .eq 9, 3) := by decide +kernel
theorem dX4_copy_51 : decode cX4_copy 51 = .ok (.aload_n 0, 1) := by decide +kernel
theorem dX4_copy_52 : decode cX4_copy 52 = .ok (.iconst 1, 1) := by decide +kernel
theorem dX4_copy_53 : decode cX4_copy 53 = .ok (.invokevirtual 252, 3) := by decide +kernel
theorem dX4_copy_56 : decode cX4_copy 56 = .ok (.ireturn, 1) := by decide +kernel
theorem dX4_copy_57 : decode cX4_copy 57 = .ok (.aload 6, 2) := by decide +kernel
theorem dX4_copy_59 : decode cX4_copy 59 = .ok (.getfield 270, 3) := by decide +kernel
theorem dX4_copy_62 : decode cX4_copy 62 = .ok (.aload 7, 2) := by decide +kernel
theorem dX4_copy_64 : decode cX4_copy 64 = .ok (.getfield 270, 3) := by decide +kernel
theorem dX4_copy_67 : decode cX4_copy 67 = .ok (.if_icmp .eq 9, 3) := by decide +kernel
theorem dX4_copy_70 : decode cX4_copy 70 = .ok (.aload_n 0, 1) := by decide +kernel
theorem dX4_copy_71 : decode cX4_copy 71 = .ok (.iconst 4, 1) := by decide +kernel
theorem dX4_copy_72 : decode cX4_copy 72 = .ok (.invokevirtual 252, 3) := by decide +kernel
theorem dX4_copy_75 : decode cX4_copy 75 = .ok (.ireturn, 1) := by decide +kernel
theorem dX4_copy_76 : decode cX4_copy 76 = .ok (.aload 6, 2) := by decide +kernel
theorem dX4_copy_78 : decode cX4_copy 78 = .ok (.iload_n 2, 1) := by decide +kernel
theorem dX4_copy_79 : decode cX4_copy 79 = .ok (.iload 5, 2) := by decide +kernel
theorem dX4_copy_81 : decode cX4_copy 81 = .ok (.invokevirtual 273, 3) := by decide +kernel
theorem dX4_copy_84 : decode cX4_copy 84 = .ok (.ifCond .eq 15, 3) := by decide +kernel
theorem dX4_copy_87 : decode cX4_copy 87 = .ok (.aload 7, 2) := by decide +kernel
theorem dX4_copy_89 : decode cX4_copy 89 = .ok (.iload 4, 2) := by decide +kernel
theorem dX4_copy_91 : decode cX4_copy 91 = .ok (.iload 5, 2) := by decide +kernel
theorem dX4_copy_93 : decode cX4_copy 93 = .ok (.invokevirtual 273, 3) := by decide +kernel
theorem dX4_copy_96 : decode cX4_copy 96 = .ok (.ifCond .ne 9, 3) := by decide +kernel
theorem dX4_copy_99 : decode cX4_copy 99 = .ok (.aload_n 0, 1) := by decide +kernel
theorem dX4_copy_100 : decode cX4_copy 100 = .ok (.iconst 2, 1) := by decide +kernel
theorem dX4_copy_101 : decode cX4_copy 101 = .ok (.invokevirtual 252, 3) := by decide +kernel
theorem dX4_copy_104 : decode cX4_copy 104 = .ok (.ireturn, 1) := by decide +kernel
theorem dX4_copy_105 : decode cX4_copy 105 = .ok (.aload 6, 2) := by decide +kernel
theorem dX4_copy_107 : decode cX4_copy 107 = .ok (.getfield 135, 3) := by decide +kernel
theorem dX4_copy_110 : decode cX4_copy 110 = .ok (.iload_n 2, 1) := by decide +kernel
theorem dX4_copy_111 : decode cX4_copy 111 = .ok (.aload 7, 2) := by decide +kernel
theorem dX4_copy_113 : decode cX4_copy 113 = .ok (.getfield 135, 3) := by decide +kernel
theorem dX4_copy_116 : decode cX4_copy 116 = .ok (.iload 4, 2) := by decide +kernel
theorem dX4_copy_118 : decode cX4_copy 118 = .ok (.iload 5, 2) := by decide +kernel
theorem dX4_copy_120 : decode cX4_copy 120 = .ok (.invokestatic 276, 3) := by decide +kernel
theorem dX4_copy_123 : decode cX4_copy 123 = .ok (.iconst 1, 1) := by decide +kernel
theorem dX4_copy_124 : decode cX4_copy 124 = .ok (.ireturn, 1) := by decide +kernel
theorem dX4_write_0 : decode cX4_write 0 = .ok (.iload_n 1, 1) := by decide +kernel
theorem dX4_write_1 : decode cX4_write 1 = .ok (.invokestatic 117, 3) := by decide +kernel
theorem dX4_write_4 : decode cX4_write 4 = .ok (.ifCond .ne 6, 3) := by decide +kernel
theorem dX4_write_7 : decode cX4_write 7 = .ok (.bipush (-2), 2) := by decide +kernel
theorem dX4_write_9 : decode cX4_write 9 = .ok (.ireturn, 1) := by decide +kernel
theorem dX4_write_10 : decode cX4_write 10 = .ok (.aload_n 0, 1) := by decide +kernel
theorem dX4_write_11 : decode cX4_write 11 = .ok (.iload_n 2, 1) := by decide +kernel
theorem dX4_write_12 : decode cX4_write 12 = .ok (.invokevirtual 130, 3) := by decide +kernel
theorem dX4_write_15 : decode cX4_write 15 = .ok (.istore_n 3, 1) := by decide +kernel
theorem dX4_write_16 : decode cX4_write 16 = .ok (.iload_n 3, 1) := by decide +kernel
theorem dX4_write_17 : decode cX4_write 17 = .ok (.ifCond .eq 5, 3) := by decide +kernel
theorem dX4_write_20 : decode cX4_write 20 = .ok (.iload_n 3, 1) := by decide +kernel
theorem dX4_write_21 : decode cX4_write 21 = .ok (.ireturn, 1) := by decide +kernel
theorem dX4_write_22 : decode cX4_write 22 = .ok (.aload_n 0, 1) := by decide +kernel
theorem dX4_write_23 : decode cX4_write 23 = .ok (.invokevirtual 140, 3) := by decide +kernel
theorem dX4_write_26 : decode cX4_write 26 = .ok (.astore 4, 2) := by decide +kernel
theorem dX4_write_28 : decode cX4_write 28 = .ok (.aload_n 0, 1) := by decide +kernel
theorem dX4_write_29 : decode cX4_write 29 = .ok (.getfield 61, 3) := by decide +kernel
theorem dX4_write_32 : decode cX4_write 32 = .ok (.iload_n 2, 1) := by decide +kernel
theorem dX4_write_33 : decode cX4_write 33 = .ok (.aaload, 1) := by decide +kernel
theorem dX4_write_34 : decode cX4_write 34 = .ok (.getfield 134, 3) := by decide +kernel
theorem dX4_write_37 : decode cX4_write 37 = .ok (.sipush 240, 3) := by decide +kernel
theorem dX4_write_40 : decode cX4_write 40 = .ok (.iload_n 1, 1) := by decide +kernel
theorem dX4_write_41 : decode cX4_write 41 = .ok (.isub, 1) := by decide +kernel
theorem dX4_write_42 : decode cX4_write 42 = .ok (.invokestatic 239, 3) := by decide +kernel
theorem dX4_write_45 : decode cX4_write 45 = .ok (.istore 5, 2) := by decide +kernel
theorem dX4_write_47 : decode cX4_write 47 = .ok (.iconst 0, 1) := by decide +kernel
theorem dX4_write_48 : decode cX4_write 48 = .ok (.istore 6, 2) := by decide +kernel
theorem dX4_write_50 : decode cX4_write 50 = .ok (.iload 6, 2) := by decide +kernel
theorem dX4_write_52 : decode cX4_write 52 = .ok (.iload 5, 2) := by decide +kernel
theorem dX4_write_54 : decode cX4_write 54 = .ok (.if_icmp .ge 29, 3) := by decide +kernel
theorem dX4_write_57 : decode cX4_write 57 = .ok (.aload_n 0, 1) := by decide +kernel
theorem dX4_write_58 : decode cX4_write 58 = .ok (.getfield 61, 3) := by decide +kernel
theorem dX4_write_61 : decode cX4_write 61 = .ok (.iload_n 2, 1) := by decide +kernel
theorem dX4_write_62 : decode cX4_write 62 = .ok (.aaload, 1) := by decide +kernel
theorem dX4_write_63 : decode cX4_write 63 = .ok (.iload 6, 2) := by decide +kernel
theorem dX4_write_65 : decode cX4_write 65 = .ok (.aload 4, 2) := by decide +kernel
theorem dX4_write_67 : decode cX4_write 67 = .ok (.iload_n 1, 1) := by decide +kernel
theorem dX4_write_68 : decode cX4_write 68 = .ok (.iload 6, 2) := by decide +kernel
theorem dX4_write_70 : decode cX4_write 70 = .ok (.iadd, 1) := by decide +kernel
theorem dX4_write_71 : decode cX4_write 71 = .ok (.invokevirtual 150, 3) := by decide +kernel
theorem dX4_write_74 : decode cX4_write 74 = .ok (.invokevirtual 266, 3) := by decide +kernel
theorem dX4_write_77 : decode cX4_write 77 = .ok (.iinc 6 1, 3) := by decide +kernel
theorem dX4_write_80 : decode cX4_write 80 = .ok (.goto (-30), 3) := by decide +kernel
theorem dX4_write_83 : decode cX4_write 83 = .ok (.iload 5, 2) := by decide +kernel
theorem dX4_write_85 : decode cX4_write 85 = .ok (.ireturn, 1) := by decide +kernel
theorem dX4_count_0 : decode cX4_count 0 = .ok (.iload_n 1, 1) := by decide +kernel
theorem dX4_count_1 : decode cX4_count 1 = .ok (.tableswitch 124 0 8 #[51, 59, 67, 75, 83, 95, 103, 111, 119], 51) := by decide +kernel
theorem dX4_count_52 : decode cX4_count 52 = .ok (.aload_n 0, 1) := by decide +kernel
theorem dX4_count_53 : decode cX4_count 53 = .ok (.getfield 21, 3) := by decide +kernel
theorem dX4_count_56 : decode cX4_count 56 = .ok (.getfield 178, 3) := by decide +kernel
theorem dX4_count_59 : decode cX4_count 59 = .ok (.ireturn, 1) := by decide +kernel
theorem dX4_count_60 : decode cX4_count 60 = .ok (.aload_n 0, 1) := by decide +kernel
theorem dX4_count_61 : decode cX4_count 61 = .ok (.getfield 31, 3) := by decide +kernel
theorem dX4_count_64 : decode cX4_count 64 = .ok (.getfield 178, 3) := by decide +kernel
theorem dX4_count_67 : decode cX4_count 67 = .ok (.ireturn, 1) := by decide +kernel
theorem dX4_count_68 : decode cX4_count 68 = .ok (.aload_n 0, 1) := by decide +kernel
theorem dX4_count_69 : decode cX4_count 69 = .ok (.getfield 21, 3) := by decide +kernel
theorem dX4_count_72 : decode cX4_count 72 = .ok (.getfield 96, 3) := by decide +kernel
theorem dX4_count_75 : decode cX4_count 75 = .ok (.ireturn, 1) := by decide +kernel
theorem dX4_count_76 : decode cX4_count 76 = .ok (.aload_n 0, 1) := by decide +kernel
theorem dX4_count_77 : decode cX4_count 77 = .ok (.getfield 31, 3) := by decide +kernel
theorem dX4_count_80 : decode cX4_count 80 = .ok (.getfield 96, 3) := by decide +kernel
theorem dX4_count_83 : decode cX4_count 83 = .ok (.ireturn, 1) := by decide +kernel
theorem dX4_count_84 : decode cX4_count 84 = .ok (.aload_n 0, 1) := by decide +kernel
theorem dX4_count_85 : decode cX4_count 85 = .ok (.invokevirtual 140, 3) := by decide +kernel
theorem dX4_count_88 : decode cX4_count 88 = .ok (.aload_n 0, 1) := by decide +kernel
theorem dX4_count_89 : decode cX4_count 89 = .ok (.getfield 73, 3) := by decide +kernel
theorem dX4_count_92 : decode cX4_count 92 = .ok (.invokevirtual 207, 3) := by decide +kernel
theorem dX4_count_95 : decode cX4_count 95 = .ok (.ireturn, 1) := by decide +kernel
theorem dX4_count_96 : decode cX4_count 96 = .ok (.aload_n 0, 1) := by decide +kernel
theorem dX4_count_97 : decode cX4_count 97 = .ok (.getfield 46, 3) := by decide +kernel
theorem dX4_count_100 : decode cX4_count 100 = .ok (.getfield 127, 3) := by decide +kernel
theorem dX4_count_103 : decode cX4_count 103 = .ok (.ireturn, 1) := by decide +kernel
theorem dX4_count_104 : decode cX4_count 104 = .ok (.aload_n 0, 1) := by decide +kernel
theorem dX4_count_105 : decode cX4_count 105 = .ok (.invokevirtual 140, 3) := by decide +kernel
theorem dX4_count_108 : decode cX4_count 108 = .ok (.invokevirtual 199, 3) := by decide +kernel
theorem dX4_count_111 : decode cX4_count 111 = .ok (.ireturn, 1) := by decide +kernel
theorem dX4_count_112 : decode cX4_count 112 = .ok (.aload_n 0, 1) := by decide +kernel
theorem dX4_count_113 : decode cX4_count 113 = .ok (.getfield 49, 3) := by decide +kernel
theorem dX4_count_116 : decode cX4_count 116 = .ok (.getfield 127, 3) := by decide +kernel
theorem dX4_count_119 : decode cX4_count 119 = .ok (.ireturn, 1) := by decide +kernel
theorem dX4_count_120 : decode cX4_count 120 = .ok (.aload_n 0, 1) := by decide +kernel
theorem dX4_count_121 : decode cX4_count 121 = .ok (.getfield 77, 3) := by decide +kernel
theorem dX4_count_124 : decode cX4_count 124 = .ok (.ireturn, 1) := by decide +kernel
theorem dX4_count_125 : decode cX4_count 125 = .ok (.bipush (-2), 2) := by decide +kernel
theorem dX4_count_127 : decode cX4_count 127 = .ok (.ireturn, 1) := by decide +kernel
theorem dX4_digest_0 : decode cX4_digest 0 = .ok (.ldc2_w 282, 3) := by decide +kernel
theorem dX4_digest_3 : decode cX4_digest 3 = .ok (.lstore_n 1, 1) := by decide +kernel
theorem dX4_digest_4 : decode cX4_digest 4 = .ok (.iconst 0, 1) := by decide +kernel
theorem dX4_digest_5 : decode cX4_digest 5 = .ok (.istore_n 3, 1) := by decide +kernel
theorem dX4_digest_6 : decode cX4_digest 6 = .ok (.iload_n 3, 1) := by decide +kernel
theorem dX4_digest_7 : decode cX4_digest 7 = .ok (.bipush 7, 2) := by decide +kernel
theorem dX4_digest_9 : decode cX4_digest 9 = .ok (.if_icmp .gt 22, 3) := by decide +kernel
theorem dX4_digest_12 : decode cX4_digest 12 = .ok (.ldc2_w 284, 3) := by decide +kernel
theorem dX4_digest_15 : decode cX4_digest 15 = .ok (.lload_n 1, 1) := by decide +kernel
theorem dX4_digest_16 : decode cX4_digest 16 = .ok (.lmul, 1) := by decide +kernel
theorem dX4_digest_17 : decode cX4_digest 17 = .ok (.aload_n 0, 1) := by decide +kernel
theorem dX4_digest_18 : decode cX4_digest 18 = .ok (.iload_n 3, 1) := by decide +kernel
theorem dX4_digest_19 : decode cX4_digest 19 = .ok (.invokevirtual 286, 3) := by decide +kernel
theorem dX4_digest_22 : decode cX4_digest 22 = .ok (.i2l, 1) := by decide +kernel
theorem dX4_digest_23 : decode cX4_digest 23 = .ok (.ladd, 1) := by decide +kernel
theorem dX4_digest_24 : decode cX4_digest 24 = .ok (.lstore_n 1, 1) := by decide +kernel
theorem dX4_digest_25 : decode cX4_digest 25 = .ok (.iinc 3 1, 3) := by decide +kernel
theorem dX4_digest_28 : decode cX4_digest 28 = .ok (.goto (-22), 3) := by decide +kernel
theorem dX4_digest_31 : decode cX4_digest 31 = .ok (.ldc2_w 284, 3) := by decide +kernel
theorem dX4_digest_34 : decode cX4_digest 34 = .ok (.lload_n 1, 1) := by decide +kernel
theorem dX4_digest_35 : decode cX4_digest 35 = .ok (.lmul, 1) := by decide +kernel
theorem dX4_digest_36 : decode cX4_digest 36 = .ok (.aload_n 0, 1) := by decide +kernel
theorem dX4_digest_37 : decode cX4_digest 37 = .ok (.iconst 0, 1) := by decide +kernel
theorem dX4_digest_38 : decode cX4_digest 38 = .ok (.invokevirtual 289, 3) := by decide +kernel
theorem dX4_digest_41 : decode cX4_digest 41 = .ok (.i2l, 1) := by decide +kernel
theorem dX4_digest_42 : decode cX4_digest 42 = .ok (.ladd, 1) := by decide +kernel
theorem dX4_digest_43 : decode cX4_digest 43 = .ok (.lstore_n 1, 1) := by decide +kernel
theorem dX4_digest_44 : decode cX4_digest 44 = .ok (.ldc2_w 284, 3) := by decide +kernel
theorem dX4_digest_47 : decode cX4_digest 47 = .ok (.lload_n 1, 1) := by decide +kernel
theorem dX4_digest_48 : decode cX4_digest 48 = .ok (.lmul, 1) := by decide +kernel
theorem dX4_digest_49 : decode cX4_digest 49 = .ok (.aload_n 0, 1) := by decide +kernel
theorem dX4_digest_50 : decode cX4_digest 50 = .ok (.iconst 1, 1) := by decide +kernel
theorem dX4_digest_51 : decode cX4_digest 51 = .ok (.invokevirtual 289, 3) := by decide +kernel
theorem dX4_digest_54 : decode cX4_digest 54 = .ok (.i2l, 1) := by decide +kernel
theorem dX4_digest_55 : decode cX4_digest 55 = .ok (.ladd, 1) := by decide +kernel
theorem dX4_digest_56 : decode cX4_digest 56 = .ok (.lstore_n 1, 1) := by decide +kernel
theorem dX4_digest_57 : decode cX4_digest 57 = .ok (.aload_n 0, 1) := by decide +kernel
theorem dX4_digest_58 : decode cX4_digest 58 = .ok (.lload_n 1, 1) := by decide +kernel
theorem dX4_digest_59 : decode cX4_digest 59 = .ok (.invokevirtual 292, 3) := by decide +kernel
theorem dX4_digest_62 : decode cX4_digest 62 = .ok (.lstore_n 1, 1) := by decide +kernel
theorem dX4_digest_63 : decode cX4_digest 63 = .ok (.aload_n 0, 1) := by decide +kernel
theorem dX4_digest_64 : decode cX4_digest 64 = .ok (.lload_n 1, 1) := by decide +kernel
theorem dX4_digest_65 : decode cX4_digest 65 = .ok (.invokevirtual 296, 3) := by decide +kernel
theorem dX4_digest_68 : decode cX4_digest 68 = .ok (.lstore_n 1, 1) := by decide +kernel
theorem dX4_digest_69 : decode cX4_digest 69 = .ok (.aload_n 0, 1) := by decide +kernel
theorem dX4_digest_70 : decode cX4_digest 70 = .ok (.lload_n 1, 1) := by decide +kernel
theorem dX4_digest_71 : decode cX4_digest 71 = .ok (.invokevirtual 299, 3) := by decide +kernel
theorem dX4_digest_74 : decode cX4_digest 74 = .ok (.lstore_n 1, 1) := by decide +kernel
theorem dX4_digest_75 : decode cX4_digest 75 = .ok (.aload_n 0, 1) := by decide +kernel
theorem dX4_digest_76 : decode cX4_digest 76 = .ok (.lload_n 1, 1) := by decide +kernel
theorem dX4_digest_77 : decode cX4_digest 77 = .ok (.invokevirtual 302, 3) := by decide +kernel
theorem dX4_digest_80 : decode cX4_digest 80 = .ok (.lstore_n 1, 1) := by decide +kernel
theorem dX4_digest_81 : decode cX4_digest 81 = .ok (.aload_n 0, 1) := by decide +kernel
theorem dX4_digest_82 : decode cX4_digest 82 = .ok (.lload_n 1, 1) := by decide +kernel
theorem dX4_digest_83 : decode cX4_digest 83 = .ok (.invokevirtual 305, 3) := by decide +kernel
theorem dX4_digest_86 : decode cX4_digest 86 = .ok (.lstore_n 1, 1) := by decide +kernel
theorem dX4_digest_87 : decode cX4_digest 87 = .ok (.aload_n 0, 1) := by decide +kernel
theorem dX4_digest_88 : decode cX4_digest 88 = .ok (.lload_n 1, 1) := by decide +kernel
theorem dX4_digest_89 : decode cX4_digest 89 = .ok (.invokevirtual 308, 3) := by decide +kernel
theorem dX4_digest_92 : decode cX4_digest 92 = .ok (.lreturn, 1) := by decide +kernel
theorem dX4_digestSwells_0 : decode cX4_digestSwells 0 = .ok (.lload_n 1, 1) := by decide +kernel
theorem dX4_digestSwells_1 : decode cX4_digestSwells 1 = .ok (.lstore_n 3, 1) := by decide +kernel
theorem dX4_digestSwells_2 : decode cX4_digestSwells 2 = .ok (.iconst 0, 1) := by decide +kernel
theorem dX4_digestSwells_3 : decode cX4_digestSwells 3 = .ok (.istore 5, 2) := by decide +kernel
theorem dX4_digestSwells_5 : decode cX4_digestSwells 5 = .ok (.iload 5, 2) := by decide +kernel
theorem dX4_digestSwells_7 : decode cX4_digestSwells 7 = .ok (.aload_n 0, 1) := by decide +kernel
theorem dX4_digestSwells_8 : decode cX4_digestSwells 8 = .ok (.getfield 21, 3) := by decide +kernel
theorem dX4_digestSwells_11 : decode cX4_digestSwells 11 = .ok (.getfield 178, 3) := by decide +kernel
theorem dX4_digestSwells_14 : decode cX4_digestSwells 14 = .ok (.if_icmp .ge 104, 3) := by decide +kernel
theorem dX4_digestSwells_17 : decode cX4_digestSwells 17 = .ok (.iconst 0, 1) := by decide +kernel
theorem dX4_digestSwells_18 : decode cX4_digestSwells 18 = .ok (.istore 6, 2) := by decide +kernel
theorem dX4_digestSwells_20 : decode cX4_digestSwells 20 = .ok (.iload 6, 2) := by decide +kernel
theorem dX4_digestSwells_22 : decode cX4_digestSwells 22 = .ok (.iconst 3, 1) := by decide +kernel
theorem dX4_digestSwells_23 : decode cX4_digestSwells 23 = .ok (.if_icmp .ge 25, 3) := by decide +kernel
theorem dX4_digestSwells_26 : decode cX4_digestSwells 26 = .ok (.ldc2_w 284, 3) := by decide +kernel
theorem dX4_digestSwells_29 : decode cX4_digestSwells 29 = .ok (.lload_n 3, 1) := by decide +kernel
theorem dX4_digestSwells_30 : decode cX4_digestSwells 30 = .ok (.lmul, 1) := by decide +kernel
theorem dX4_digestSwells_31 : decode cX4_digestSwells 31 = .ok (.aload_n 0, 1) := by decide +kernel
theorem dX4_digestSwells_32 : decode cX4_digestSwells 32 = .ok (.iload 5, 2) := by decide +kernel
theorem dX4_digestSwells_34 : decode cX4_digestSwells 34 = .ok (.iload 6, 2) := by decide +kernel
theorem dX4_digestSwells_36 : decode cX4_digestSwells 36 = .ok (.invokevirtual 311, 3) := by decide +kernel
theorem dX4_digestSwells_39 : decode cX4_digestSwells 39 = .ok (.i2l, 1) := by decide +kernel
theorem dX4_digestSwells_40 : decode cX4_digestSwells 40 = .ok (.ladd, 1) := by decide +kernel
theorem dX4_digestSwells_41 : decode cX4_digestSwells 41 = .ok (.lstore_n 3, 1) := by decide +kernel
theorem dX4_digestSwells_42 : decode cX4_digestSwells 42 = .ok (.iinc 6 1, 3) := by decide +kernel
theorem dX4_digestSwells_45 : decode cX4_digestSwells 45 = .ok (.goto (-25), 3) := by decide +kernel
theorem dX4_digestSwells_48 : decode cX4_digestSwells 48 = .ok (.ldc2_w 284, 3) := by decide +kernel
theorem dX4_digestSwells_51 : decode cX4_digestSwells 51 = .ok (.lload_n 3, 1) := by decide +kernel
theorem dX4_digestSwells_52 : decode cX4_digestSwells 52 = .ok (.lmul, 1) := by decide +kernel
theorem dX4_digestSwells_53 : decode cX4_digestSwells 53 = .ok (.aload_n 0, 1) := by decide +kernel
theorem dX4_digestSwells_54 : decode cX4_digestSwells 54 = .ok (.iconst 0, 1) := by decide +kernel
theorem dX4_digestSwells_55 : decode cX4_digestSwells 55 = .ok (.iload 5, 2) := by decide +kernel
theorem dX4_digestSwells_57 : decode cX4_digestSwells 57 = .ok (.iconst 5, 1) := by decide +kernel
theorem dX4_digestSwells_58 : decode cX4_digestSwells 58 = .ok (.iconst 0, 1) := by decide +kernel
theorem dX4_digestSwells_59 : decode cX4_digestSwells 59 = .ok (.invokevirtual 314, 3) := by decide +kernel
theorem dX4_digestSwells_62 : decode cX4_digestSwells 62 = .ok (.i2l, 1) := by decide +kernel
theorem dX4_digestSwells_63 : decode cX4_digestSwells 63 = .ok (.ladd, 1) := by decide +kernel
theorem dX4_digestSwells_64 : decode cX4_digestSwells 64 = .ok (.lstore_n 3, 1) := by decide +kernel
theorem dX4_digestSwells_65 : decode cX4_digestSwells 65 = .ok (.ldc2_w 284, 3) := by decide +kernel
theorem dX4_digestSwells_68 : decode cX4_digestSwells 68 = .ok (.lload_n 3, 1) := by decide +kernel
theorem dX4_digestSwells_69 : decode cX4_digestSwells 69 = .ok (.lmul, 1) := by decide +kernel
theorem dX4_digestSwells_70 : decode cX4_digestSwells 70 = .ok (.aload_n 0, 1) := by decide +kernel
theorem dX4_digestSwells_71 : decode cX4_digestSwells 71 = .ok (.iconst 0, 1) := by decide +kernel
theorem dX4_digestSwells_72 : decode cX4_digestSwells 72 = .ok (.iload 5, 2) := by decide +kernel
theorem dX4_digestSwells_74 : decode cX4_digestSwells 74 = .ok (.iconst 5, 1) := by decide +kernel
theorem dX4_digestSwells_75 : decode cX4_digestSwells 75 = .ok (.iconst 1, 1) := by decide +kernel
theorem dX4_digestSwells_76 : decode cX4_digestSwells 76 = .ok (.invokevirtual 314, 3) := by decide +kernel
theorem dX4_digestSwells_79 : decode cX4_digestSwells 79 = .ok (.i2l, 1) := by decide +kernel
theorem dX4_digestSwells_80 : decode cX4_digestSwells 80 = .ok (.ladd, 1) := by decide +kernel
theorem dX4_digestSwells_81 : decode cX4_digestSwells 81 = .ok (.lstore_n 3, 1) := by decide +kernel
theorem dX4_digestSwells_82 : decode cX4_digestSwells 82 = .ok (.ldc2_w 284, 3) := by decide +kernel
theorem dX4_digestSwells_85 : decode cX4_digestSwells 85 = .ok (.lload_n 3, 1) := by decide +kernel
theorem dX4_digestSwells_86 : decode cX4_digestSwells 86 = .ok (.lmul, 1) := by decide +kernel
theorem dX4_digestSwells_87 : decode cX4_digestSwells 87 = .ok (.aload_n 0, 1) := by decide +kernel
theorem dX4_digestSwells_88 : decode cX4_digestSwells 88 = .ok (.iload 5, 2) := by decide +kernel
theorem dX4_digestSwells_90 : decode cX4_digestSwells 90 = .ok (.iconst (-1), 1) := by decide +kernel
theorem dX4_digestSwells_91 : decode cX4_digestSwells 91 = .ok (.invokevirtual 318, 3) := by decide +kernel
theorem dX4_digestSwells_94 : decode cX4_digestSwells 94 = .ok (.i2l, 1) := by decide +kernel
theorem dX4_digestSwells_95 : decode cX4_digestSwells 95 = .ok (.ladd, 1) := by decide +kernel
theorem dX4_digestSwells_96 : decode cX4_digestSwells 96 = .ok (.lstore_n 3, 1) := by decide +kernel
theorem dX4_digestSwells_97 : decode cX4_digestSwells 97 = .ok (.ldc2_w 284, 3) := by decide +kernel
theorem dX4_digestSwells_100 : decode cX4_digestSwells 100 = .ok (.lload_n 3, 1) := by decide +kernel
theorem dX4_digestSwells_101 : decode cX4_digestSwells 101 = .ok (.lmul, 1) := by decide +kernel
theorem dX4_digestSwells_102 : decode cX4_digestSwells 102 = .ok (.aload_n 0, 1) := by decide +kernel
theorem dX4_digestSwells_103 : decode cX4_digestSwells 103 = .ok (.iload 5, 2) := by decide +kernel
theorem dX4_digestSwells_105 : decode cX4_digestSwells 105 = .ok (.iconst 0, 1) := by decide +kernel
theorem dX4_digestSwells_106 : decode cX4_digestSwells 106 = .ok (.invokevirtual 318, 3) := by decide +kernel
theorem dX4_digestSwells_109 : decode cX4_digestSwells 109 = .ok (.i2l, 1) := by decide +kernel
theorem dX4_digestSwells_110 : decode cX4_digestSwells 110 = .ok (.ladd, 1) := by decide +kernel
theorem dX4_digestSwells_111 : decode cX4_digestSwells 111 = .ok (.lstore_n 3, 1) := by decide +kernel
theorem dX4_digestSwells_112 : decode cX4_digestSwells 112 = .ok (.iinc 5 1, 3) := by decide +kernel
theorem dX4_digestSwells_115 : decode cX4_digestSwells 115 = .ok (.goto (-110), 3) := by decide +kernel
theorem dX4_digestSwells_118 : decode cX4_digestSwells 118 = .ok (.lload_n 3, 1) := by decide +kernel
theorem dX4_digestSwells_119 : decode cX4_digestSwells 119 = .ok (.lreturn, 1) := by decide +kernel
theorem dX4_digestFinds_0 : decode cX4_digestFinds 0 = .ok (.lload_n 1, 1) := by decide +kernel
theorem dX4_digestFinds_1 : decode cX4_digestFinds 1 = .ok (.lstore_n 3, 1) := by decide +kernel
theorem dX4_digestFinds_2 : decode cX4_digestFinds 2 = .ok (.iconst 0, 1) := by decide +kernel
theorem dX4_digestFinds_3 : decode cX4_digestFinds 3 = .ok (.istore 5, 2) := by decide +kernel
theorem dX4_digestFinds_5 : decode cX4_digestFinds 5 = .ok (.iload 5, 2) := by decide +kernel
theorem dX4_digestFinds_7 : decode cX4_digestFinds 7 = .ok (.aload_n 0, 1) := by decide +kernel
theorem dX4_digestFinds_8 : decode cX4_digestFinds 8 = .ok (.getfield 31, 3) := by decide +kernel
theorem dX4_digestFinds_11 : decode cX4_digestFinds 11 = .ok (.getfield 178, 3) := by decide +kernel
theorem dX4_digestFinds_14 : decode cX4_digestFinds 14 = .ok (.if_icmp .ge 40, 3) := by decide +kernel
theorem dX4_digestFinds_17 : decode cX4_digestFinds 17 = .ok (.iconst 0, 1) := by decide +kernel
theorem dX4_digestFinds_18 : decode cX4_digestFinds 18 = .ok (.istore 6, 2) := by decide +kernel
theorem dX4_digestFinds_20 : decode cX4_digestFinds 20 = .ok (.iload 6, 2) := by decide +kernel
theorem dX4_digestFinds_22 : decode cX4_digestFinds 22 = .ok (.iconst 3, 1) := by decide +kernel
theorem dX4_digestFinds_23 : decode cX4_digestFinds 23 = .ok (.if_icmp .ge 25, 3) := by decide +kernel
theorem dX4_digestFinds_26 : decode cX4_digestFinds 26 = .ok (.ldc2_w 284, 3) := by decide +kernel
theorem dX4_digestFinds_29 : decode cX4_digestFinds 29 = .ok (.lload_n 3, 1) := by decide +kernel
theorem dX4_digestFinds_30 : decode cX4_digestFinds 30 = .ok (.lmul, 1) := by decide +kernel
theorem dX4_digestFinds_31 : decode cX4_digestFinds 31 = .ok (.aload_n 0, 1) := by decide +kernel
theorem dX4_digestFinds_32 : decode cX4_digestFinds 32 = .ok (.iload 5, 2) := by decide +kernel
theorem dX4_digestFinds_34 : decode cX4_digestFinds 34 = .ok (.iload 6, 2) := by decide +kernel
theorem dX4_digestFinds_36 : decode cX4_digestFinds 36 = .ok (.invokevirtual 321, 3) := by decide +kernel
theorem dX4_digestFinds_39 : decode cX4_digestFinds 39 = .ok (.i2l, 1) := by decide +kernel
theorem dX4_digestFinds_40 : decode cX4_digestFinds 40 = .ok (.ladd, 1) := by decide +kernel
theorem dX4_digestFinds_41 : decode cX4_digestFinds 41 = .ok (.lstore_n 3, 1) := by decide +kernel
theorem dX4_digestFinds_42 : decode cX4_digestFinds 42 = .ok (.iinc 6 1, 3) := by decide +kernel
theorem dX4_digestFinds_45 : decode cX4_digestFinds 45 = .ok (.goto (-25), 3) := by decide +kernel
theorem dX4_digestFinds_48 : decode cX4_digestFinds 48 = .ok (.iinc 5 1, 3) := by decide +kernel
theorem dX4_digestFinds_51 : decode cX4_digestFinds 51 = .ok (.goto (-46), 3) := by decide +kernel
theorem dX4_digestFinds_54 : decode cX4_digestFinds 54 = .ok (.lload_n 3, 1) := by decide +kernel
theorem dX4_digestFinds_55 : decode cX4_digestFinds 55 = .ok (.lreturn, 1) := by decide +kernel
theorem dX4_digestTimes_0 : decode cX4_digestTimes 0 = .ok (.lload_n 1, 1) := by decide +kernel
theorem dX4_digestTimes_1 : decode cX4_digestTimes 1 = .ok (.lstore_n 3, 1) := by decide +kernel
theorem dX4_digestTimes_2 : decode cX4_digestTimes 2 = .ok (.getstatic 324, 3) := by decide +kernel
theorem dX4_digestTimes_5 : decode cX4_digestTimes 5 = .ok (.astore 5, 2) := by decide +kernel
theorem dX4_digestTimes_7 : decode cX4_digestTimes 7 = .ok (.aload 5, 2) := by decide +kernel
theorem dX4_digestTimes_9 : decode cX4_digestTimes 9 = .ok (.arraylength, 1) := by decide +kernel
theorem dX4_digestTimes_10 : decode cX4_digestTimes 10 = .ok (.istore 6, 2) := by decide +kernel
theorem dX4_digestTimes_12 : decode cX4_digestTimes 12 = .ok (.iconst 0, 1) := by decide +kernel
theorem dX4_digestTimes_13 : decode cX4_digestTimes 13 = .ok (.istore 7, 2) := by decide +kernel
theorem dX4_digestTimes_15 : decode cX4_digestTimes 15 = .ok (.iload 7, 2) := by decide +kernel
theorem dX4_digestTimes_17 : decode cX4_digestTimes 17 = .ok (.iload 6, 2) := by decide +kernel
theorem dX4_digestTimes_19 : decode cX4_digestTimes 19 = .ok (.if_icmp .ge 76, 3) := by decide +kernel
theorem dX4_digestTimes_22 : decode cX4_digestTimes 22 = .ok (.aload 5, 2) := by decide +kernel
theorem dX4_digestTimes_24 : decode cX4_digestTimes 24 = .ok (.iload 7, 2) := by decide +kernel
theorem dX4_digestTimes_26 : decode cX4_digestTimes 26 = .ok (.iaload, 1) := by decide +kernel
theorem dX4_digestTimes_27 : decode cX4_digestTimes 27 = .ok (.istore 8, 2) := by decide +kernel
theorem dX4_digestTimes_29 : decode cX4_digestTimes 29 = .ok (.ldc2_w 284, 3) := by decide +kernel
theorem dX4_digestTimes_32 : decode cX4_digestTimes 32 = .ok (.lload_n 3, 1) := by decide +kernel
theorem dX4_digestTimes_33 : decode cX4_digestTimes 33 = .ok (.lmul, 1) := by decide +kernel
theorem dX4_digestTimes_34 : decode cX4_digestTimes 34 = .ok (.aload_n 0, 1) := by decide +kernel
theorem dX4_digestTimes_35 : decode cX4_digestTimes 35 = .ok (.iload 8, 2) := by decide +kernel
theorem dX4_digestTimes_37 : decode cX4_digestTimes 37 = .ok (.invokevirtual 327, 3) := by decide +kernel
theorem dX4_digestTimes_40 : decode cX4_digestTimes 40 = .ok (.i2l, 1) := by decide +kernel
theorem dX4_digestTimes_41 : decode cX4_digestTimes 41 = .ok (.ladd, 1) := by decide +kernel
theorem dX4_digestTimes_42 : decode cX4_digestTimes 42 = .ok (.lstore_n 3, 1) := by decide +kernel
theorem dX4_digestTimes_43 : decode cX4_digestTimes 43 = .ok (.iconst 0, 1) := by decide +kernel
theorem dX4_digestTimes_44 : decode cX4_digestTimes 44 = .ok (.istore 9, 2) := by decide +kernel
theorem dX4_digestTimes_46 : decode cX4_digestTimes 46 = .ok (.iload 9, 2) := by decide +kernel
theorem dX4_digestTimes_48 : decode cX4_digestTimes 48 = .ok (.iconst 3, 1) := by decide +kernel
theorem dX4_digestTimes_49 : decode cX4_digestTimes 49 = .ok (.if_icmp .ge 25, 3) := by decide +kernel
theorem dX4_digestTimes_52 : decode cX4_digestTimes 52 = .ok (.ldc2_w 284, 3) := by decide +kernel
theorem dX4_digestTimes_55 : decode cX4_digestTimes 55 = .ok (.lload_n 3, 1) := by decide +kernel
theorem dX4_digestTimes_56 : decode cX4_digestTimes 56 = .ok (.lmul, 1) := by decide +kernel
theorem dX4_digestTimes_57 : decode cX4_digestTimes 57 = .ok (.aload_n 0, 1) := by decide +kernel
theorem dX4_digestTimes_58 : decode cX4_digestTimes 58 = .ok (.iload 8, 2) := by decide +kernel
theorem dX4_digestTimes_60 : decode cX4_digestTimes 60 = .ok (.iload 9, 2) := by decide +kernel
theorem dX4_digestTimes_62 : decode cX4_digestTimes 62 = .ok (.invokevirtual 330, 3) := by decide +kernel
theorem dX4_digestTimes_65 : decode cX4_digestTimes 65 = .ok (.i2l, 1) := by decide +kernel
theorem dX4_digestTimes_66 : decode cX4_digestTimes 66 = .ok (.ladd, 1) := by decide +kernel
theorem dX4_digestTimes_67 : decode cX4_digestTimes 67 = .ok (.lstore_n 3, 1) := by decide +kernel
theorem dX4_digestTimes_68 : decode cX4_digestTimes 68 = .ok (.iinc 9 1, 3) := by decide +kernel
theorem dX4_digestTimes_71 : decode cX4_digestTimes 71 = .ok (.goto (-25), 3) := by decide +kernel
theorem dX4_digestTimes_74 : decode cX4_digestTimes 74 = .ok (.ldc2_w 284, 3) := by decide +kernel
theorem dX4_digestTimes_77 : decode cX4_digestTimes 77 = .ok (.lload_n 3, 1) := by decide +kernel
theorem dX4_digestTimes_78 : decode cX4_digestTimes 78 = .ok (.lmul, 1) := by decide +kernel
theorem dX4_digestTimes_79 : decode cX4_digestTimes 79 = .ok (.aload_n 0, 1) := by decide +kernel
theorem dX4_digestTimes_80 : decode cX4_digestTimes 80 = .ok (.iconst 0, 1) := by decide +kernel
theorem dX4_digestTimes_81 : decode cX4_digestTimes 81 = .ok (.iload 8, 2) := by decide +kernel
theorem dX4_digestTimes_83 : decode cX4_digestTimes 83 = .ok (.invokevirtual 333, 3) := by decide +kernel
theorem dX4_digestTimes_86 : decode cX4_digestTimes 86 = .ok (.i2l, 1) := by decide +kernel
theorem dX4_digestTimes_87 : decode cX4_digestTimes 87 = .ok (.ladd, 1) := by decide +kernel
theorem dX4_digestTimes_88 : decode cX4_digestTimes 88 = .ok (.lstore_n 3, 1) := by decide +kernel
theorem dX4_digestTimes_89 : decode cX4_digestTimes 89 = .ok (.iinc 7 1, 3) := by decide +kernel
theorem dX4_digestTimes_92 : decode cX4_digestTimes 92 = .ok (.goto (-77), 3) := by decide +kernel
theorem dX4_digestTimes_95 : decode cX4_digestTimes 95 = .ok (.lload_n 3, 1) := by decide +kernel
theorem dX4_digestTimes_96 : decode cX4_digestTimes 96 = .ok (.lreturn, 1) := by decide +kernel
theorem dX4_digestNumbers_0 : decode cX4_digestNumbers 0 = .ok (.lload_n 1, 1) := by decide +kernel
theorem dX4_digestNumbers_1 : decode cX4_digestNumbers 1 = .ok (.lstore_n 3, 1) := by decide +kernel
theorem dX4_digestNumbers_2 : decode cX4_digestNumbers 2 = .ok (.getstatic 336, 3) := by decide +kernel
theorem dX4_digestNumbers_5 : decode cX4_digestNumbers 5 = .ok (.astore 5, 2) := by decide +kernel
theorem dX4_digestNumbers_7 : decode cX4_digestNumbers 7 = .ok (.aload 5, 2) := by decide +kernel
theorem dX4_digestNumbers_9 : decode cX4_digestNumbers 9 = .ok (.arraylength, 1) := by decide +kernel
theorem dX4_digestNumbers_10 : decode cX4_digestNumbers 10 = .ok (.istore 6, 2) := by decide +kernel
theorem dX4_digestNumbers_12 : decode cX4_digestNumbers 12 = .ok (.iconst 0, 1) := by decide +kernel
theorem dX4_digestNumbers_13 : decode cX4_digestNumbers 13 = .ok (.istore 7, 2) := by decide +kernel
theorem dX4_digestNumbers_15 : decode cX4_digestNumbers 15 = .ok (.iload 7, 2) := by decide +kernel
theorem dX4_digestNumbers_17 : decode cX4_digestNumbers 17 = .ok (.iload 6, 2) := by decide +kernel
theorem dX4_digestNumbers_19 : decode cX4_digestNumbers 19 = .ok (.if_icmp .ge 44, 3) := by decide +kernel
theorem dX4_digestNumbers_22 : decode cX4_digestNumbers 22 = .ok (.aload 5, 2) := by decide +kernel
theorem dX4_digestNumbers_24 : decode cX4_digestNumbers 24 = .ok (.iload 7, 2) := by decide +kernel
theorem dX4_digestNumbers_26 : decode cX4_digestNumbers 26 = .ok (.iaload, 1) := by decide +kernel
theorem dX4_digestNumbers_27 : decode cX4_digestNumbers 27 = .ok (.istore 8, 2) := by decide +kernel
theorem dX4_digestNumbers_29 : decode cX4_digestNumbers 29 = .ok (.ldc2_w 284, 3) := by decide +kernel
theorem dX4_digestNumbers_32 : decode cX4_digestNumbers 32 = .ok (.lload_n 3, 1) := by decide +kernel
theorem dX4_digestNumbers_33 : decode cX4_digestNumbers 33 = .ok (.lmul, 1) := by decide +kernel
theorem dX4_digestNumbers_34 : decode cX4_digestNumbers 34 = .ok (.aload_n 0, 1) := by decide +kernel
theorem dX4_digestNumbers_35 : decode cX4_digestNumbers 35 = .ok (.iload 8, 2) := by decide +kernel
theorem dX4_digestNumbers_37 : decode cX4_digestNumbers 37 = .ok (.invokevirtual 339, 3) := by decide +kernel
theorem dX4_digestNumbers_40 : decode cX4_digestNumbers 40 = .ok (.i2l, 1) := by decide +kernel
theorem dX4_digestNumbers_41 : decode cX4_digestNumbers 41 = .ok (.ladd, 1) := by decide +kernel
theorem dX4_digestNumbers_42 : decode cX4_digestNumbers 42 = .ok (.lstore_n 3, 1) := by decide +kernel
theorem dX4_digestNumbers_43 : decode cX4_digestNumbers 43 = .ok (.ldc2_w 284, 3) := by decide +kernel
theorem dX4_digestNumbers_46 : decode cX4_digestNumbers 46 = .ok (.lload_n 3, 1) := by decide +kernel
theorem dX4_digestNumbers_47 : decode cX4_digestNumbers 47 = .ok (.lmul, 1) := by decide +kernel
theorem dX4_digestNumbers_48 : decode cX4_digestNumbers 48 = .ok (.aload_n 0, 1) := by decide +kernel
theorem dX4_digestNumbers_49 : decode cX4_digestNumbers 49 = .ok (.iload 8, 2) := by decide +kernel
theorem dX4_digestNumbers_51 : decode cX4_digestNumbers 51 = .ok (.invokevirtual 342, 3) := by decide +kernel
theorem dX4_digestNumbers_54 : decode cX4_digestNumbers 54 = .ok (.i2l, 1) := by decide +kernel
theorem dX4_digestNumbers_55 : decode cX4_digestNumbers 55 = .ok (.ladd, 1) := by decide +kernel
theorem dX4_digestNumbers_56 : decode cX4_digestNumbers 56 = .ok (.lstore_n 3, 1) := by decide +kernel
theorem dX4_digestNumbers_57 : decode cX4_digestNumbers 57 = .ok (.iinc 7 1, 3) := by decide +kernel
theorem dX4_digestNumbers_60 : decode cX4_digestNumbers 60 = .ok (.goto (-45), 3) := by decide +kernel
theorem dX4_digestNumbers_63 : decode cX4_digestNumbers 63 = .ok (.lload_n 3, 1) := by decide +kernel
theorem dX4_digestNumbers_64 : decode cX4_digestNumbers 64 = .ok (.lreturn, 1) := by decide +kernel
theorem dX4_digestTickets_0 : decode cX4_digestTickets 0 = .ok (.lload_n 1, 1) := by decide +kernel
theorem dX4_digestTickets_1 : decode cX4_digestTickets 1 = .ok (.lstore_n 3, 1) := by decide +kernel
theorem dX4_digestTickets_2 : decode cX4_digestTickets 2 = .ok (.iconst 0, 1) := by decide +kernel
theorem dX4_digestTickets_3 : decode cX4_digestTickets 3 = .ok (.istore 5, 2) := by decide +kernel
theorem dX4_digestTickets_5 : decode cX4_digestTickets 5 = .ok (.iload 5, 2) := by decide +kernel
theorem dX4_digestTickets_7 : decode cX4_digestTickets 7 = .ok (.bipush 8, 2) := by decide +kernel
theorem dX4_digestTickets_9 : decode cX4_digestTickets 9 = .ok (.if_icmp .ge 53, 3) := by decide +kernel
theorem dX4_digestTickets_12 : decode cX4_digestTickets 12 = .ok (.ldc2_w 284, 3) := by decide +kernel
theorem dX4_digestTickets_15 : decode cX4_digestTickets 15 = .ok (.lload_n 3, 1) := by decide +kernel
theorem dX4_digestTickets_16 : decode cX4_digestTickets 16 = .ok (.lmul, 1) := by decide +kernel
theorem dX4_digestTickets_17 : decode cX4_digestTickets 17 = .ok (.aload_n 0, 1) := by decide +kernel
theorem dX4_digestTickets_18 : decode cX4_digestTickets 18 = .ok (.iload 5, 2) := by decide +kernel
theorem dX4_digestTickets_20 : decode cX4_digestTickets 20 = .ok (.invokevirtual 345, 3) := by decide +kernel
theorem dX4_digestTickets_23 : decode cX4_digestTickets 23 = .ok (.i2l, 1) := by decide +kernel
theorem dX4_digestTickets_24 : decode cX4_digestTickets 24 = .ok (.ladd, 1) := by decide +kernel
theorem dX4_digestTickets_25 : decode cX4_digestTickets 25 = .ok (.lstore_n 3, 1) := by decide +kernel
theorem dX4_digestTickets_26 : decode cX4_digestTickets 26 = .ok (.ldc2_w 284, 3) := by decide +kernel
theorem dX4_digestTickets_29 : decode cX4_digestTickets 29 = .ok (.lload_n 3, 1) := by decide +kernel
theorem dX4_digestTickets_30 : decode cX4_digestTickets 30 = .ok (.lmul, 1) := by decide +kernel
theorem dX4_digestTickets_31 : decode cX4_digestTickets 31 = .ok (.aload_n 0, 1) := by decide +kernel
theorem dX4_digestTickets_32 : decode cX4_digestTickets 32 = .ok (.iload 5, 2) := by decide +kernel
theorem dX4_digestTickets_34 : decode cX4_digestTickets 34 = .ok (.iconst 0, 1) := by decide +kernel
theorem dX4_digestTickets_35 : decode cX4_digestTickets 35 = .ok (.invokevirtual 348, 3) := by decide +kernel
theorem dX4_digestTickets_38 : decode cX4_digestTickets 38 = .ok (.i2l, 1) := by decide +kernel
theorem dX4_digestTickets_39 : decode cX4_digestTickets 39 = .ok (.ladd, 1) := by decide +kernel
theorem dX4_digestTickets_40 : decode cX4_digestTickets 40 = .ok (.lstore_n 3, 1) := by decide +kernel
theorem dX4_digestTickets_41 : decode cX4_digestTickets 41 = .ok (.ldc2_w 284, 3) := by decide +kernel
theorem dX4_digestTickets_44 : decode cX4_digestTickets 44 = .ok (.lload_n 3, 1) := by decide +kernel
theorem dX4_digestTickets_45 : decode cX4_digestTickets 45 = .ok (.lmul, 1) := by decide +kernel
theorem dX4_digestTickets_46 : decode cX4_digestTickets 46 = .ok (.aload_n 0, 1) := by decide +kernel
theorem dX4_digestTickets_47 : decode cX4_digestTickets 47 = .ok (.iload 5, 2) := by decide +kernel
theorem dX4_digestTickets_49 : decode cX4_digestTickets 49 = .ok (.iconst 1, 1) := by decide +kernel
theorem dX4_digestTickets_50 : decode cX4_digestTickets 50 = .ok (.invokevirtual 348, 3) := by decide +kernel
theorem dX4_digestTickets_53 : decode cX4_digestTickets 53 = .ok (.i2l, 1) := by decide +kernel
theorem dX4_digestTickets_54 : decode cX4_digestTickets 54 = .ok (.ladd, 1) := by decide +kernel
theorem dX4_digestTickets_55 : decode cX4_digestTickets 55 = .ok (.lstore_n 3, 1) := by decide +kernel
theorem dX4_digestTickets_56 : decode cX4_digestTickets 56 = .ok (.iinc 5 1, 3) := by decide +kernel
theorem dX4_digestTickets_59 : decode cX4_digestTickets 59 = .ok (.goto (-54), 3) := by decide +kernel
theorem dX4_digestTickets_62 : decode cX4_digestTickets 62 = .ok (.iconst 0, 1) := by decide +kernel
theorem dX4_digestTickets_63 : decode cX4_digestTickets 63 = .ok (.istore 5, 2) := by decide +kernel
theorem dX4_digestTickets_65 : decode cX4_digestTickets 65 = .ok (.iload 5, 2) := by decide +kernel
theorem dX4_digestTickets_67 : decode cX4_digestTickets 67 = .ok (.aload_n 0, 1) := by decide +kernel
theorem dX4_digestTickets_68 : decode cX4_digestTickets 68 = .ok (.getfield 46, 3) := by decide +kernel
theorem dX4_digestTickets_71 : decode cX4_digestTickets 71 = .ok (.getfield 127, 3) := by decide +kernel
theorem dX4_digestTickets_74 : decode cX4_digestTickets 74 = .ok (.if_icmp .ge 23, 3) := by decide +kernel
theorem dX4_digestTickets_77 : decode cX4_digestTickets 77 = .ok (.ldc2_w 284, 3) := by decide +kernel
theorem dX4_digestTickets_80 : decode cX4_digestTickets 80 = .ok (.lload_n 3, 1) := by decide +kernel
theorem dX4_digestTickets_81 : decode cX4_digestTickets 81 = .ok (.lmul, 1) := by decide +kernel
theorem dX4_digestTickets_82 : decode cX4_digestTickets 82 = .ok (.aload_n 0, 1) := by decide +kernel
theorem dX4_digestTickets_83 : decode cX4_digestTickets 83 = .ok (.iload 5, 2) := by decide +kernel
theorem dX4_digestTickets_85 : decode cX4_digestTickets 85 = .ok (.invokevirtual 351, 3) := by decide +kernel
theorem dX4_digestTickets_88 : decode cX4_digestTickets 88 = .ok (.i2l, 1) := by decide +kernel
theorem dX4_digestTickets_89 : decode cX4_digestTickets 89 = .ok (.ladd, 1) := by decide +kernel
theorem dX4_digestTickets_90 : decode cX4_digestTickets 90 = .ok (.lstore_n 3, 1) := by decide +kernel
theorem dX4_digestTickets_91 : decode cX4_digestTickets 91 = .ok (.iinc 5 1, 3) := by decide +kernel
theorem dX4_digestTickets_94 : decode cX4_digestTickets 94 = .ok (.goto (-29), 3) := by decide +kernel
theorem dX4_digestTickets_97 : decode cX4_digestTickets 97 = .ok (.lload_n 3, 1) := by decide +kernel
theorem dX4_digestTickets_98 : decode cX4_digestTickets 98 = .ok (.lreturn, 1) := by decide +kernel
theorem dX4_digestPlans_0 : decode cX4_digestPlans 0 = .ok (.lload_n 1, 1) := by decide +kernel
theorem dX4_digestPlans_1 : decode cX4_digestPlans 1 = .ok (.lstore_n 3, 1) := by decide +kernel
theorem dX4_digestPlans_2 : decode cX4_digestPlans 2 = .ok (.ldc2_w 284, 3) := by decide +kernel
theorem dX4_digestPlans_5 : decode cX4_digestPlans 5 = .ok (.lload_n 3, 1) := by decide +kernel
theorem dX4_digestPlans_6 : decode cX4_digestPlans 6 = .ok (.lmul, 1) := by decide +kernel
theorem dX4_digestPlans_7 : decode cX4_digestPlans 7 = .ok (.aload_n 0, 1) := by decide +kernel
theorem dX4_digestPlans_8 : decode cX4_digestPlans 8 = .ok (.iconst 3, 1) := by decide +kernel
theorem dX4_digestPlans_9 : decode cX4_digestPlans 9 = .ok (.iconst 0, 1) := by decide +kernel
theorem dX4_digestPlans_10 : decode cX4_digestPlans 10 = .ok (.invokevirtual 354, 3) := by decide +kernel
theorem dX4_digestPlans_13 : decode cX4_digestPlans 13 = .ok (.i2l, 1) := by decide +kernel
theorem dX4_digestPlans_14 : decode cX4_digestPlans 14 = .ok (.ladd, 1) := by decide +kernel
theorem dX4_digestPlans_15 : decode cX4_digestPlans 15 = .ok (.lstore_n 3, 1) := by decide +kernel
theorem dX4_digestPlans_16 : decode cX4_digestPlans 16 = .ok (.ldc2_w 284, 3) := by decide +kernel
theorem dX4_digestPlans_19 : decode cX4_digestPlans 19 = .ok (.lload_n 3, 1) := by decide +kernel
theorem dX4_digestPlans_20 : decode cX4_digestPlans 20 = .ok (.lmul, 1) := by decide +kernel
theorem dX4_digestPlans_21 : decode cX4_digestPlans 21 = .ok (.aload_n 0, 1) := by decide +kernel
theorem dX4_digestPlans_22 : decode cX4_digestPlans 22 = .ok (.iconst 3, 1) := by decide +kernel
theorem dX4_digestPlans_23 : decode cX4_digestPlans 23 = .ok (.iconst 1, 1) := by decide +kernel
theorem dX4_digestPlans_24 : decode cX4_digestPlans 24 = .ok (.invokevirtual 354, 3) := by decide +kernel
theorem dX4_digestPlans_27 : decode cX4_digestPlans 27 = .ok (.i2l, 1) := by decide +kernel
theorem dX4_digestPlans_28 : decode cX4_digestPlans 28 = .ok (.ladd, 1) := by decide +kernel
theorem dX4_digestPlans_29 : decode cX4_digestPlans 29 = .ok (.lstore_n 3, 1) := by decide +kernel
theorem dX4_digestPlans_30 : decode cX4_digestPlans 30 = .ok (.ldc2_w 284, 3) := by decide +kernel
theorem dX4_digestPlans_33 : decode cX4_digestPlans 33 = .ok (.lload_n 3, 1) := by decide +kernel
theorem dX4_digestPlans_34 : decode cX4_digestPlans 34 = .ok (.lmul, 1) := by decide +kernel
theorem dX4_digestPlans_35 : decode cX4_digestPlans 35 = .ok (.aload_n 0, 1) := by decide +kernel
theorem dX4_digestPlans_36 : decode cX4_digestPlans 36 = .ok (.bipush 9, 2) := by decide +kernel
theorem dX4_digestPlans_38 : decode cX4_digestPlans 38 = .ok (.invokevirtual 357, 3) := by decide +kernel
theorem dX4_digestPlans_41 : decode cX4_digestPlans 41 = .ok (.i2l, 1) := by decide +kernel
theorem dX4_digestPlans_42 : decode cX4_digestPlans 42 = .ok (.ladd, 1) := by decide +kernel
theorem dX4_digestPlans_43 : decode cX4_digestPlans 43 = .ok (.lstore_n 3, 1) := by decide +kernel
theorem dX4_digestPlans_44 : decode cX4_digestPlans 44 = .ok (.ldc2_w 284, 3) := by decide +kernel
theorem dX4_digestPlans_47 : decode cX4_digestPlans 47 = .ok (.lload_n 3, 1) := by decide +kernel
theorem dX4_digestPlans_48 : decode cX4_digestPlans 48 = .ok (.lmul, 1) := by decide +kernel
theorem dX4_digestPlans_49 : decode cX4_digestPlans 49 = .ok (.aload_n 0, 1) := by decide +kernel
theorem dX4_digestPlans_50 : decode cX4_digestPlans 50 = .ok (.iconst 1, 1) := by decide +kernel
theorem dX4_digestPlans_51 : decode cX4_digestPlans 51 = .ok (.invokevirtual 360, 3) := by decide +kernel
theorem dX4_digestPlans_54 : decode cX4_digestPlans 54 = .ok (.i2l, 1) := by decide +kernel
theorem dX4_digestPlans_55 : decode cX4_digestPlans 55 = .ok (.ladd, 1) := by decide +kernel
theorem dX4_digestPlans_56 : decode cX4_digestPlans 56 = .ok (.lstore_n 3, 1) := by decide +kernel
theorem dX4_digestPlans_57 : decode cX4_digestPlans 57 = .ok (.ldc2_w 284, 3) := by decide +kernel
theorem dX4_digestPlans_60 : decode cX4_digestPlans 60 = .ok (.lload_n 3, 1) := by decide +kernel
theorem dX4_digestPlans_61 : decode cX4_digestPlans 61 = .ok (.lmul, 1) := by decide +kernel
theorem dX4_digestPlans_62 : decode cX4_digestPlans 62 = .ok (.aload_n 0, 1) := by decide +kernel
theorem dX4_digestPlans_63 : decode cX4_digestPlans 63 = .ok (.iconst (-1), 1) := by decide +kernel
theorem dX4_digestPlans_64 : decode cX4_digestPlans 64 = .ok (.invokevirtual 363, 3) := by decide +kernel
theorem dX4_digestPlans_67 : decode cX4_digestPlans 67 = .ok (.i2l, 1) := by decide +kernel
theorem dX4_digestPlans_68 : decode cX4_digestPlans 68 = .ok (.ladd, 1) := by decide +kernel
theorem dX4_digestPlans_69 : decode cX4_digestPlans 69 = .ok (.lstore_n 3, 1) := by decide +kernel
theorem dX4_digestPlans_70 : decode cX4_digestPlans 70 = .ok (.ldc2_w 284, 3) := by decide +kernel
theorem dX4_digestPlans_73 : decode cX4_digestPlans 73 = .ok (.lload_n 3, 1) := by decide +kernel
theorem dX4_digestPlans_74 : decode cX4_digestPlans 74 = .ok (.lmul, 1) := by decide +kernel
theorem dX4_digestPlans_75 : decode cX4_digestPlans 75 = .ok (.aload_n 0, 1) := by decide +kernel
theorem dX4_digestPlans_76 : decode cX4_digestPlans 76 = .ok (.iconst 0, 1) := by decide +kernel
theorem dX4_digestPlans_77 : decode cX4_digestPlans 77 = .ok (.invokevirtual 363, 3) := by decide +kernel
theorem dX4_digestPlans_80 : decode cX4_digestPlans 80 = .ok (.i2l, 1) := by decide +kernel
theorem dX4_digestPlans_81 : decode cX4_digestPlans 81 = .ok (.ladd, 1) := by decide +kernel
theorem dX4_digestPlans_82 : decode cX4_digestPlans 82 = .ok (.lstore_n 3, 1) := by decide +kernel
theorem dX4_digestPlans_83 : decode cX4_digestPlans 83 = .ok (.ldc2_w 284, 3) := by decide +kernel
theorem dX4_digestPlans_86 : decode cX4_digestPlans 86 = .ok (.lload_n 3, 1) := by decide +kernel
theorem dX4_digestPlans_87 : decode cX4_digestPlans 87 = .ok (.lmul, 1) := by decide +kernel
theorem dX4_digestPlans_88 : decode cX4_digestPlans 88 = .ok (.aload_n 0, 1) := by decide +kernel
theorem dX4_digestPlans_89 : decode cX4_digestPlans 89 = .ok (.iconst 5, 1) := by decide +kernel
theorem dX4_digestPlans_90 : decode cX4_digestPlans 90 = .ok (.iconst 4, 1) := by decide +kernel
theorem dX4_digestPlans_91 : decode cX4_digestPlans 91 = .ok (.iconst 0, 1) := by decide +kernel
theorem dX4_digestPlans_92 : decode cX4_digestPlans 92 = .ok (.invokevirtual 366, 3) := by decide +kernel
theorem dX4_digestPlans_95 : decode cX4_digestPlans 95 = .ok (.ladd, 1) := by decide +kernel
theorem dX4_digestPlans_96 : decode cX4_digestPlans 96 = .ok (.lstore_n 3, 1) := by decide +kernel
theorem dX4_digestPlans_97 : decode cX4_digestPlans 97 = .ok (.ldc2_w 284, 3) := by decide +kernel
theorem dX4_digestPlans_100 : decode cX4_digestPlans 100 = .ok (.lload_n 3, 1) := by decide +kernel
theorem dX4_digestPlans_101 : decode cX4_digestPlans 101 = .ok (.lmul, 1) := by decide +kernel
theorem dX4_digestPlans_102 : decode cX4_digestPlans 102 = .ok (.aload_n 0, 1) := by decide +kernel
theorem dX4_digestPlans_103 : decode cX4_digestPlans 103 = .ok (.iconst 5, 1) := by decide +kernel
theorem dX4_digestPlans_104 : decode cX4_digestPlans 104 = .ok (.iconst 4, 1) := by decide +kernel
theorem dX4_digestPlans_105 : decode cX4_digestPlans 105 = .ok (.iconst 1, 1) := by decide +kernel
theorem dX4_digestPlans_106 : decode cX4_digestPlans 106 = .ok (.invokevirtual 366, 3) := by decide +kernel
theorem dX4_digestPlans_109 : decode cX4_digestPlans 109 = .ok (.ladd, 1) := by decide +kernel
theorem dX4_digestPlans_110 : decode cX4_digestPlans 110 = .ok (.lstore_n 3, 1) := by decide +kernel
theorem dX4_digestPlans_111 : decode cX4_digestPlans 111 = .ok (.ldc2_w 284, 3) := by decide +kernel
theorem dX4_digestPlans_114 : decode cX4_digestPlans 114 = .ok (.lload_n 3, 1) := by decide +kernel
theorem dX4_digestPlans_115 : decode cX4_digestPlans 115 = .ok (.lmul, 1) := by decide +kernel
theorem dX4_digestPlans_116 : decode cX4_digestPlans 116 = .ok (.aload_n 0, 1) := by decide +kernel
theorem dX4_digestPlans_117 : decode cX4_digestPlans 117 = .ok (.bipush 7, 2) := by decide +kernel
theorem dX4_digestPlans_119 : decode cX4_digestPlans 119 = .ok (.bipush 30, 2) := by decide +kernel
theorem dX4_digestPlans_121 : decode cX4_digestPlans 121 = .ok (.iconst 0, 1) := by decide +kernel
theorem dX4_digestPlans_122 : decode cX4_digestPlans 122 = .ok (.invokevirtual 370, 3) := by decide +kernel
theorem dX4_digestPlans_125 : decode cX4_digestPlans 125 = .ok (.i2l, 1) := by decide +kernel
theorem dX4_digestPlans_126 : decode cX4_digestPlans 126 = .ok (.ladd, 1) := by decide +kernel
theorem dX4_digestPlans_127 : decode cX4_digestPlans 127 = .ok (.lstore_n 3, 1) := by decide +kernel
theorem dX4_digestPlans_128 : decode cX4_digestPlans 128 = .ok (.ldc2_w 284, 3) := by decide +kernel
theorem dX4_digestPlans_131 : decode cX4_digestPlans 131 = .ok (.lload_n 3, 1) := by decide +kernel
theorem dX4_digestPlans_132 : decode cX4_digestPlans 132 = .ok (.lmul, 1) := by decide +kernel
theorem dX4_digestPlans_133 : decode cX4_digestPlans 133 = .ok (.aload_n 0, 1) := by decide +kernel
theorem dX4_digestPlans_134 : decode cX4_digestPlans 134 = .ok (.bipush 7, 2) := by decide +kernel
theorem dX4_digestPlans_136 : decode cX4_digestPlans 136 = .ok (.bipush 30, 2) := by decide +kernel
theorem dX4_digestPlans_138 : decode cX4_digestPlans 138 = .ok (.iconst 1, 1) := by decide +kernel
theorem dX4_digestPlans_139 : decode cX4_digestPlans 139 = .ok (.invokevirtual 370, 3) := by decide +kernel
theorem dX4_digestPlans_142 : decode cX4_digestPlans 142 = .ok (.i2l, 1) := by decide +kernel
theorem dX4_digestPlans_143 : decode cX4_digestPlans 143 = .ok (.ladd, 1) := by decide +kernel
theorem dX4_digestPlans_144 : decode cX4_digestPlans 144 = .ok (.lstore_n 3, 1) := by decide +kernel
theorem dX4_digestPlans_145 : decode cX4_digestPlans 145 = .ok (.lload_n 3, 1) := by decide +kernel
theorem dX4_digestPlans_146 : decode cX4_digestPlans 146 = .ok (.lreturn, 1) := by decide +kernel
theorem dX4_isBelow_0 : decode cX4_isBelow 0 = .ok (.iload_n 0, 1) := by decide +kernel
theorem dX4_isBelow_1 : decode cX4_isBelow 1 = .ok (.ifCond .lt 12, 3) := by decide +kernel
theorem dX4_isBelow_4 : decode cX4_isBelow 4 = .ok (.iload_n 0, 1) := by decide +kernel
theorem dX4_isBelow_5 : decode cX4_isBelow 5 = .ok (.iload_n 1, 1) := by decide +kernel
theorem dX4_isBelow_6 : decode cX4_isBelow 6 = .ok (.if_icmp .ge 7, 3) := by decide +kernel
theorem dX4_isBelow_9 : decode cX4_isBelow 9 = .ok (.iconst 1, 1) := by decide +kernel
theorem dX4_isBelow_10 : decode cX4_isBelow 10 = .ok (.goto 4, 3) := by decide +kernel
theorem dX4_isBelow_13 : decode cX4_isBelow 13 = .ok (.iconst 0, 1) := by decide +kernel
theorem dX4_isBelow_14 : decode cX4_isBelow 14 = .ok (.ireturn, 1) := by decide +kernel
theorem dX4_isFrom_0 : decode cX4_isFrom 0 = .ok (.iload_n 0, 1) := by decide +kernel
theorem dX4_isFrom_1 : decode cX4_isFrom 1 = .ok (.iload_n 1, 1) := by decide +kernel
theorem dX4_isFrom_2 : decode cX4_isFrom 2 = .ok (.if_icmp .lt 12, 3) := by decide +kernel
theorem dX4_isFrom_5 : decode cX4_isFrom 5 = .ok (.iload_n 0, 1) := by decide +kernel
theorem dX4_isFrom_6 : decode cX4_isFrom 6 = .ok (.iload_n 2, 1) := by decide +kernel
theorem dX4_isFrom_7 : decode cX4_isFrom 7 = .ok (.if_icmp .gt 7, 3) := by decide +kernel
theorem dX4_isFrom_10 : decode cX4_isFrom 10 = .ok (.iconst 1, 1) := by decide +kernel
theorem dX4_isFrom_11 : decode cX4_isFrom 11 = .ok (.goto 4, 3) := by decide +kernel
theorem dX4_isFrom_14 : decode cX4_isFrom 14 = .ok (.iconst 0, 1) := by decide +kernel
theorem dX4_isFrom_15 : decode cX4_isFrom 15 = .ok (.ireturn, 1) := by decide +kernel
theorem dX4_isTime_0 : decode cX4_isTime 0 = .ok (.iload_n 0, 1) := by decide +kernel
theorem dX4_isTime_1 : decode cX4_isTime 1 = .ok (.sipush 240, 3) := by decide +kernel
theorem dX4_isTime_4 : decode cX4_isTime 4 = .ok (.invokestatic 84, 3) := by decide +kernel
theorem dX4_isTime_7 : decode cX4_isTime 7 = .ok (.ireturn, 1) := by decide +kernel
theorem dX4_isNumber_0 : decode cX4_isNumber 0 = .ok (.iload_n 0, 1) := by decide +kernel
theorem dX4_isNumber_1 : decode cX4_isNumber 1 = .ok (.iconst 1, 1) := by decide +kernel
theorem dX4_isNumber_2 : decode cX4_isNumber 2 = .ok (.sipush 400, 3) := by decide +kernel
theorem dX4_isNumber_5 : decode cX4_isNumber 5 = .ok (.invokestatic 109, 3) := by decide +kernel
theorem dX4_isNumber_8 : decode cX4_isNumber 8 = .ok (.ireturn, 1) := by decide +kernel
theorem dX4_mayBeTicket_0 : decode cX4_mayBeTicket 0 = .ok (.iload_n 0, 1) := by decide +kernel
theorem dX4_mayBeTicket_1 : decode cX4_mayBeTicket 1 = .ok (.bipush 8, 2) := by decide +kernel
theorem dX4_mayBeTicket_3 : decode cX4_mayBeTicket 3 = .ok (.invokestatic 84, 3) := by decide +kernel
theorem dX4_mayBeTicket_6 : decode cX4_mayBeTicket 6 = .ok (.ifCond .eq 14, 3) := by decide +kernel
theorem dX4_mayBeTicket_9 : decode cX4_mayBeTicket 9 = .ok (.iload_n 1, 1) := by decide +kernel
theorem dX4_mayBeTicket_10 : decode cX4_mayBeTicket 10 = .ok (.invokestatic 156, 3) := by decide +kernel
theorem dX4_mayBeTicket_13 : decode cX4_mayBeTicket 13 = .ok (.ifCond .eq 7, 3) := by decide +kernel
theorem dX4_mayBeTicket_16 : decode cX4_mayBeTicket 16 = .ok (.iconst 1, 1) := by decide +kernel
theorem dX4_mayBeTicket_17 : decode cX4_mayBeTicket 17 = .ok (.goto 4, 3) := by decide +kernel
theorem dX4_mayBeTicket_20 : decode cX4_mayBeTicket 20 = .ok (.iconst 0, 1) := by decide +kernel
theorem dX4_mayBeTicket_21 : decode cX4_mayBeTicket 21 = .ok (.ireturn, 1) := by decide +kernel
theorem dX4_textOf_0 : decode cX4_textOf 0 = .ok (.iload_n 1, 1) := by decide +kernel
theorem dX4_textOf_1 : decode cX4_textOf 1 = .ok (.ifCond .ne 10, 3) := by decide +kernel
theorem dX4_textOf_4 : decode cX4_textOf 4 = .ok (.aload_n 0, 1) := by decide +kernel
theorem dX4_textOf_5 : decode cX4_textOf 5 = .ok (.getfield 21, 3) := by decide +kernel
theorem dX4_textOf_8 : decode cX4_textOf 8 = .ok (.goto 7, 3) := by decide +kernel
theorem dX4_textOf_11 : decode cX4_textOf 11 = .ok (.aload_n 0, 1) := by decide +kernel
theorem dX4_textOf_12 : decode cX4_textOf 12 = .ok (.getfield 31, 3) := by decide +kernel
theorem dX4_textOf_15 : decode cX4_textOf 15 = .ok (.areturn, 1) := by decide +kernel
theorem dX4_partOf_0 : decode cX4_partOf 0 = .ok (.iload_n 1, 1) := by decide +kernel
theorem dX4_partOf_1 : decode cX4_partOf 1 = .ok (.aload_n 0, 1) := by decide +kernel
theorem dX4_partOf_2 : decode cX4_partOf 2 = .ok (.getfield 178, 3) := by decide +kernel
theorem dX4_partOf_5 : decode cX4_partOf 5 = .ok (.invokestatic 84, 3) := by decide +kernel
theorem dX4_partOf_8 : decode cX4_partOf 8 = .ok (.ifCond .eq 20, 3) := by decide +kernel
theorem dX4_partOf_11 : decode cX4_partOf 11 = .ok (.iload_n 2, 1) := by decide +kernel
theorem dX4_partOf_12 : decode cX4_partOf 12 = .ok (.iconst 3, 1) := by decide +kernel
theorem dX4_partOf_13 : decode cX4_partOf 13 = .ok (.invokestatic 84, 3) := by decide +kernel
theorem dX4_partOf_16 : decode cX4_partOf 16 = .ok (.ifCond .eq 12, 3) := by decide +kernel
theorem dX4_partOf_19 : decode cX4_partOf 19 = .ok (.aload_n 0, 1) := by decide +kernel
theorem dX4_partOf_20 : decode cX4_partOf 20 = .ok (.iload_n 1, 1) := by decide +kernel
theorem dX4_partOf_21 : decode cX4_partOf 21 = .ok (.iload_n 2, 1) := by decide +kernel
theorem dX4_partOf_22 : decode cX4_partOf 22 = .ok (.invokevirtual 181, 3) := by decide +kernel
theorem dX4_partOf_25 : decode cX4_partOf 25 = .ok (.goto 5, 3) := by decide +kernel
theorem dX4_partOf_28 : decode cX4_partOf 28 = .ok (.bipush (-2), 2) := by decide +kernel
theorem dX4_partOf_30 : decode cX4_partOf 30 = .ok (.ireturn, 1) := by decide +kernel
theorem dX4_tell_0 : decode cX4_tell 0 = .ok (.aload_n 1, 1) := by decide +kernel
theorem dX4_tell_1 : decode cX4_tell 1 = .ok (.iload_n 2, 1) := by decide +kernel
theorem dX4_tell_2 : decode cX4_tell 2 = .ok (.iload_n 3, 1) := by decide +kernel
theorem dX4_tell_3 : decode cX4_tell 3 = .ok (.invokevirtual 138, 3) := by decide +kernel
theorem dX4_tell_6 : decode cX4_tell 6 = .ok (.ifCond .ne 6, 3) := by decide +kernel
theorem dX4_tell_9 : decode cX4_tell 9 = .ok (.bipush (-4), 2) := by decide +kernel
theorem dX4_tell_11 : decode cX4_tell 11 = .ok (.ireturn, 1) := by decide +kernel
theorem dX4_tell_12 : decode cX4_tell 12 = .ok (.aload_n 0, 1) := by decide +kernel
theorem dX4_tell_13 : decode cX4_tell 13 = .ok (.iconst 0, 1) := by decide +kernel
theorem dX4_tell_14 : decode cX4_tell 14 = .ok (.putfield 80, 3) := by decide +kernel
theorem dX4_tell_17 : decode cX4_tell 17 = .ok (.aload_n 1, 1) := by decide +kernel
theorem dX4_tell_18 : decode cX4_tell 18 = .ok (.getfield 127, 3) := by decide +kernel
theorem dX4_tell_21 : decode cX4_tell 21 = .ok (.ireturn, 1) := by decide +kernel
theorem dX4_finding_0 : decode cX4_finding 0 = .ok (.aload_n 0, 1) := by decide +kernel
theorem dX4_finding_1 : decode cX4_finding 1 = .ok (.iload_n 1, 1) := by decide +kernel
theorem dX4_finding_2 : decode cX4_finding 2 = .ok (.putfield 77, 3) := by decide +kernel
theorem dX4_finding_5 : decode cX4_finding 5 = .ok (.bipush (-10), 2) := by decide +kernel
theorem dX4_finding_7 : decode cX4_finding 7 = .ok (.iload_n 1, 1) := by decide +kernel
theorem dX4_finding_8 : decode cX4_finding 8 = .ok (.isub, 1) := by decide +kernel
theorem dX4_finding_9 : decode cX4_finding 9 = .ok (.ireturn, 1) := by decide +kernel
theorem dX4_sheetRefusal_0 : decode cX4_sheetRefusal 0 = .ok (.iload_n 1, 1) := by decide +kernel
theorem dX4_sheetRefusal_1 : decode cX4_sheetRefusal 1 = .ok (.iconst 4, 1) := by decide +kernel
theorem dX4_sheetRefusal_2 : decode cX4_sheetRefusal 2 = .ok (.invokestatic 84, 3) := by decide +kernel
theorem dX4_sheetRefusal_5 : decode cX4_sheetRefusal 5 = .ok (.ifCond .ne 6, 3) := by decide +kernel
theorem dX4_sheetRefusal_8 : decode cX4_sheetRefusal 8 = .ok (.bipush (-2), 2) := by decide +kernel
theorem dX4_sheetRefusal_10 : decode cX4_sheetRefusal 10 = .ok (.ireturn, 1) := by decide +kernel
theorem dX4_sheetRefusal_11 : decode cX4_sheetRefusal 11 = .ok (.aload_n 0, 1) := by decide +kernel
theorem dX4_sheetRefusal_12 : decode cX4_sheetRefusal 12 = .ok (.getfield 61, 3) := by decide +kernel
theorem dX4_sheetRefusal_15 : decode cX4_sheetRefusal 15 = .ok (.iload_n 1, 1) := by decide +kernel
theorem dX4_sheetRefusal_16 : decode cX4_sheetRefusal 16 = .ok (.aaload, 1) := by decide +kernel
theorem dX4_sheetRefusal_17 : decode cX4_sheetRefusal 17 = .ok (.getfield 259, 3) := by decide +kernel
theorem dX4_sheetRefusal_20 : decode cX4_sheetRefusal 20 = .ok (.ifCond .eq 11, 3) := by decide +kernel
theorem dX4_sheetRefusal_23 : decode cX4_sheetRefusal 23 = .ok (.aload_n 0, 1) := by decide +kernel
theorem dX4_sheetRefusal_24 : decode cX4_sheetRefusal 24 = .ok (.iconst 1, 1) := by decide +kernel
theorem dX4_sheetRefusal_25 : decode cX4_sheetRefusal 25 = .ok (.invokevirtual 252, 3) := by decide +kernel
theorem dX4_sheetRefusal_28 : decode cX4_sheetRefusal 28 = .ok (.goto 4, 3) := by decide +kernel
theorem dX4_sheetRefusal_31 : decode cX4_sheetRefusal 31 = .ok (.iconst 0, 1) := by decide +kernel
theorem dX4_sheetRefusal_32 : decode cX4_sheetRefusal 32 = .ok (.ireturn, 1) := by decide +kernel
theorem dX4_itemRefusal_0 : decode cX4_itemRefusal 0 = .ok (.iload_n 2, 1) := by decide +kernel
theorem dX4_itemRefusal_1 : decode cX4_itemRefusal 1 = .ok (.iconst 3, 1) := by decide +kernel
theorem dX4_itemRefusal_2 : decode cX4_itemRefusal 2 = .ok (.invokestatic 84, 3) := by decide +kernel
theorem dX4_itemRefusal_5 : decode cX4_itemRefusal 5 = .ok (.ifCond .ne 6, 3) := by decide +kernel
theorem dX4_itemRefusal_8 : decode cX4_itemRefusal 8 = .ok (.bipush (-2), 2) := by decide +kernel
theorem dX4_itemRefusal_10 : decode cX4_itemRefusal 10 = .ok (.ireturn, 1) := by decide +kernel
theorem dX4_itemRefusal_11 : decode cX4_itemRefusal 11 = .ok (.aload_n 0, 1) := by decide +kernel
theorem dX4_itemRefusal_12 : decode cX4_itemRefusal 12 = .ok (.iload_n 1, 1) := by decide +kernel
theorem dX4_itemRefusal_13 : decode cX4_itemRefusal 13 = .ok (.invokevirtual 130, 3) := by decide +kernel
theorem dX4_itemRefusal_16 : decode cX4_itemRefusal 16 = .ok (.istore 4, 2) := by decide +kernel
theorem dX4_itemRefusal_18 : decode cX4_itemRefusal 18 = .ok (.iload 4, 2) := by decide +kernel
theorem dX4_itemRefusal_20 : decode cX4_itemRefusal 20 = .ok (.ifCond .eq 6, 3) := by decide +kernel
theorem dX4_itemRefusal_23 : decode cX4_itemRefusal 23 = .ok (.iload 4, 2) := by decide +kernel
theorem dX4_itemRefusal_25 : decode cX4_itemRefusal 25 = .ok (.ireturn, 1) := by decide +kernel
theorem dX4_itemRefusal_26 : decode cX4_itemRefusal 26 = .ok (.aload_n 0, 1) := by decide +kernel
theorem dX4_itemRefusal_27 : decode cX4_itemRefusal 27 = .ok (.getfield 61, 3) := by decide +kernel
theorem dX4_itemRefusal_30 : decode cX4_itemRefusal 30 = .ok (.iload_n 1, 1) := by decide +kernel
theorem dX4_itemRefusal_31 : decode cX4_itemRefusal 31 = .ok (.aaload, 1) := by decide +kernel
theorem dX4_itemRefusal_32 : decode cX4_itemRefusal 32 = .ok (.getfield 270, 3) := by decide +kernel
theorem dX4_itemRefusal_35 : decode cX4_itemRefusal 35 = .ok (.iload_n 2, 1) := by decide +kernel
theorem dX4_itemRefusal_36 : decode cX4_itemRefusal 36 = .ok (.if_icmp .eq 9, 3) := by decide +kernel
theorem dX4_itemRefusal_39 : decode cX4_itemRefusal 39 = .ok (.aload_n 0, 1) := by decide +kernel
theorem dX4_itemRefusal_40 : decode cX4_itemRefusal 40 = .ok (.iconst 3, 1) := by decide +kernel
theorem dX4_itemRefusal_41 : decode cX4_itemRefusal 41 = .ok (.invokevirtual 252, 3) := by decide +kernel
theorem dX4_itemRefusal_44 : decode cX4_itemRefusal 44 = .ok (.ireturn, 1) := by decide +kernel
theorem dX4_itemRefusal_45 : decode cX4_itemRefusal 45 = .ok (.iload_n 3, 1) := by decide +kernel
theorem dX4_itemRefusal_46 : decode cX4_itemRefusal 46 = .ok (.aload_n 0, 1) := by decide +kernel
theorem dX4_itemRefusal_47 : decode cX4_itemRefusal 47 = .ok (.getfield 61, 3) := by decide +kernel
theorem dX4_itemRefusal_50 : decode cX4_itemRefusal 50 = .ok (.iload_n 1, 1) := by decide +kernel
theorem dX4_itemRefusal_51 : decode cX4_itemRefusal 51 = .ok (.aaload, 1) := by decide +kernel
theorem dX4_itemRefusal_52 : decode cX4_itemRefusal 52 = .ok (.getfield 134, 3) := by decide +kernel
theorem dX4_itemRefusal_55 : decode cX4_itemRefusal 55 = .ok (.invokestatic 84, 3) := by decide +kernel
theorem dX4_itemRefusal_58 : decode cX4_itemRefusal 58 = .ok (.ifCond .eq 7, 3) := by decide +kernel
theorem dX4_itemRefusal_61 : decode cX4_itemRefusal 61 = .ok (.iconst 0, 1) := by decide +kernel
theorem dX4_itemRefusal_62 : decode cX4_itemRefusal 62 = .ok (.goto 8, 3) := by decide +kernel
theorem dX4_itemRefusal_65 : decode cX4_itemRefusal 65 = .ok (.aload_n 0, 1) := by decide +kernel
theorem dX4_itemRefusal_66 : decode cX4_itemRefusal 66 = .ok (.iconst 2, 1) := by decide +kernel
theorem dX4_itemRefusal_67 : decode cX4_itemRefusal 67 = .ok (.invokevirtual 252, 3) := by decide +kernel
theorem dX4_itemRefusal_70 : decode cX4_itemRefusal 70 = .ok (.ireturn, 1) := by decide +kernel
theorem dX4_waves_0 : decode cX4_waves 0 = .ok (.aload_n 0, 1) := by decide +kernel
theorem dX4_waves_1 : decode cX4_waves 1 = .ok (.getfield 80, 3) := by decide +kernel
theorem dX4_waves_4 : decode cX4_waves 4 = .ok (.ifCond .ne 31, 3) := by decide +kernel
theorem dX4_waves_7 : decode cX4_waves 7 = .ok (.aload_n 0, 1) := by decide +kernel
theorem dX4_waves_8 : decode cX4_waves 8 = .ok (.getfield 55, 3) := by decide +kernel
theorem dX4_waves_11 : decode cX4_waves 11 = .ok (.aload_n 0, 1) := by decide +kernel
theorem dX4_waves_12 : decode cX4_waves 12 = .ok (.getfield 21, 3) := by decide +kernel
theorem dX4_waves_15 : decode cX4_waves 15 = .ok (.aload_n 0, 1) := by decide +kernel
theorem dX4_waves_16 : decode cX4_waves 16 = .ok (.getfield 73, 3) := by decide +kernel
theorem dX4_waves_19 : decode cX4_waves 19 = .ok (.aload_n 0, 1) := by decide +kernel
theorem dX4_waves_20 : decode cX4_waves 20 = .ok (.getfield 43, 3) := by decide +kernel
theorem dX4_waves_23 : decode cX4_waves 23 = .ok (.aload_n 0, 1) := by decide +kernel
theorem dX4_waves_24 : decode cX4_waves 24 = .ok (.getfield 39, 3) := by decide +kernel
theorem dX4_waves_27 : decode cX4_waves 27 = .ok (.invokevirtual 373, 3) := by decide +kernel
theorem dX4_waves_30 : decode cX4_waves 30 = .ok (.aload_n 0, 1) := by decide +kernel
theorem dX4_waves_31 : decode cX4_waves 31 = .ok (.iconst 1, 1) := by decide +kernel
theorem dX4_waves_32 : decode cX4_waves 32 = .ok (.putfield 80, 3) := by decide +kernel
theorem dX4_waves_35 : decode cX4_waves 35 = .ok (.aload_n 0, 1) := by decide +kernel
theorem dX4_waves_36 : decode cX4_waves 36 = .ok (.getfield 55, 3) := by decide +kernel
theorem dX4_waves_39 : decode cX4_waves 39 = .ok (.areturn, 1) := by decide +kernel
theorem dX4_isCrest_0 : decode cX4_isCrest 0 = .ok (.iload_n 2, 1) := by decide +kernel
theorem dX4_isCrest_1 : decode cX4_isCrest 1 = .ok (.ifCond .le 20, 3) := by decide +kernel
theorem dX4_isCrest_4 : decode cX4_isCrest 4 = .ok (.iload_n 0, 1) := by decide +kernel
theorem dX4_isCrest_5 : decode cX4_isCrest 5 = .ok (.iload_n 1, 1) := by decide +kernel
theorem dX4_isCrest_6 : decode cX4_isCrest 6 = .ok (.if_icmp .lt 15, 3) := by decide +kernel
theorem dX4_isCrest_9 : decode cX4_isCrest 9 = .ok (.iload_n 0, 1) := by decide +kernel
theorem dX4_isCrest_10 : decode cX4_isCrest 10 = .ok (.iload_n 1, 1) := by decide +kernel
theorem dX4_isCrest_11 : decode cX4_isCrest 11 = .ok (.isub, 1) := by decide +kernel
theorem dX4_isCrest_12 : decode cX4_isCrest 12 = .ok (.iload_n 2, 1) := by decide +kernel
theorem dX4_isCrest_13 : decode cX4_isCrest 13 = .ok (.irem, 1) := by decide +kernel
theorem dX4_isCrest_14 : decode cX4_isCrest 14 = .ok (.ifCond .ne 7, 3) := by decide +kernel
theorem dX4_isCrest_17 : decode cX4_isCrest 17 = .ok (.iconst 1, 1) := by decide +kernel
theorem dX4_isCrest_18 : decode cX4_isCrest 18 = .ok (.goto 4, 3) := by decide +kernel
theorem dX4_isCrest_21 : decode cX4_isCrest 21 = .ok (.iconst 0, 1) := by decide +kernel
theorem dX4_isCrest_22 : decode cX4_isCrest 22 = .ok (.ireturn, 1) := by decide +kernel
theorem dX4_breaksAt_0 : decode cX4_breaksAt 0 = .ok (.iload_n 0, 1) := by decide +kernel
theorem dX4_breaksAt_1 : decode cX4_breaksAt 1 = .ok (.iconst 1, 1) := by decide +kernel
theorem dX4_breaksAt_2 : decode cX4_breaksAt 2 = .ok (.if_icmp .lt 12, 3) := by decide +kernel
theorem dX4_breaksAt_5 : decode cX4_breaksAt 5 = .ok (.iload_n 0, 1) := by decide +kernel
theorem dX4_breaksAt_6 : decode cX4_breaksAt 6 = .ok (.iload_n 1, 1) := by decide +kernel
theorem dX4_breaksAt_7 : decode cX4_breaksAt 7 = .ok (.if_icmp .lt 7, 3) := by decide +kernel
theorem dX4_breaksAt_10 : decode cX4_breaksAt 10 = .ok (.iconst 1, 1) := by decide +kernel
theorem dX4_breaksAt_11 : decode cX4_breaksAt 11 = .ok (.goto 4, 3) := by decide +kernel
theorem dX4_breaksAt_14 : decode cX4_breaksAt 14 = .ok (.iconst 0, 1) := by decide +kernel
theorem dX4_breaksAt_15 : decode cX4_breaksAt 15 = .ok (.ireturn, 1) := by decide +kernel
theorem dX4_valueOf_0 : decode cX4_valueOf 0 = .ok (.iconst 0, 1) := by decide +kernel
theorem dX4_valueOf_1 : decode cX4_valueOf 1 = .ok (.istore_n 2, 1) := by decide +kernel
theorem dX4_valueOf_2 : decode cX4_valueOf 2 = .ok (.iconst 0, 1) := by decide +kernel
theorem dX4_valueOf_3 : decode cX4_valueOf 3 = .ok (.istore_n 3, 1) := by decide +kernel
theorem dX4_valueOf_4 : decode cX4_valueOf 4 = .ok (.iload_n 3, 1) := by decide +kernel
theorem dX4_valueOf_5 : decode cX4_valueOf 5 = .ok (.aload_n 0, 1) := by decide +kernel
theorem dX4_valueOf_6 : decode cX4_valueOf 6 = .ok (.getfield 31, 3) := by decide +kernel
theorem dX4_valueOf_9 : decode cX4_valueOf 9 = .ok (.getfield 178, 3) := by decide +kernel
theorem dX4_valueOf_12 : decode cX4_valueOf 12 = .ok (.if_icmp .ge 53, 3) := by decide +kernel
theorem dX4_valueOf_15 : decode cX4_valueOf 15 = .ok (.aload_n 0, 1) := by decide +kernel
theorem dX4_valueOf_16 : decode cX4_valueOf 16 = .ok (.getfield 31, 3) := by decide +kernel
theorem dX4_valueOf_19 : decode cX4_valueOf 19 = .ok (.iload_n 3, 1) := by decide +kernel
theorem dX4_valueOf_20 : decode cX4_valueOf 20 = .ok (.iconst 0, 1) := by decide +kernel
theorem dX4_valueOf_21 : decode cX4_valueOf 21 = .ok (.invokevirtual 181, 3) := by decide +kernel
theorem dX4_valueOf_24 : decode cX4_valueOf 24 = .ok (.istore 4, 2) := by decide +kernel
theorem dX4_valueOf_26 : decode cX4_valueOf 26 = .ok (.iload 4, 2) := by decide +kernel
theorem dX4_valueOf_28 : decode cX4_valueOf 28 = .ok (.ifCond .le 31, 3) := by decide +kernel
theorem dX4_valueOf_31 : decode cX4_valueOf 31 = .ok (.iload_n 1, 1) := by decide +kernel
theorem dX4_valueOf_32 : decode cX4_valueOf 32 = .ok (.iload 4, 2) := by decide +kernel
theorem dX4_valueOf_34 : decode cX4_valueOf 34 = .ok (.irem, 1) := by decide +kernel
theorem dX4_valueOf_35 : decode cX4_valueOf 35 = .ok (.aload_n 0, 1) := by decide +kernel
theorem dX4_valueOf_36 : decode cX4_valueOf 36 = .ok (.getfield 31, 3) := by decide +kernel
theorem dX4_valueOf_39 : decode cX4_valueOf 39 = .ok (.iload_n 3, 1) := by decide +kernel
theorem dX4_valueOf_40 : decode cX4_valueOf 40 = .ok (.iconst 1, 1) := by decide +kernel
theorem dX4_valueOf_41 : decode cX4_valueOf 41 = .ok (.invokevirtual 181, 3) := by decide +kernel
theorem dX4_valueOf_44 : decode cX4_valueOf 44 = .ok (.if_icmp .ne 15, 3) := by decide +kernel
theorem dX4_valueOf_47 : decode cX4_valueOf 47 = .ok (.iload_n 2, 1) := by decide +kernel
theorem dX4_valueOf_48 : decode cX4_valueOf 48 = .ok (.aload_n 0, 1) := by decide +kernel
theorem dX4_valueOf_49 : decode cX4_valueOf 49 = .ok (.getfield 31, 3) := by decide +kernel
theorem dX4_valueOf_52 : decode cX4_valueOf 52 = .ok (.iload_n 3, 1) := by decide +kernel
theorem dX4_valueOf_53 : decode cX4_valueOf 53 = .ok (.iconst 2, 1) := by decide +kernel
theorem dX4_valueOf_54 : decode cX4_valueOf 54 = .ok (.invokevirtual 181, 3) := by decide +kernel
theorem dX4_valueOf_57 : decode cX4_valueOf 57 = .ok (.iadd, 1) := by decide +kernel
theorem dX4_valueOf_58 : decode cX4_valueOf 58 = .ok (.istore_n 2, 1) := by decide +kernel
theorem dX4_valueOf_59 : decode cX4_valueOf 59 = .ok (.iinc 3 1, 3) := by decide +kernel
theorem dX4_valueOf_62 : decode cX4_valueOf 62 = .ok (.goto (-58), 3) := by decide +kernel
theorem dX4_valueOf_65 : decode cX4_valueOf 65 = .ok (.iload_n 2, 1) := by decide +kernel
theorem dX4_valueOf_66 : decode cX4_valueOf 66 = .ok (.ireturn, 1) := by decide +kernel
theorem dX4_worthOf_0 : decode cX4_worthOf 0 = .ok (.iconst 0, 1) := by decide +kernel
theorem dX4_worthOf_1 : decode cX4_worthOf 1 = .ok (.istore_n 3, 1) := by decide +kernel
theorem dX4_worthOf_2 : decode cX4_worthOf 2 = .ok (.aload_n 1, 1) := by decide +kernel
theorem dX4_worthOf_3 : decode cX4_worthOf 3 = .ok (.getfield 159, 3) := by decide +kernel
theorem dX4_worthOf_6 : decode cX4_worthOf 6 = .ok (.iload_n 2, 1) := by decide +kernel
theorem dX4_worthOf_7 : decode cX4_worthOf 7 = .ok (.iaload, 1) := by decide +kernel
theorem dX4_worthOf_8 : decode cX4_worthOf 8 = .ok (.istore 4, 2) := by decide +kernel
theorem dX4_worthOf_10 : decode cX4_worthOf 10 = .ok (.iload 4, 2) := by decide +kernel
theorem dX4_worthOf_12 : decode cX4_worthOf 12 = .ok (.iconst (-1), 1) := by decide +kernel
theorem dX4_worthOf_13 : decode cX4_worthOf 13 = .ok (.if_icmp .eq 30, 3) := by decide +kernel
theorem dX4_worthOf_16 : decode cX4_worthOf 16 = .ok (.iload_n 3, 1) := by decide +kernel
theorem dX4_worthOf_17 : decode cX4_worthOf 17 = .ok (.aload_n 1, 1) := by decide +kernel
theorem dX4_worthOf_18 : decode cX4_worthOf 18 = .ok (.iload 4, 2) := by decide +kernel
theorem dX4_worthOf_20 : decode cX4_worthOf 20 = .ok (.invokevirtual 153, 3) := by decide +kernel
theorem dX4_worthOf_23 : decode cX4_worthOf 23 = .ok (.ifCond .eq 13, 3) := by decide +kernel
theorem dX4_worthOf_26 : decode cX4_worthOf 26 = .ok (.aload_n 0, 1) := by decide +kernel
theorem dX4_worthOf_27 : decode cX4_worthOf 27 = .ok (.iload_n 2, 1) := by decide +kernel
theorem dX4_worthOf_28 : decode cX4_worthOf 28 = .ok (.invokevirtual 165, 3) := by decide +kernel
theorem dX4_worthOf_31 : decode cX4_worthOf 31 = .ok (.iconst 2, 1) := by decide +kernel
theorem dX4_worthOf_32 : decode cX4_worthOf 32 = .ok (.idiv, 1) := by decide +kernel
theorem dX4_worthOf_33 : decode cX4_worthOf 33 = .ok (.goto 8, 3) := by decide +kernel
theorem dX4_worthOf_36 : decode cX4_worthOf 36 = .ok (.aload_n 0, 1) := by decide +kernel
theorem dX4_worthOf_37 : decode cX4_worthOf 37 = .ok (.iload_n 2, 1) := by decide +kernel
theorem dX4_worthOf_38 : decode cX4_worthOf 38 = .ok (.invokevirtual 165, 3) := by decide +kernel
theorem dX4_worthOf_41 : decode cX4_worthOf 41 = .ok (.iadd, 1) := by decide +kernel
theorem dX4_worthOf_42 : decode cX4_worthOf 42 = .ok (.istore_n 3, 1) := by decide +kernel
theorem dX4_worthOf_43 : decode cX4_worthOf 43 = .ok (.aload_n 1, 1) := by decide +kernel
theorem dX4_worthOf_44 : decode cX4_worthOf 44 = .ok (.getfield 159, 3) := by decide +kernel
theorem dX4_worthOf_47 : decode cX4_worthOf 47 = .ok (.iload_n 2, 1) := by decide +kernel
theorem dX4_worthOf_48 : decode cX4_worthOf 48 = .ok (.iconst 1, 1) := by decide +kernel
theorem dX4_worthOf_49 : decode cX4_worthOf 49 = .ok (.isub, 1) := by decide +kernel
theorem dX4_worthOf_50 : decode cX4_worthOf 50 = .ok (.iaload, 1) := by decide +kernel
theorem dX4_worthOf_51 : decode cX4_worthOf 51 = .ok (.istore 5, 2) := by decide +kernel
theorem dX4_worthOf_53 : decode cX4_worthOf 53 = .ok (.iload 5, 2) := by decide +kernel
theorem dX4_worthOf_55 : decode cX4_worthOf 55 = .ok (.iconst (-1), 1) := by decide +kernel
theorem dX4_worthOf_56 : decode cX4_worthOf 56 = .ok (.if_icmp .eq 24, 3) := by decide +kernel
theorem dX4_worthOf_59 : decode cX4_worthOf 59 = .ok (.aload_n 1, 1) := by decide +kernel
theorem dX4_worthOf_60 : decode cX4_worthOf 60 = .ok (.iload 5, 2) := by decide +kernel
theorem dX4_worthOf_62 : decode cX4_worthOf 62 = .ok (.invokevirtual 153, 3) := by decide +kernel
theorem dX4_worthOf_65 : decode cX4_worthOf 65 = .ok (.ifCond .eq 15, 3) := by decide +kernel
theorem dX4_worthOf_68 : decode cX4_worthOf 68 = .ok (.iload_n 3, 1) := by decide +kernel
theorem dX4_worthOf_69 : decode cX4_worthOf 69 = .ok (.aload_n 0, 1) := by decide +kernel
theorem dX4_worthOf_70 : decode cX4_worthOf 70 = .ok (.iload_n 2, 1) := by decide +kernel
theorem dX4_worthOf_71 : decode cX4_worthOf 71 = .ok (.iconst 1, 1) := by decide +kernel
theorem dX4_worthOf_72 : decode cX4_worthOf 72 = .ok (.isub, 1) := by decide +kernel
theorem dX4_worthOf_73 : decode cX4_worthOf 73 = .ok (.invokevirtual 165, 3) := by decide +kernel
theorem dX4_worthOf_76 : decode cX4_worthOf 76 = .ok (.iconst 2, 1) := by decide +kernel
theorem dX4_worthOf_77 : decode cX4_worthOf 77 = .ok (.idiv, 1) := by decide +kernel
theorem dX4_worthOf_78 : decode cX4_worthOf 78 = .ok (.iadd, 1) := by decide +kernel
theorem dX4_worthOf_79 : decode cX4_worthOf 79 = .ok (.istore_n 3, 1) := by decide +kernel
theorem dX4_worthOf_80 : decode cX4_worthOf 80 = .ok (.iload_n 3, 1) := by decide +kernel
theorem dX4_worthOf_81 : decode cX4_worthOf 81 = .ok (.ireturn, 1) := by decide +kernel
theorem dX4_claimsBy_0 : decode cX4_claimsBy 0 = .ok (.iconst 0, 1) := by decide +kernel
theorem dX4_claimsBy_1 : decode cX4_claimsBy 1 = .ok (.istore_n 3, 1) := by decide +kernel
theorem dX4_claimsBy_2 : decode cX4_claimsBy 2 = .ok (.iconst 0, 1) := by decide +kernel
theorem dX4_claimsBy_3 : decode cX4_claimsBy 3 = .ok (.istore 4, 2) := by decide +kernel
theorem dX4_claimsBy_5 : decode cX4_claimsBy 5 = .ok (.iload 4, 2) := by decide +kernel
theorem dX4_claimsBy_7 : decode cX4_claimsBy 7 = .ok (.aload_n 0, 1) := by decide +kernel
theorem dX4_claimsBy_8 : decode cX4_claimsBy 8 = .ok (.getfield 46, 3) := by decide +kernel
theorem dX4_claimsBy_11 : decode cX4_claimsBy 11 = .ok (.getfield 127, 3) := by decide +kernel
theorem dX4_claimsBy_14 : decode cX4_claimsBy 14 = .ok (.if_icmp .ge 59, 3) := by decide +kernel
theorem dX4_claimsBy_17 : decode cX4_claimsBy 17 = .ok (.aload_n 0, 1) := by decide +kernel
theorem dX4_claimsBy_18 : decode cX4_claimsBy 18 = .ok (.getfield 46, 3) := by decide +kernel
theorem dX4_claimsBy_21 : decode cX4_claimsBy 21 = .ok (.getfield 172, 3) := by decide +kernel
theorem dX4_claimsBy_24 : decode cX4_claimsBy 24 = .ok (.iload 4, 2) := by decide +kernel
theorem dX4_claimsBy_26 : decode cX4_claimsBy 26 = .ok (.iaload, 1) := by decide +kernel
theorem dX4_claimsBy_27 : decode cX4_claimsBy 27 = .ok (.istore 5, 2) := by decide +kernel
theorem dX4_claimsBy_29 : decode cX4_claimsBy 29 = .ok (.aload_n 0, 1) := by decide +kernel
theorem dX4_claimsBy_30 : decode cX4_claimsBy 30 = .ok (.getfield 46, 3) := by decide +kernel
theorem dX4_claimsBy_33 : decode cX4_claimsBy 33 = .ok (.getfield 377, 3) := by decide +kernel
theorem dX4_claimsBy_36 : decode cX4_claimsBy 36 = .ok (.iload 4, 2) := by decide +kernel
theorem dX4_claimsBy_38 : decode cX4_claimsBy 38 = .ok (.iaload, 1) := by decide +kernel
theorem dX4_claimsBy_39 : decode cX4_claimsBy 39 = .ok (.iload_n 2, 1) := by decide +kernel
theorem dX4_claimsBy_40 : decode cX4_claimsBy 40 = .ok (.if_icmp .ne 27, 3) := by decide +kernel
theorem dX4_claimsBy_43 : decode cX4_claimsBy 43 = .ok (.aload_n 0, 1) := by decide +kernel
theorem dX4_claimsBy_44 : decode cX4_claimsBy 44 = .ok (.getfield 46, 3) := by decide +kernel
theorem dX4_claimsBy_47 : decode cX4_claimsBy 47 = .ok (.iload 5, 2) := by decide +kernel
theorem dX4_claimsBy_49 : decode cX4_claimsBy 49 = .ok (.invokevirtual 175, 3) := by decide +kernel
theorem dX4_claimsBy_52 : decode cX4_claimsBy 52 = .ok (.iload 4, 2) := by decide +kernel
theorem dX4_claimsBy_54 : decode cX4_claimsBy 54 = .ok (.if_icmp .ne 13, 3) := by decide +kernel
theorem dX4_claimsBy_57 : decode cX4_claimsBy 57 = .ok (.iload_n 3, 1) := by decide +kernel
theorem dX4_claimsBy_58 : decode cX4_claimsBy 58 = .ok (.aload_n 0, 1) := by decide +kernel
theorem dX4_claimsBy_59 : decode cX4_claimsBy 59 = .ok (.aload_n 1, 1) := by decide +kernel
theorem dX4_claimsBy_60 : decode cX4_claimsBy 60 = .ok (.iload 5, 2) := by decide +kernel
theorem dX4_claimsBy_62 : decode cX4_claimsBy 62 = .ok (.invokevirtual 210, 3) := by decide +kernel
theorem dX4_claimsBy_65 : decode cX4_claimsBy 65 = .ok (.iadd, 1) := by decide +kernel
theorem dX4_claimsBy_66 : decode cX4_claimsBy 66 = .ok (.istore_n 3, 1) := by decide +kernel
theorem dX4_claimsBy_67 : decode cX4_claimsBy 67 = .ok (.iinc 4 1, 3) := by decide +kernel
theorem dX4_claimsBy_70 : decode cX4_claimsBy 70 = .ok (.goto (-65), 3) := by decide +kernel
theorem dX4_claimsBy_73 : decode cX4_claimsBy 73 = .ok (.iload_n 3, 1) := by decide +kernel
theorem dX4_claimsBy_74 : decode cX4_claimsBy 74 = .ok (.ireturn, 1) := by decide +kernel
theorem dX4_sumOfRun_0 : decode cX4_sumOfRun 0 = .ok (.iconst 0, 1) := by decide +kernel
theorem dX4_sumOfRun_1 : decode cX4_sumOfRun 1 = .ok (.istore 4, 2) := by decide +kernel
theorem dX4_sumOfRun_3 : decode cX4_sumOfRun 3 = .ok (.iload_n 2, 1) := by decide +kernel
theorem dX4_sumOfRun_4 : decode cX4_sumOfRun 4 = .ok (.istore 5, 2) := by decide +kernel
theorem dX4_sumOfRun_6 : decode cX4_sumOfRun 6 = .ok (.iload 5, 2) := by decide +kernel
theorem dX4_sumOfRun_8 : decode cX4_sumOfRun 8 = .ok (.iload_n 2, 1) := by decide +kernel
theorem dX4_sumOfRun_9 : decode cX4_sumOfRun 9 = .ok (.iload_n 3, 1) := by decide +kernel
theorem dX4_sumOfRun_10 : decode cX4_sumOfRun 10 = .ok (.iadd, 1) := by decide +kernel
theorem dX4_sumOfRun_11 : decode cX4_sumOfRun 11 = .ok (.if_icmp .ge 31, 3) := by decide +kernel
theorem dX4_sumOfRun_14 : decode cX4_sumOfRun 14 = .ok (.aload_n 1, 1) := by decide +kernel
theorem dX4_sumOfRun_15 : decode cX4_sumOfRun 15 = .ok (.getfield 159, 3) := by decide +kernel
theorem dX4_sumOfRun_18 : decode cX4_sumOfRun 18 = .ok (.iload 5, 2) := by decide +kernel
theorem dX4_sumOfRun_20 : decode cX4_sumOfRun 20 = .ok (.iaload, 1) := by decide +kernel
theorem dX4_sumOfRun_21 : decode cX4_sumOfRun 21 = .ok (.iconst (-1), 1) := by decide +kernel
theorem dX4_sumOfRun_22 : decode cX4_sumOfRun 22 = .ok (.if_icmp .eq 14, 3) := by decide +kernel
theorem dX4_sumOfRun_25 : decode cX4_sumOfRun 25 = .ok (.iload 4, 2) := by decide +kernel
theorem dX4_sumOfRun_27 : decode cX4_sumOfRun 27 = .ok (.aload_n 0, 1) := by decide +kernel
theorem dX4_sumOfRun_28 : decode cX4_sumOfRun 28 = .ok (.iload 5, 2) := by decide +kernel
theorem dX4_sumOfRun_30 : decode cX4_sumOfRun 30 = .ok (.invokevirtual 165, 3) := by decide +kernel
theorem dX4_sumOfRun_33 : decode cX4_sumOfRun 33 = .ok (.iadd, 1) := by decide +kernel
theorem dX4_sumOfRun_34 : decode cX4_sumOfRun 34 = .ok (.istore 4, 2) := by decide +kernel
theorem dX4_sumOfRun_36 : decode cX4_sumOfRun 36 = .ok (.iinc 5 1, 3) := by decide +kernel
theorem dX4_sumOfRun_39 : decode cX4_sumOfRun 39 = .ok (.goto (-33), 3) := by decide +kernel
theorem dX4_sumOfRun_42 : decode cX4_sumOfRun 42 = .ok (.iload 4, 2) := by decide +kernel
theorem dX4_sumOfRun_44 : decode cX4_sumOfRun 44 = .ok (.ireturn, 1) := by decide +kernel
theorem dX4_firstCrest_0 : decode cX4_firstCrest 0 = .ok (.aload_n 0, 1) := by decide +kernel
theorem dX4_firstCrest_1 : decode cX4_firstCrest 1 = .ok (.getfield 21, 3) := by decide +kernel
theorem dX4_firstCrest_4 : decode cX4_firstCrest 4 = .ok (.iload_n 1, 1) := by decide +kernel
theorem dX4_firstCrest_5 : decode cX4_firstCrest 5 = .ok (.iconst 1, 1) := by decide +kernel
theorem dX4_firstCrest_6 : decode cX4_firstCrest 6 = .ok (.invokevirtual 181, 3) := by decide +kernel
theorem dX4_firstCrest_9 : decode cX4_firstCrest 9 = .ok (.istore_n 3, 1) := by decide +kernel
theorem dX4_firstCrest_10 : decode cX4_firstCrest 10 = .ok (.aload_n 0, 1) := by decide +kernel
theorem dX4_firstCrest_11 : decode cX4_firstCrest 11 = .ok (.getfield 21, 3) := by decide +kernel
theorem dX4_firstCrest_14 : decode cX4_firstCrest 14 = .ok (.iload_n 1, 1) := by decide +kernel
theorem dX4_firstCrest_15 : decode cX4_firstCrest 15 = .ok (.iconst 2, 1) := by decide +kernel
theorem dX4_firstCrest_16 : decode cX4_firstCrest 16 = .ok (.invokevirtual 181, 3) := by decide +kernel
theorem dX4_firstCrest_19 : decode cX4_firstCrest 19 = .ok (.istore 4, 2) := by decide +kernel
theorem dX4_firstCrest_21 : decode cX4_firstCrest 21 = .ok (.iload_n 2, 1) := by decide +kernel
theorem dX4_firstCrest_22 : decode cX4_firstCrest 22 = .ok (.iload 4, 2) := by decide +kernel
theorem dX4_firstCrest_24 : decode cX4_firstCrest 24 = .ok (.if_icmp .le 7, 3) := by decide +kernel
theorem dX4_firstCrest_27 : decode cX4_firstCrest 27 = .ok (.iload_n 3, 1) := by decide +kernel
theorem dX4_firstCrest_28 : decode cX4_firstCrest 28 = .ok (.ifCond .gt 6, 3) := by decide +kernel
theorem dX4_firstCrest_31 : decode cX4_firstCrest 31 = .ok (.iload 4, 2) := by decide +kernel
theorem dX4_firstCrest_33 : decode cX4_firstCrest 33 = .ok (.ireturn, 1) := by decide +kernel
theorem dX4_firstCrest_34 : decode cX4_firstCrest 34 = .ok (.iload 4, 2) := by decide +kernel
theorem dX4_firstCrest_36 : decode cX4_firstCrest 36 = .ok (.iload_n 2, 1) := by decide +kernel
theorem dX4_firstCrest_37 : decode cX4_firstCrest 37 = .ok (.iload 4, 2) := by decide +kernel
theorem dX4_firstCrest_39 : decode cX4_firstCrest 39 = .ok (.isub, 1) := by decide +kernel
theorem dX4_firstCrest_40 : decode cX4_firstCrest 40 = .ok (.iload_n 3, 1) := by decide +kernel
theorem dX4_firstCrest_41 : decode cX4_firstCrest 41 = .ok (.iadd, 1) := by decide +kernel
theorem dX4_firstCrest_42 : decode cX4_firstCrest 42 = .ok (.iconst 1, 1) := by decide +kernel
theorem dX4_firstCrest_43 : decode cX4_firstCrest 43 = .ok (.isub, 1) := by decide +kernel
theorem dX4_firstCrest_44 : decode cX4_firstCrest 44 = .ok (.iload_n 3, 1) := by decide +kernel
theorem dX4_firstCrest_45 : decode cX4_firstCrest 45 = .ok (.idiv, 1) := by decide +kernel
theorem dX4_firstCrest_46 : decode cX4_firstCrest 46 = .ok (.iload_n 3, 1) := by decide +kernel
theorem dX4_firstCrest_47 : decode cX4_firstCrest 47 = .ok (.imul, 1) := by decide +kernel
theorem dX4_firstCrest_48 : decode cX4_firstCrest 48 = .ok (.iadd, 1) := by decide +kernel
theorem dX4_firstCrest_49 : decode cX4_firstCrest 49 = .ok (.ireturn, 1) := by decide +kernel
theorem dX4_leastCommonMultiple_0 : decode cX4_leastCommonMultiple 0 = .ok (.iload_n 0, 1) := by decide +kernel
theorem dX4_leastCommonMultiple_1 : decode cX4_leastCommonMultiple 1 = .ok (.istore_n 2, 1) := by decide +kernel
theorem dX4_leastCommonMultiple_2 : decode cX4_leastCommonMultiple 2 = .ok (.iload_n 1, 1) := by decide +kernel
theorem dX4_leastCommonMultiple_3 : decode cX4_leastCommonMultiple 3 = .ok (.istore_n 3, 1) := by decide +kernel
theorem dX4_leastCommonMultiple_4 : decode cX4_leastCommonMultiple 4 = .ok (.iconst 0, 1) := by decide +kernel
theorem dX4_leastCommonMultiple_5 : decode cX4_leastCommonMultiple 5 = .ok (.istore 4, 2) := by decide +kernel
theorem dX4_leastCommonMultiple_7 : decode cX4_leastCommonMultiple 7 = .ok (.iload 4, 2) := by decide +kernel
theorem dX4_leastCommonMultiple_9 : decode cX4_leastCommonMultiple 9 = .ok (.bipush 64, 2) := by decide +kernel
theorem dX4_leastCommonMultiple_11 : decode cX4_leastCommonMultiple 11 = .ok (.if_icmp .ge 23, 3) := by decide +kernel
theorem dX4_leastCommonMultiple_14 : decode cX4_leastCommonMultiple 14 = .ok (.iload_n 3, 1) := by decide +kernel
theorem dX4_leastCommonMultiple_15 : decode cX4_leastCommonMultiple 15 = .ok (.ifCond .eq 19, 3) := by decide +kernel
theorem dX4_leastCommonMultiple_18 : decode cX4_leastCommonMultiple 18 = .ok (.iload_n 2, 1) := by decide +kernel
theorem dX4_leastCommonMultiple_19 : decode cX4_leastCommonMultiple 19 = .ok (.iload_n 3, 1) := by decide +kernel
theorem dX4_leastCommonMultiple_20 : decode cX4_leastCommonMultiple 20 = .ok (.irem, 1) := by decide +kernel
theorem dX4_leastCommonMultiple_21 : decode cX4_leastCommonMultiple 21 = .ok (.istore 5, 2) := by decide +kernel
theorem dX4_leastCommonMultiple_23 : decode cX4_leastCommonMultiple 23 = .ok (.iload_n 3, 1) := by decide +kernel
theorem dX4_leastCommonMultiple_24 : decode cX4_leastCommonMultiple 24 = .ok (.istore_n 2, 1) := by decide +kernel
theorem dX4_leastCommonMultiple_25 : decode cX4_leastCommonMultiple 25 = .ok (.iload 5, 2) := by decide +kernel
theorem dX4_leastCommonMultiple_27 : decode cX4_leastCommonMultiple 27 = .ok (.istore_n 3, 1) := by decide +kernel
theorem dX4_leastCommonMultiple_28 : decode cX4_leastCommonMultiple 28 = .ok (.iinc 4 1, 3) := by decide +kernel
theorem dX4_leastCommonMultiple_31 : decode cX4_leastCommonMultiple 31 = .ok (.goto (-24), 3) := by decide +kernel
theorem dX4_leastCommonMultiple_34 : decode cX4_leastCommonMultiple 34 = .ok (.iload_n 2, 1) := by decide +kernel
theorem dX4_leastCommonMultiple_35 : decode cX4_leastCommonMultiple 35 = .ok (.ifCond .le 11, 3) := by decide +kernel
theorem dX4_leastCommonMultiple_38 : decode cX4_leastCommonMultiple 38 = .ok (.iload_n 0, 1) := by decide +kernel
theorem dX4_leastCommonMultiple_39 : decode cX4_leastCommonMultiple 39 = .ok (.iload_n 2, 1) := by decide +kernel
theorem dX4_leastCommonMultiple_40 : decode cX4_leastCommonMultiple 40 = .ok (.idiv, 1) := by decide +kernel
theorem dX4_leastCommonMultiple_41 : decode cX4_leastCommonMultiple 41 = .ok (.iload_n 1, 1) := by decide +kernel
theorem dX4_leastCommonMultiple_42 : decode cX4_leastCommonMultiple 42 = .ok (.imul, 1) := by decide +kernel
theorem dX4_leastCommonMultiple_43 : decode cX4_leastCommonMultiple 43 = .ok (.goto 4, 3) := by decide +kernel
theorem dX4_leastCommonMultiple_46 : decode cX4_leastCommonMultiple 46 = .ok (.iconst 0, 1) := by decide +kernel
theorem dX4_leastCommonMultiple_47 : decode cX4_leastCommonMultiple 47 = .ok (.ireturn, 1) := by decide +kernel
theorem dX4_fitsSlip_0 : decode cX4_fitsSlip 0 = .ok (.iconst 0, 1) := by decide +kernel
theorem dX4_fitsSlip_1 : decode cX4_fitsSlip 1 = .ok (.istore 4, 2) := by decide +kernel
theorem dX4_fitsSlip_3 : decode cX4_fitsSlip 3 = .ok (.iload 4, 2) := by decide +kernel
theorem dX4_fitsSlip_5 : decode cX4_fitsSlip 5 = .ok (.aload_n 0, 1) := by decide +kernel
theorem dX4_fitsSlip_6 : decode cX4_fitsSlip 6 = .ok (.getfield 49, 3) := by decide +kernel
theorem dX4_fitsSlip_9 : decode cX4_fitsSlip 9 = .ok (.getfield 127, 3) := by decide +kernel
theorem dX4_fitsSlip_12 : decode cX4_fitsSlip 12 = .ok (.if_icmp .ge 64, 3) := by decide +kernel
theorem dX4_fitsSlip_15 : decode cX4_fitsSlip 15 = .ok (.aload_n 1, 1) := by decide +kernel
theorem dX4_fitsSlip_16 : decode cX4_fitsSlip 16 = .ok (.getfield 162, 3) := by decide +kernel
theorem dX4_fitsSlip_19 : decode cX4_fitsSlip 19 = .ok (.aload_n 0, 1) := by decide +kernel
theorem dX4_fitsSlip_20 : decode cX4_fitsSlip 20 = .ok (.getfield 49, 3) := by decide +kernel
theorem dX4_fitsSlip_23 : decode cX4_fitsSlip 23 = .ok (.getfield 377, 3) := by decide +kernel
theorem dX4_fitsSlip_26 : decode cX4_fitsSlip 26 = .ok (.iload 4, 2) := by decide +kernel
theorem dX4_fitsSlip_28 : decode cX4_fitsSlip 28 = .ok (.iaload, 1) := by decide +kernel
theorem dX4_fitsSlip_29 : decode cX4_fitsSlip 29 = .ok (.iaload, 1) := by decide +kernel
theorem dX4_fitsSlip_30 : decode cX4_fitsSlip 30 = .ok (.istore 5, 2) := by decide +kernel
theorem dX4_fitsSlip_32 : decode cX4_fitsSlip 32 = .ok (.aload_n 1, 1) := by decide +kernel
theorem dX4_fitsSlip_33 : decode cX4_fitsSlip 33 = .ok (.getfield 380, 3) := by decide +kernel
theorem dX4_fitsSlip_36 : decode cX4_fitsSlip 36 = .ok (.iload 5, 2) := by decide +kernel
theorem dX4_fitsSlip_38 : decode cX4_fitsSlip 38 = .ok (.iaload, 1) := by decide +kernel
theorem dX4_fitsSlip_39 : decode cX4_fitsSlip 39 = .ok (.iload 5, 2) := by decide +kernel
theorem dX4_fitsSlip_41 : decode cX4_fitsSlip 41 = .ok (.iload_n 2, 1) := by decide +kernel
theorem dX4_fitsSlip_42 : decode cX4_fitsSlip 42 = .ok (.if_icmp .lt 7, 3) := by decide +kernel
theorem dX4_fitsSlip_45 : decode cX4_fitsSlip 45 = .ok (.iload_n 3, 1) := by decide +kernel
theorem dX4_fitsSlip_46 : decode cX4_fitsSlip 46 = .ok (.goto 4, 3) := by decide +kernel
theorem dX4_fitsSlip_49 : decode cX4_fitsSlip 49 = .ok (.iconst 0, 1) := by decide +kernel
theorem dX4_fitsSlip_50 : decode cX4_fitsSlip 50 = .ok (.iadd, 1) := by decide +kernel
theorem dX4_fitsSlip_51 : decode cX4_fitsSlip 51 = .ok (.istore 6, 2) := by decide +kernel
theorem dX4_fitsSlip_53 : decode cX4_fitsSlip 53 = .ok (.iload 6, 2) := by decide +kernel
theorem dX4_fitsSlip_55 : decode cX4_fitsSlip 55 = .ok (.aload_n 0, 1) := by decide +kernel
theorem dX4_fitsSlip_56 : decode cX4_fitsSlip 56 = .ok (.getfield 49, 3) := by decide +kernel
theorem dX4_fitsSlip_59 : decode cX4_fitsSlip 59 = .ok (.getfield 172, 3) := by decide +kernel
theorem dX4_fitsSlip_62 : decode cX4_fitsSlip 62 = .ok (.iload 4, 2) := by decide +kernel
theorem dX4_fitsSlip_64 : decode cX4_fitsSlip 64 = .ok (.iaload, 1) := by decide +kernel
theorem dX4_fitsSlip_65 : decode cX4_fitsSlip 65 = .ok (.if_icmp .eq 5, 3) := by decide +kernel
theorem dX4_fitsSlip_68 : decode cX4_fitsSlip 68 = .ok (.iconst 0, 1) := by decide +kernel
theorem dX4_fitsSlip_69 : decode cX4_fitsSlip 69 = .ok (.ireturn, 1) := by decide +kernel
theorem dX4_fitsSlip_70 : decode cX4_fitsSlip 70 = .ok (.iinc 4 1, 3) := by decide +kernel
theorem dX4_fitsSlip_73 : decode cX4_fitsSlip 73 = .ok (.goto (-70), 3) := by decide +kernel
theorem dX4_fitsSlip_76 : decode cX4_fitsSlip 76 = .ok (.iconst 1, 1) := by decide +kernel
theorem dX4_fitsSlip_77 : decode cX4_fitsSlip 77 = .ok (.ireturn, 1) := by decide +kernel
theorem dX4_fitsWake_0 : decode cX4_fitsWake 0 = .ok (.aload_n 1, 1) := by decide +kernel
theorem dX4_fitsWake_1 : decode cX4_fitsWake 1 = .ok (.getfield 162, 3) := by decide +kernel
theorem dX4_fitsWake_4 : decode cX4_fitsWake 4 = .ok (.iload_n 2, 1) := by decide +kernel
theorem dX4_fitsWake_5 : decode cX4_fitsWake 5 = .ok (.iaload, 1) := by decide +kernel
theorem dX4_fitsWake_6 : decode cX4_fitsWake 6 = .ok (.ifCond .le 7, 3) := by decide +kernel
theorem dX4_fitsWake_9 : decode cX4_fitsWake 9 = .ok (.iconst 1, 1) := by decide +kernel
theorem dX4_fitsWake_10 : decode cX4_fitsWake 10 = .ok (.goto 4, 3) := by decide +kernel
theorem dX4_fitsWake_13 : decode cX4_fitsWake 13 = .ok (.iconst 0, 1) := by decide +kernel
theorem dX4_fitsWake_14 : decode cX4_fitsWake 14 = .ok (.istore_n 3, 1) := by decide +kernel
theorem dX4_fitsWake_15 : decode cX4_fitsWake 15 = .ok (.iconst 0, 1) := by decide +kernel
theorem dX4_fitsWake_16 : decode cX4_fitsWake 16 = .ok (.istore 4, 2) := by decide +kernel
theorem dX4_fitsWake_18 : decode cX4_fitsWake 18 = .ok (.iload 4, 2) := by decide +kernel
theorem dX4_fitsWake_20 : decode cX4_fitsWake 20 = .ok (.aload_n 0, 1) := by decide +kernel
theorem dX4_fitsWake_21 : decode cX4_fitsWake 21 = .ok (.getfield 49, 3) := by decide +kernel
theorem dX4_fitsWake_24 : decode cX4_fitsWake 24 = .ok (.getfield 127, 3) := by decide +kernel
theorem dX4_fitsWake_27 : decode cX4_fitsWake 27 = .ok (.if_icmp .ge 83, 3) := by decide +kernel
theorem dX4_fitsWake_30 : decode cX4_fitsWake 30 = .ok (.aload_n 0, 1) := by decide +kernel
theorem dX4_fitsWake_31 : decode cX4_fitsWake 31 = .ok (.getfield 49, 3) := by decide +kernel
theorem dX4_fitsWake_34 : decode cX4_fitsWake 34 = .ok (.getfield 377, 3) := by decide +kernel
theorem dX4_fitsWake_37 : decode cX4_fitsWake 37 = .ok (.iload 4, 2) := by decide +kernel
theorem dX4_fitsWake_39 : decode cX4_fitsWake 39 = .ok (.iaload, 1) := by decide +kernel
theorem dX4_fitsWake_40 : decode cX4_fitsWake 40 = .ok (.istore 5, 2) := by decide +kernel
theorem dX4_fitsWake_42 : decode cX4_fitsWake 42 = .ok (.aload_n 1, 1) := by decide +kernel
theorem dX4_fitsWake_43 : decode cX4_fitsWake 43 = .ok (.getfield 162, 3) := by decide +kernel
theorem dX4_fitsWake_46 : decode cX4_fitsWake 46 = .ok (.iload 5, 2) := by decide +kernel
theorem dX4_fitsWake_48 : decode cX4_fitsWake 48 = .ok (.iaload, 1) := by decide +kernel
theorem dX4_fitsWake_49 : decode cX4_fitsWake 49 = .ok (.istore 6, 2) := by decide +kernel
theorem dX4_fitsWake_51 : decode cX4_fitsWake 51 = .ok (.iload_n 3, 1) := by decide +kernel
theorem dX4_fitsWake_52 : decode cX4_fitsWake 52 = .ok (.ifCond .eq 30, 3) := by decide +kernel
theorem dX4_fitsWake_55 : decode cX4_fitsWake 55 = .ok (.iload 6, 2) := by decide +kernel
theorem dX4_fitsWake_57 : decode cX4_fitsWake 57 = .ok (.ifCond .le 25, 3) := by decide +kernel
theorem dX4_fitsWake_60 : decode cX4_fitsWake 60 = .ok (.iload 5, 2) := by decide +kernel
theorem dX4_fitsWake_62 : decode cX4_fitsWake 62 = .ok (.iload_n 2, 1) := by decide +kernel
theorem dX4_fitsWake_63 : decode cX4_fitsWake 63 = .ok (.if_icmp .lt 19, 3) := by decide +kernel
theorem dX4_fitsWake_66 : decode cX4_fitsWake 66 = .ok (.iload 5, 2) := by decide +kernel
theorem dX4_fitsWake_68 : decode cX4_fitsWake 68 = .ok (.iload_n 2, 1) := by decide +kernel
theorem dX4_fitsWake_69 : decode cX4_fitsWake 69 = .ok (.if_icmp .ne 7, 3) := by decide +kernel
theorem dX4_fitsWake_72 : decode cX4_fitsWake 72 = .ok (.iconst 0, 1) := by decide +kernel
theorem dX4_fitsWake_73 : decode cX4_fitsWake 73 = .ok (.goto 7, 3) := by decide +kernel
theorem dX4_fitsWake_76 : decode cX4_fitsWake 76 = .ok (.iload 6, 2) := by decide +kernel
theorem dX4_fitsWake_78 : decode cX4_fitsWake 78 = .ok (.iconst 1, 1) := by decide +kernel
theorem dX4_fitsWake_79 : decode cX4_fitsWake 79 = .ok (.isub, 1) := by decide +kernel
theorem dX4_fitsWake_80 : decode cX4_fitsWake 80 = .ok (.istore 6, 2) := by decide +kernel
theorem dX4_fitsWake_82 : decode cX4_fitsWake 82 = .ok (.aload_n 1, 1) := by decide +kernel
theorem dX4_fitsWake_83 : decode cX4_fitsWake 83 = .ok (.getfield 380, 3) := by decide +kernel
theorem dX4_fitsWake_86 : decode cX4_fitsWake 86 = .ok (.iload 6, 2) := by decide +kernel
theorem dX4_fitsWake_88 : decode cX4_fitsWake 88 = .ok (.iaload, 1) := by decide +kernel
theorem dX4_fitsWake_89 : decode cX4_fitsWake 89 = .ok (.aload_n 0, 1) := by decide +kernel
theorem dX4_fitsWake_90 : decode cX4_fitsWake 90 = .ok (.getfield 49, 3) := by decide +kernel
theorem dX4_fitsWake_93 : decode cX4_fitsWake 93 = .ok (.getfield 172, 3) := by decide +kernel
theorem dX4_fitsWake_96 : decode cX4_fitsWake 96 = .ok (.iload 4, 2) := by decide +kernel
theorem dX4_fitsWake_98 : decode cX4_fitsWake 98 = .ok (.iaload, 1) := by decide +kernel
theorem dX4_fitsWake_99 : decode cX4_fitsWake 99 = .ok (.if_icmp .eq 5, 3) := by decide +kernel
theorem dX4_fitsWake_102 : decode cX4_fitsWake 102 = .ok (.iconst 0, 1) := by decide +kernel
theorem dX4_fitsWake_103 : decode cX4_fitsWake 103 = .ok (.ireturn, 1) := by decide +kernel
theorem dX4_fitsWake_104 : decode cX4_fitsWake 104 = .ok (.iinc 4 1, 3) := by decide +kernel
theorem dX4_fitsWake_107 : decode cX4_fitsWake 107 = .ok (.goto (-89), 3) := by decide +kernel
theorem dX4_fitsWake_110 : decode cX4_fitsWake 110 = .ok (.iconst 1, 1) := by decide +kernel
theorem dX4_fitsWake_111 : decode cX4_fitsWake 111 = .ok (.ireturn, 1) := by decide +kernel
theorem dX4_markDueNumbers_0 : decode cX4_markDueNumbers 0 = .ok (.aload_n 0, 1) := by decide +kernel
theorem dX4_markDueNumbers_1 : decode cX4_markDueNumbers 1 = .ok (.getfield 66, 3) := by decide +kernel
theorem dX4_markDueNumbers_4 : decode cX4_markDueNumbers 4 = .ok (.iconst (-1), 1) := by decide +kernel
theorem dX4_markDueNumbers_5 : decode cX4_markDueNumbers 5 = .ok (.invokestatic 383, 3) := by decide +kernel
theorem dX4_markDueNumbers_8 : decode cX4_markDueNumbers 8 = .ok (.iconst 0, 1) := by decide +kernel
theorem dX4_markDueNumbers_9 : decode cX4_markDueNumbers 9 = .ok (.istore_n 1, 1) := by decide +kernel
theorem dX4_markDueNumbers_10 : decode cX4_markDueNumbers 10 = .ok (.iconst 0, 1) := by decide +kernel
theorem dX4_markDueNumbers_11 : decode cX4_markDueNumbers 11 = .ok (.istore_n 2, 1) := by decide +kernel
theorem dX4_markDueNumbers_12 : decode cX4_markDueNumbers 12 = .ok (.iload_n 2, 1) := by decide +kernel
theorem dX4_markDueNumbers_13 : decode cX4_markDueNumbers 13 = .ok (.aload_n 0, 1) := by decide +kernel
theorem dX4_markDueNumbers_14 : decode cX4_markDueNumbers 14 = .ok (.getfield 49, 3) := by decide +kernel
theorem dX4_markDueNumbers_17 : decode cX4_markDueNumbers 17 = .ok (.getfield 127, 3) := by decide +kernel
theorem dX4_markDueNumbers_20 : decode cX4_markDueNumbers 20 = .ok (.if_icmp .ge 72, 3) := by decide +kernel
theorem dX4_markDueNumbers_23 : decode cX4_markDueNumbers 23 = .ok (.aload_n 0, 1) := by decide +kernel
theorem dX4_markDueNumbers_24 : decode cX4_markDueNumbers 24 = .ok (.getfield 49, 3) := by decide +kernel
theorem dX4_markDueNumbers_27 : decode cX4_markDueNumbers 27 = .ok (.getfield 377, 3) := by decide +kernel
theorem dX4_markDueNumbers_30 : decode cX4_markDueNumbers 30 = .ok (.iload_n 2, 1) := by decide +kernel
theorem dX4_markDueNumbers_31 : decode cX4_markDueNumbers 31 = .ok (.iaload, 1) := by decide +kernel
theorem dX4_markDueNumbers_32 : decode cX4_markDueNumbers 32 = .ok (.istore_n 3, 1) := by decide +kernel
theorem dX4_markDueNumbers_33 : decode cX4_markDueNumbers 33 = .ok (.aload_n 0, 1) := by decide +kernel
theorem dX4_markDueNumbers_34 : decode cX4_markDueNumbers 34 = .ok (.getfield 49, 3) := by decide +kernel
theorem dX4_markDueNumbers_37 : decode cX4_markDueNumbers 37 = .ok (.getfield 172, 3) := by decide +kernel
theorem dX4_markDueNumbers_40 : decode cX4_markDueNumbers 40 = .ok (.iload_n 2, 1) := by decide +kernel
theorem dX4_markDueNumbers_41 : decode cX4_markDueNumbers 41 = .ok (.iaload, 1) := by decide +kernel
theorem dX4_markDueNumbers_42 : decode cX4_markDueNumbers 42 = .ok (.istore 4, 2) := by decide +kernel
theorem dX4_markDueNumbers_44 : decode cX4_markDueNumbers 44 = .ok (.aload_n 0, 1) := by decide +kernel
theorem dX4_markDueNumbers_45 : decode cX4_markDueNumbers 45 = .ok (.getfield 66, 3) := by decide +kernel
theorem dX4_markDueNumbers_48 : decode cX4_markDueNumbers 48 = .ok (.iload_n 3, 1) := by decide +kernel
theorem dX4_markDueNumbers_49 : decode cX4_markDueNumbers 49 = .ok (.aload_n 0, 1) := by decide +kernel
theorem dX4_markDueNumbers_50 : decode cX4_markDueNumbers 50 = .ok (.getfield 66, 3) := by decide +kernel
theorem dX4_markDueNumbers_53 : decode cX4_markDueNumbers 53 = .ok (.iload_n 3, 1) := by decide +kernel
theorem dX4_markDueNumbers_54 : decode cX4_markDueNumbers 54 = .ok (.iaload, 1) := by decide +kernel
theorem dX4_markDueNumbers_55 : decode cX4_markDueNumbers 55 = .ok (.iconst (-1), 1) := by decide +kernel
theorem dX4_markDueNumbers_56 : decode cX4_markDueNumbers 56 = .ok (.if_icmp .eq 14, 3) := by decide +kernel
theorem dX4_markDueNumbers_59 : decode cX4_markDueNumbers 59 = .ok (.aload_n 0, 1) := by decide +kernel
theorem dX4_markDueNumbers_60 : decode cX4_markDueNumbers 60 = .ok (.getfield 66, 3) := by decide +kernel
theorem dX4_markDueNumbers_63 : decode cX4_markDueNumbers 63 = .ok (.iload_n 3, 1) := by decide +kernel
theorem dX4_markDueNumbers_64 : decode cX4_markDueNumbers 64 = .ok (.iaload, 1) := by decide +kernel
theorem dX4_markDueNumbers_65 : decode cX4_markDueNumbers 65 = .ok (.iload 4, 2) := by decide +kernel
theorem dX4_markDueNumbers_67 : decode cX4_markDueNumbers 67 = .ok (.if_icmp .ne 8, 3) := by decide +kernel
theorem dX4_markDueNumbers_70 : decode cX4_markDueNumbers 70 = .ok (.iload 4, 2) := by decide +kernel
theorem dX4_markDueNumbers_72 : decode cX4_markDueNumbers 72 = .ok (.goto 5, 3) := by decide +kernel
theorem dX4_markDueNumbers_75 : decode cX4_markDueNumbers 75 = .ok (.bipush (-2), 2) := by decide +kernel
theorem dX4_markDueNumbers_77 : decode cX4_markDueNumbers 77 = .ok (.iastore, 1) := by decide +kernel
theorem dX4_markDueNumbers_78 : decode cX4_markDueNumbers 78 = .ok (.iload_n 1, 1) := by decide +kernel
theorem dX4_markDueNumbers_79 : decode cX4_markDueNumbers 79 = .ok (.iload_n 3, 1) := by decide +kernel
theorem dX4_markDueNumbers_80 : decode cX4_markDueNumbers 80 = .ok (.iconst 1, 1) := by decide +kernel
theorem dX4_markDueNumbers_81 : decode cX4_markDueNumbers 81 = .ok (.iadd, 1) := by decide +kernel
theorem dX4_markDueNumbers_82 : decode cX4_markDueNumbers 82 = .ok (.invokestatic 185, 3) := by decide +kernel
theorem dX4_markDueNumbers_85 : decode cX4_markDueNumbers 85 = .ok (.istore_n 1, 1) := by decide +kernel
theorem dX4_markDueNumbers_86 : decode cX4_markDueNumbers 86 = .ok (.iinc 2 1, 3) := by decide +kernel
theorem dX4_markDueNumbers_89 : decode cX4_markDueNumbers 89 = .ok (.goto (-77), 3) := by decide +kernel
theorem dX4_markDueNumbers_92 : decode cX4_markDueNumbers 92 = .ok (.iload_n 1, 1) := by decide +kernel
theorem dX4_markDueNumbers_93 : decode cX4_markDueNumbers 93 = .ok (.ireturn, 1) := by decide +kernel
theorem dX4_fitsPeriod_0 : decode cX4_fitsPeriod 0 = .ok (.aload_n 0, 1) := by decide +kernel
theorem dX4_fitsPeriod_1 : decode cX4_fitsPeriod 1 = .ok (.getfield 21, 3) := by decide +kernel
theorem dX4_fitsPeriod_4 : decode cX4_fitsPeriod 4 = .ok (.iload_n 2, 1) := by decide +kernel
theorem dX4_fitsPeriod_5 : decode cX4_fitsPeriod 5 = .ok (.iconst 0, 1) := by decide +kernel
theorem dX4_fitsPeriod_6 : decode cX4_fitsPeriod 6 = .ok (.invokevirtual 181, 3) := by decide +kernel
theorem dX4_fitsPeriod_9 : decode cX4_fitsPeriod 9 = .ok (.istore 5, 2) := by decide +kernel
theorem dX4_fitsPeriod_11 : decode cX4_fitsPeriod 11 = .ok (.aload_n 0, 1) := by decide +kernel
theorem dX4_fitsPeriod_12 : decode cX4_fitsPeriod 12 = .ok (.getfield 21, 3) := by decide +kernel
theorem dX4_fitsPeriod_15 : decode cX4_fitsPeriod 15 = .ok (.iload_n 2, 1) := by decide +kernel
theorem dX4_fitsPeriod_16 : decode cX4_fitsPeriod 16 = .ok (.iconst 1, 1) := by decide +kernel
theorem dX4_fitsPeriod_17 : decode cX4_fitsPeriod 17 = .ok (.invokevirtual 181, 3) := by decide +kernel
theorem dX4_fitsPeriod_20 : decode cX4_fitsPeriod 20 = .ok (.istore 6, 2) := by decide +kernel
theorem dX4_fitsPeriod_22 : decode cX4_fitsPeriod 22 = .ok (.aload_n 0, 1) := by decide +kernel
theorem dX4_fitsPeriod_23 : decode cX4_fitsPeriod 23 = .ok (.getfield 21, 3) := by decide +kernel
theorem dX4_fitsPeriod_26 : decode cX4_fitsPeriod 26 = .ok (.iload_n 2, 1) := by decide +kernel
theorem dX4_fitsPeriod_27 : decode cX4_fitsPeriod 27 = .ok (.iconst 2, 1) := by decide +kernel
theorem dX4_fitsPeriod_28 : decode cX4_fitsPeriod 28 = .ok (.invokevirtual 181, 3) := by decide +kernel
theorem dX4_fitsPeriod_31 : decode cX4_fitsPeriod 31 = .ok (.istore 7, 2) := by decide +kernel
theorem dX4_fitsPeriod_33 : decode cX4_fitsPeriod 33 = .ok (.iconst 0, 1) := by decide +kernel
theorem dX4_fitsPeriod_34 : decode cX4_fitsPeriod 34 = .ok (.istore 8, 2) := by decide +kernel
theorem dX4_fitsPeriod_36 : decode cX4_fitsPeriod 36 = .ok (.iconst 0, 1) := by decide +kernel
theorem dX4_fitsPeriod_37 : decode cX4_fitsPeriod 37 = .ok (.istore 9, 2) := by decide +kernel
theorem dX4_fitsPeriod_39 : decode cX4_fitsPeriod 39 = .ok (.iload 9, 2) := by decide +kernel
theorem dX4_fitsPeriod_41 : decode cX4_fitsPeriod 41 = .ok (.iload 4, 2) := by decide +kernel
theorem dX4_fitsPeriod_43 : decode cX4_fitsPeriod 43 = .ok (.if_icmp .ge 125, 3) := by decide +kernel
theorem dX4_fitsPeriod_46 : decode cX4_fitsPeriod 46 = .ok (.aload_n 1, 1) := by decide +kernel
theorem dX4_fitsPeriod_47 : decode cX4_fitsPeriod 47 = .ok (.getfield 144, 3) := by decide +kernel
theorem dX4_fitsPeriod_50 : decode cX4_fitsPeriod 50 = .ok (.iload 9, 2) := by decide +kernel
theorem dX4_fitsPeriod_52 : decode cX4_fitsPeriod 52 = .ok (.iaload, 1) := by decide +kernel
theorem dX4_fitsPeriod_53 : decode cX4_fitsPeriod 53 = .ok (.istore 10, 2) := by decide +kernel
theorem dX4_fitsPeriod_55 : decode cX4_fitsPeriod 55 = .ok (.iload 10, 2) := by decide +kernel
theorem dX4_fitsPeriod_57 : decode cX4_fitsPeriod 57 = .ok (.iload 9, 2) := by decide +kernel
theorem dX4_fitsPeriod_59 : decode cX4_fitsPeriod 59 = .ok (.iload 7, 2) := by decide +kernel
theorem dX4_fitsPeriod_61 : decode cX4_fitsPeriod 61 = .ok (.iload 6, 2) := by decide +kernel
theorem dX4_fitsPeriod_63 : decode cX4_fitsPeriod 63 = .ok (.invokestatic 193, 3) := by decide +kernel
theorem dX4_fitsPeriod_66 : decode cX4_fitsPeriod 66 = .ok (.ifCond .eq 8, 3) := by decide +kernel
theorem dX4_fitsPeriod_69 : decode cX4_fitsPeriod 69 = .ok (.iload 5, 2) := by decide +kernel
theorem dX4_fitsPeriod_71 : decode cX4_fitsPeriod 71 = .ok (.goto 4, 3) := by decide +kernel
theorem dX4_fitsPeriod_74 : decode cX4_fitsPeriod 74 = .ok (.iconst 0, 1) := by decide +kernel
theorem dX4_fitsPeriod_75 : decode cX4_fitsPeriod 75 = .ok (.isub, 1) := by decide +kernel
theorem dX4_fitsPeriod_76 : decode cX4_fitsPeriod 76 = .ok (.istore 10, 2) := by decide +kernel
theorem dX4_fitsPeriod_78 : decode cX4_fitsPeriod 78 = .ok (.iload 10, 2) := by decide +kernel
theorem dX4_fitsPeriod_80 : decode cX4_fitsPeriod 80 = .ok (.iload 9, 2) := by decide +kernel
theorem dX4_fitsPeriod_82 : decode cX4_fitsPeriod 82 = .ok (.iload 7, 2) := by decide +kernel
theorem dX4_fitsPeriod_84 : decode cX4_fitsPeriod 84 = .ok (.iload_n 3, 1) := by decide +kernel
theorem dX4_fitsPeriod_85 : decode cX4_fitsPeriod 85 = .ok (.invokestatic 193, 3) := by decide +kernel
theorem dX4_fitsPeriod_88 : decode cX4_fitsPeriod 88 = .ok (.ifCond .eq 8, 3) := by decide +kernel
theorem dX4_fitsPeriod_91 : decode cX4_fitsPeriod 91 = .ok (.iload 5, 2) := by decide +kernel
theorem dX4_fitsPeriod_93 : decode cX4_fitsPeriod 93 = .ok (.goto 4, 3) := by decide +kernel
theorem dX4_fitsPeriod_96 : decode cX4_fitsPeriod 96 = .ok (.iconst 0, 1) := by decide +kernel
theorem dX4_fitsPeriod_97 : decode cX4_fitsPeriod 97 = .ok (.iadd, 1) := by decide +kernel
theorem dX4_fitsPeriod_98 : decode cX4_fitsPeriod 98 = .ok (.istore 10, 2) := by decide +kernel
theorem dX4_fitsPeriod_100 : decode cX4_fitsPeriod 100 = .ok (.iconst 0, 1) := by decide +kernel
theorem dX4_fitsPeriod_101 : decode cX4_fitsPeriod 101 = .ok (.istore 11, 2) := by decide +kernel
theorem dX4_fitsPeriod_103 : decode cX4_fitsPeriod 103 = .ok (.iload 10, 2) := by decide +kernel
theorem dX4_fitsPeriod_105 : decode cX4_fitsPeriod 105 = .ok (.aload_n 0, 1) := by decide +kernel
theorem dX4_fitsPeriod_106 : decode cX4_fitsPeriod 106 = .ok (.getfield 73, 3) := by decide +kernel
theorem dX4_fitsPeriod_109 : decode cX4_fitsPeriod 109 = .ok (.invokestatic 147, 3) := by decide +kernel
theorem dX4_fitsPeriod_112 : decode cX4_fitsPeriod 112 = .ok (.ifCond .eq 25, 3) := by decide +kernel
theorem dX4_fitsPeriod_115 : decode cX4_fitsPeriod 115 = .ok (.aload_n 1, 1) := by decide +kernel
theorem dX4_fitsPeriod_116 : decode cX4_fitsPeriod 116 = .ok (.getfield 386, 3) := by decide +kernel
theorem dX4_fitsPeriod_119 : decode cX4_fitsPeriod 119 = .ok (.iload 9, 2) := by decide +kernel
theorem dX4_fitsPeriod_121 : decode cX4_fitsPeriod 121 = .ok (.baload, 1) := by decide +kernel
theorem dX4_fitsPeriod_122 : decode cX4_fitsPeriod 122 = .ok (.ifCond .ne 15, 3) := by decide +kernel
theorem dX4_fitsPeriod_125 : decode cX4_fitsPeriod 125 = .ok (.iinc 8 1, 3) := by decide +kernel
theorem dX4_fitsPeriod_128 : decode cX4_fitsPeriod 128 = .ok (.aload_n 1, 1) := by decide +kernel
theorem dX4_fitsPeriod_129 : decode cX4_fitsPeriod 129 = .ok (.getfield 380, 3) := by decide +kernel
theorem dX4_fitsPeriod_132 : decode cX4_fitsPeriod 132 = .ok (.iload 8, 2) := by decide +kernel
theorem dX4_fitsPeriod_134 : decode cX4_fitsPeriod 134 = .ok (.iaload, 1) := by decide +kernel
theorem dX4_fitsPeriod_135 : decode cX4_fitsPeriod 135 = .ok (.istore 11, 2) := by decide +kernel
theorem dX4_fitsPeriod_137 : decode cX4_fitsPeriod 137 = .ok (.aload_n 0, 1) := by decide +kernel
theorem dX4_fitsPeriod_138 : decode cX4_fitsPeriod 138 = .ok (.getfield 66, 3) := by decide +kernel
theorem dX4_fitsPeriod_141 : decode cX4_fitsPeriod 141 = .ok (.iload 9, 2) := by decide +kernel
theorem dX4_fitsPeriod_143 : decode cX4_fitsPeriod 143 = .ok (.iaload, 1) := by decide +kernel
theorem dX4_fitsPeriod_144 : decode cX4_fitsPeriod 144 = .ok (.iconst (-1), 1) := by decide +kernel
theorem dX4_fitsPeriod_145 : decode cX4_fitsPeriod 145 = .ok (.if_icmp .eq 17, 3) := by decide +kernel
theorem dX4_fitsPeriod_148 : decode cX4_fitsPeriod 148 = .ok (.aload_n 0, 1) := by decide +kernel
theorem dX4_fitsPeriod_149 : decode cX4_fitsPeriod 149 = .ok (.getfield 66, 3) := by decide +kernel
theorem dX4_fitsPeriod_152 : decode cX4_fitsPeriod 152 = .ok (.iload 9, 2) := by decide +kernel
theorem dX4_fitsPeriod_154 : decode cX4_fitsPeriod 154 = .ok (.iaload, 1) := by decide +kernel
theorem dX4_fitsPeriod_155 : decode cX4_fitsPeriod 155 = .ok (.iload 11, 2) := by decide +kernel
theorem dX4_fitsPeriod_157 : decode cX4_fitsPeriod 157 = .ok (.if_icmp .eq 5, 3) := by decide +kernel
theorem dX4_fitsPeriod_160 : decode cX4_fitsPeriod 160 = .ok (.iconst 0, 1) := by decide +kernel
theorem dX4_fitsPeriod_161 : decode cX4_fitsPeriod 161 = .ok (.ireturn, 1) := by decide +kernel
theorem dX4_fitsPeriod_162 : decode cX4_fitsPeriod 162 = .ok (.iinc 9 1, 3) := by decide +kernel
theorem dX4_fitsPeriod_165 : decode cX4_fitsPeriod 165 = .ok (.goto (-126), 3) := by decide +kernel
theorem dX4_fitsPeriod_168 : decode cX4_fitsPeriod 168 = .ok (.iconst 1, 1) := by decide +kernel
theorem dX4_fitsPeriod_169 : decode cX4_fitsPeriod 169 = .ok (.ireturn, 1) := by decide +kernel
theorem dX4_stepWays_0 : decode cX4_stepWays 0 = .ok (.bipush 12, 2) := by decide +kernel
theorem dX4_stepWays_2 : decode cX4_stepWays 2 = .ok (.istore_n 2, 1) := by decide +kernel
theorem dX4_stepWays_3 : decode cX4_stepWays 3 = .ok (.iload_n 2, 1) := by decide +kernel
theorem dX4_stepWays_4 : decode cX4_stepWays 4 = .ok (.ifCond .lt 65, 3) := by decide +kernel
theorem dX4_stepWays_7 : decode cX4_stepWays 7 = .ok (.iload_n 2, 1) := by decide +kernel
theorem dX4_stepWays_8 : decode cX4_stepWays 8 = .ok (.iconst 1, 1) := by decide +kernel
theorem dX4_stepWays_9 : decode cX4_stepWays 9 = .ok (.if_icmp .lt 14, 3) := by decide +kernel
theorem dX4_stepWays_12 : decode cX4_stepWays 12 = .ok (.aload_n 0, 1) := by decide +kernel
theorem dX4_stepWays_13 : decode cX4_stepWays 13 = .ok (.getfield 69, 3) := by decide +kernel
theorem dX4_stepWays_16 : decode cX4_stepWays 16 = .ok (.iload_n 2, 1) := by decide +kernel
theorem dX4_stepWays_17 : decode cX4_stepWays 17 = .ok (.iconst 1, 1) := by decide +kernel
theorem dX4_stepWays_18 : decode cX4_stepWays 18 = .ok (.isub, 1) := by decide +kernel
theorem dX4_stepWays_19 : decode cX4_stepWays 19 = .ok (.laload, 1) := by decide +kernel
theorem dX4_stepWays_20 : decode cX4_stepWays 20 = .ok (.goto 4, 3) := by decide +kernel
theorem dX4_stepWays_23 : decode cX4_stepWays 23 = .ok (.lconst 0, 1) := by decide +kernel
theorem dX4_stepWays_24 : decode cX4_stepWays 24 = .ok (.lstore_n 3, 1) := by decide +kernel
theorem dX4_stepWays_25 : decode cX4_stepWays 25 = .ok (.iload_n 2, 1) := by decide +kernel
theorem dX4_stepWays_26 : decode cX4_stepWays 26 = .ok (.iconst 2, 1) := by decide +kernel
theorem dX4_stepWays_27 : decode cX4_stepWays 27 = .ok (.if_icmp .lt 14, 3) := by decide +kernel
theorem dX4_stepWays_30 : decode cX4_stepWays 30 = .ok (.aload_n 0, 1) := by decide +kernel
theorem dX4_stepWays_31 : decode cX4_stepWays 31 = .ok (.getfield 69, 3) := by decide +kernel
theorem dX4_stepWays_34 : decode cX4_stepWays 34 = .ok (.iload_n 2, 1) := by decide +kernel
theorem dX4_stepWays_35 : decode cX4_stepWays 35 = .ok (.iconst 2, 1) := by decide +kernel
theorem dX4_stepWays_36 : decode cX4_stepWays 36 = .ok (.isub, 1) := by decide +kernel
theorem dX4_stepWays_37 : decode cX4_stepWays 37 = .ok (.laload, 1) := by decide +kernel
theorem dX4_stepWays_38 : decode cX4_stepWays 38 = .ok (.goto 4, 3) := by decide +kernel
theorem dX4_stepWays_41 : decode cX4_stepWays 41 = .ok (.lconst 0, 1) := by decide +kernel
theorem dX4_stepWays_42 : decode cX4_stepWays 42 = .ok (.lstore 5, 2) := by decide +kernel
theorem dX4_stepWays_44 : decode cX4_stepWays 44 = .ok (.aload_n 0, 1) := by decide +kernel
theorem dX4_stepWays_45 : decode cX4_stepWays 45 = .ok (.getfield 69, 3) := by decide +kernel
theorem dX4_stepWays_48 : decode cX4_stepWays 48 = .ok (.iload_n 2, 1) := by decide +kernel
theorem dX4_stepWays_49 : decode cX4_stepWays 49 = .ok (.bipush 16, 2) := by decide +kernel
theorem dX4_stepWays_51 : decode cX4_stepWays 51 = .ok (.iload_n 1, 1) := by decide +kernel
theorem dX4_stepWays_52 : decode cX4_stepWays 52 = .ok (.isub, 1) := by decide +kernel
theorem dX4_stepWays_53 : decode cX4_stepWays 53 = .ok (.i2l, 1) := by decide +kernel
theorem dX4_stepWays_54 : decode cX4_stepWays 54 = .ok (.lload_n 3, 1) := by decide +kernel
theorem dX4_stepWays_55 : decode cX4_stepWays 55 = .ok (.lmul, 1) := by decide +kernel
theorem dX4_stepWays_56 : decode cX4_stepWays 56 = .ok (.iload_n 1, 1) := by decide +kernel
theorem dX4_stepWays_57 : decode cX4_stepWays 57 = .ok (.i2l, 1) := by decide +kernel
theorem dX4_stepWays_58 : decode cX4_stepWays 58 = .ok (.lload 5, 2) := by decide +kernel
theorem dX4_stepWays_60 : decode cX4_stepWays 60 = .ok (.lmul, 1) := by decide +kernel
theorem dX4_stepWays_61 : decode cX4_stepWays 61 = .ok (.ladd, 1) := by decide +kernel
theorem dX4_stepWays_62 : decode cX4_stepWays 62 = .ok (.lastore, 1) := by decide +kernel
theorem dX4_stepWays_63 : decode cX4_stepWays 63 = .ok (.iinc 2 (-1), 3) := by decide +kernel
theorem dX4_stepWays_66 : decode cX4_stepWays 66 = .ok (.goto (-63), 3) := by decide +kernel
theorem dX4_stepWays_69 : decode cX4_stepWays 69 = .ok (.return_, 1) := by decide +kernel
theorem dX4_sharedTwos_0 : decode cX4_sharedTwos 0 = .ok (.iconst 0, 1) := by decide +kernel
theorem dX4_sharedTwos_1 : decode cX4_sharedTwos 1 = .ok (.istore 4, 2) := by decide +kernel
theorem dX4_sharedTwos_3 : decode cX4_sharedTwos 3 = .ok (.iload 4, 2) := by decide +kernel
theorem dX4_sharedTwos_5 : decode cX4_sharedTwos 5 = .ok (.bipush 63, 2) := by decide +kernel
theorem dX4_sharedTwos_7 : decode cX4_sharedTwos 7 = .ok (.if_icmp .ge 22, 3) := by decide +kernel
theorem dX4_sharedTwos_10 : decode cX4_sharedTwos 10 = .ok (.lload_n 0, 1) := by decide +kernel
theorem dX4_sharedTwos_11 : decode cX4_sharedTwos 11 = .ok (.lload_n 2, 1) := by decide +kernel
theorem dX4_sharedTwos_12 : decode cX4_sharedTwos 12 = .ok (.lor, 1) := by decide +kernel
theorem dX4_sharedTwos_13 : decode cX4_sharedTwos 13 = .ok (.iload 4, 2) := by decide +kernel
theorem dX4_sharedTwos_15 : decode cX4_sharedTwos 15 = .ok (.lshr, 1) := by decide +kernel
theorem dX4_sharedTwos_16 : decode cX4_sharedTwos 16 = .ok (.lconst 1, 1) := by decide +kernel
theorem dX4_sharedTwos_17 : decode cX4_sharedTwos 17 = .ok (.land, 1) := by decide +kernel
theorem dX4_sharedTwos_18 : decode cX4_sharedTwos 18 = .ok (.lconst 0, 1) := by decide +kernel
theorem dX4_sharedTwos_19 : decode cX4_sharedTwos 19 = .ok (.lcmp, 1) := by decide +kernel
theorem dX4_sharedTwos_20 : decode cX4_sharedTwos 20 = .ok (.ifCond .ne 9, 3) := by decide +kernel
theorem dX4_sharedTwos_23 : decode cX4_sharedTwos 23 = .ok (.iinc 4 1, 3) := by decide +kernel
theorem dX4_sharedTwos_26 : decode cX4_sharedTwos 26 = .ok (.goto (-23), 3) := by decide +kernel
theorem dX4_sharedTwos_29 : decode cX4_sharedTwos 29 = .ok (.iload 4, 2) := by decide +kernel
theorem dX4_sharedTwos_31 : decode cX4_sharedTwos 31 = .ok (.ireturn, 1) := by decide +kernel
theorem dJ9_max_7cf53_0 : decode cJ9_max_7cf53 0 = .ok (.iload_n 0, 1) := by decide +kernel
theorem dJ9_max_7cf53_1 : decode cJ9_max_7cf53 1 = .ok (.iload_n 1, 1) := by decide +kernel
theorem dJ9_max_7cf53_2 : decode cJ9_max_7cf53 2 = .ok (.if_icmp .lt 7, 3) := by decide +kernel
theorem dJ9_max_7cf53_5 : decode cJ9_max_7cf53 5 = .ok (.iload_n 0, 1) := by decide +kernel
theorem dJ9_max_7cf53_6 : decode cJ9_max_7cf53 6 = .ok (.goto 4, 3) := by decide +kernel
theorem dJ9_max_7cf53_9 : decode cJ9_max_7cf53 9 = .ok (.iload_n 1, 1) := by decide +kernel
theorem dJ9_max_7cf53_10 : decode cJ9_max_7cf53 10 = .ok (.ireturn, 1) := by decide +kernel
theorem dJ9_min_7cf53_0 : decode cJ9_min_7cf53 0 = .ok (.iload_n 0, 1) := by decide +kernel
theorem dJ9_min_7cf53_1 : decode cJ9_min_7cf53 1 = .ok (.iload_n 1, 1) := by decide +kernel
theorem dJ9_min_7cf53_2 : decode cJ9_min_7cf53 2 = .ok (.if_icmp .gt 7, 3) := by decide +kernel
theorem dJ9_min_7cf53_5 : decode cJ9_min_7cf53 5 = .ok (.iload_n 0, 1) := by decide +kernel
theorem dJ9_min_7cf53_6 : decode cJ9_min_7cf53 6 = .ok (.goto 4, 3) := by decide +kernel
theorem dJ9_min_7cf53_9 : decode cJ9_min_7cf53 9 = .ok (.iload_n 1, 1) := by decide +kernel
theorem dJ9_min_7cf53_10 : decode cJ9_min_7cf53 10 = .ok (.ireturn, 1) := by decide +kernel
theorem dJ7_fill_d0a16_0 : decode cJ7_fill_d0a16 0 = .ok (.iconst 0, 1) := by decide +kernel
theorem dJ7_fill_d0a16_1 : decode cJ7_fill_d0a16 1 = .ok (.istore_n 3, 1) := by decide +kernel
theorem dJ7_fill_d0a16_2 : decode cJ7_fill_d0a16 2 = .ok (.aload_n 0, 1) := by decide +kernel
theorem dJ7_fill_d0a16_3 : decode cJ7_fill_d0a16 3 = .ok (.arraylength, 1) := by decide +kernel
theorem dJ7_fill_d0a16_4 : decode cJ7_fill_d0a16 4 = .ok (.istore 4, 2) := by decide +kernel
theorem dJ7_fill_d0a16_6 : decode cJ7_fill_d0a16 6 = .ok (.iload_n 3, 1) := by decide +kernel
theorem dJ7_fill_d0a16_7 : decode cJ7_fill_d0a16 7 = .ok (.iload 4, 2) := by decide +kernel
theorem dJ7_fill_d0a16_9 : decode cJ7_fill_d0a16 9 = .ok (.if_icmp .ge 13, 3) := by decide +kernel
theorem dJ7_fill_d0a16_12 : decode cJ7_fill_d0a16 12 = .ok (.aload_n 0, 1) := by decide +kernel
theorem dJ7_fill_d0a16_13 : decode cJ7_fill_d0a16 13 = .ok (.iload_n 3, 1) := by decide +kernel
theorem dJ7_fill_d0a16_14 : decode cJ7_fill_d0a16 14 = .ok (.lload_n 1, 1) := by decide +kernel
theorem dJ7_fill_d0a16_15 : decode cJ7_fill_d0a16 15 = .ok (.lastore, 1) := by decide +kernel
theorem dJ7_fill_d0a16_16 : decode cJ7_fill_d0a16 16 = .ok (.iinc 3 1, 3) := by decide +kernel
theorem dJ7_fill_d0a16_19 : decode cJ7_fill_d0a16 19 = .ok (.goto (-13), 3) := by decide +kernel
theorem dJ7_fill_d0a16_22 : decode cJ7_fill_d0a16 22 = .ok (.return_, 1) := by decide +kernel
theorem dJ7_fill_53178_0 : decode cJ7_fill_53178 0 = .ok (.iconst 0, 1) := by decide +kernel
theorem dJ7_fill_53178_1 : decode cJ7_fill_53178 1 = .ok (.istore_n 2, 1) := by decide +kernel
theorem dJ7_fill_53178_2 : decode cJ7_fill_53178 2 = .ok (.aload_n 0, 1) := by decide +kernel
theorem dJ7_fill_53178_3 : decode cJ7_fill_53178 3 = .ok (.arraylength, 1) := by decide +kernel
theorem dJ7_fill_53178_4 : decode cJ7_fill_53178 4 = .ok (.istore_n 3, 1) := by decide +kernel
theorem dJ7_fill_53178_5 : decode cJ7_fill_53178 5 = .ok (.iload_n 2, 1) := by decide +kernel
theorem dJ7_fill_53178_6 : decode cJ7_fill_53178 6 = .ok (.iload_n 3, 1) := by decide +kernel
theorem dJ7_fill_53178_7 : decode cJ7_fill_53178 7 = .ok (.if_icmp .ge 13, 3) := by decide +kernel
theorem dJ7_fill_53178_10 : decode cJ7_fill_53178 10 = .ok (.aload_n 0, 1) := by decide +kernel
theorem dJ7_fill_53178_11 : decode cJ7_fill_53178 11 = .ok (.iload_n 2, 1) := by decide +kernel
theorem dJ7_fill_53178_12 : decode cJ7_fill_53178 12 = .ok (.iload_n 1, 1) := by decide +kernel
theorem dJ7_fill_53178_13 : decode cJ7_fill_53178 13 = .ok (.iastore, 1) := by decide +kernel
theorem dJ7_fill_53178_14 : decode cJ7_fill_53178 14 = .ok (.iinc 2 1, 3) := by decide +kernel
theorem dJ7_fill_53178_17 : decode cJ7_fill_53178 17 = .ok (.goto (-12), 3) := by decide +kernel
theorem dJ7_fill_53178_20 : decode cJ7_fill_53178 20 = .ok (.return_, 1) := by decide +kernel
