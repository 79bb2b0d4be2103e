theorem dX0_init_0 : decode cX0_init 0 = .ok (.aload_n 0, 1) := by decide +kernel
theorem dX0_init_1 : decode cX0_init 1 = .ok (.invokespecial 3, 3) := by decide +kernel
theorem dX0_init_4 : decode cX0_init 4 = .ok (.aload_n 0, 1) := by decide +kernel
theorem dX0_init_5 : decode cX0_init 5 = .ok (.iconst 0, 1) := by decide +kernel
theorem dX0_init_6 : decode cX0_init 6 = .ok (.putfield 9, 3) := by decide +kernel
theorem dX0_init_9 : decode cX0_init 9 = .ok (.aload_n 0, 1) := by decide +kernel
theorem dX0_init_10 : decode cX0_init 10 = .ok (.iconst 0, 1) := by decide +kernel
theorem dX0_init_11 : decode cX0_init 11 = .ok (.putfield 15, 3) := by decide +kernel
theorem dX0_init_14 : decode cX0_init 14 = .ok (.aload_n 0, 1) := by decide +kernel
theorem dX0_init_15 : decode cX0_init 15 = .ok (.sipush 1520, 3) := by decide +kernel
theorem dX0_init_18 : decode cX0_init 18 = .ok (.newarray .int, 2) := by decide +kernel
theorem dX0_init_20 : decode cX0_init 20 = .ok (.putfield 20, 3) := by decide +kernel
theorem dX0_init_23 : decode cX0_init 23 = .ok (.return_, 1) := by decide +kernel
theorem dX0_clear_0 : decode cX0_clear 0 = .ok (.aload_n 0, 1) := by decide +kernel
theorem dX0_clear_1 : decode cX0_clear 1 = .ok (.iconst 0, 1) := by decide +kernel
theorem dX0_clear_2 : decode cX0_clear 2 = .ok (.putfield 9, 3) := by decide +kernel
theorem dX0_clear_5 : decode cX0_clear 5 = .ok (.aload_n 0, 1) := by decide +kernel
theorem dX0_clear_6 : decode cX0_clear 6 = .ok (.iconst 0, 1) := by decide +kernel
theorem dX0_clear_7 : decode cX0_clear 7 = .ok (.putfield 15, 3) := by decide +kernel
theorem dX0_clear_10 : decode cX0_clear 10 = .ok (.return_, 1) := by decide +kernel
theorem dX0_copy_0 : decode cX0_copy 0 = .ok (.aload_n 0, 1) := by decide +kernel
theorem dX0_copy_1 : decode cX0_copy 1 = .ok (.aload_n 1, 1) := by decide +kernel
theorem dX0_copy_2 : decode cX0_copy 2 = .ok (.getfield 9, 3) := by decide +kernel
theorem dX0_copy_5 : decode cX0_copy 5 = .ok (.putfield 9, 3) := by decide +kernel
theorem dX0_copy_8 : decode cX0_copy 8 = .ok (.aload_n 0, 1) := by decide +kernel
theorem dX0_copy_9 : decode cX0_copy 9 = .ok (.aload_n 1, 1) := by decide +kernel
theorem dX0_copy_10 : decode cX0_copy 10 = .ok (.getfield 15, 3) := by decide +kernel
theorem dX0_copy_13 : decode cX0_copy 13 = .ok (.putfield 15, 3) := by decide +kernel
theorem dX0_copy_16 : decode cX0_copy 16 = .ok (.aload_n 1, 1) := by decide +kernel
theorem dX0_copy_17 : decode cX0_copy 17 = .ok (.getfield 20, 3) := by decide +kernel
theorem dX0_copy_20 : decode cX0_copy 20 = .ok (.iconst 0, 1) := by decide +kernel
theorem dX0_copy_21 : decode cX0_copy 21 = .ok (.aload_n 0, 1) := by decide +kernel
theorem dX0_copy_22 : decode cX0_copy 22 = .ok (.getfield 20, 3) := by decide +kernel
theorem dX0_copy_25 : decode cX0_copy 25 = .ok (.iconst 0, 1) := by decide +kernel
theorem dX0_copy_26 : decode cX0_copy 26 = .ok (.sipush 1520, 3) := by decide +kernel
theorem dX0_copy_29 : decode cX0_copy 29 = .ok (.invokestatic 24, 3) := by decide +kernel
theorem dX0_copy_32 : decode cX0_copy 32 = .ok (.return_, 1) := by decide +kernel
theorem dX0_keep_0 : decode cX0_keep 0 = .ok (.aload_n 1, 1) := by decide +kernel
theorem dX0_keep_1 : decode cX0_keep 1 = .ok (.aload_n 0, 1) := by decide +kernel
theorem dX0_keep_2 : decode cX0_keep 2 = .ok (.getfield 20, 3) := by decide +kernel
theorem dX0_keep_5 : decode cX0_keep 5 = .ok (.aload_n 0, 1) := by decide +kernel
theorem dX0_keep_6 : decode cX0_keep 6 = .ok (.getfield 15, 3) := by decide +kernel
theorem dX0_keep_9 : decode cX0_keep 9 = .ok (.bipush 38, 2) := by decide +kernel
theorem dX0_keep_11 : decode cX0_keep 11 = .ok (.imul, 1) := by decide +kernel
theorem dX0_keep_12 : decode cX0_keep 12 = .ok (.invokevirtual 30, 3) := by decide +kernel
theorem dX0_keep_15 : decode cX0_keep 15 = .ok (.aload_n 0, 1) := by decide +kernel
theorem dX0_keep_16 : decode cX0_keep 16 = .ok (.aload_n 0, 1) := by decide +kernel
theorem dX0_keep_17 : decode cX0_keep 17 = .ok (.getfield 15, 3) := by decide +kernel
theorem dX0_keep_20 : decode cX0_keep 20 = .ok (.iconst 1, 1) := by decide +kernel
theorem dX0_keep_21 : decode cX0_keep 21 = .ok (.iadd, 1) := by decide +kernel
theorem dX0_keep_22 : decode cX0_keep 22 = .ok (.bipush 40, 2) := by decide +kernel
theorem dX0_keep_24 : decode cX0_keep 24 = .ok (.irem, 1) := by decide +kernel
theorem dX0_keep_25 : decode cX0_keep 25 = .ok (.putfield 15, 3) := by decide +kernel
theorem dX0_keep_28 : decode cX0_keep 28 = .ok (.aload_n 0, 1) := by decide +kernel
theorem dX0_keep_29 : decode cX0_keep 29 = .ok (.aload_n 0, 1) := by decide +kernel
theorem dX0_keep_30 : decode cX0_keep 30 = .ok (.getfield 9, 3) := by decide +kernel
theorem dX0_keep_33 : decode cX0_keep 33 = .ok (.iconst 1, 1) := by decide +kernel
theorem dX0_keep_34 : decode cX0_keep 34 = .ok (.iadd, 1) := by decide +kernel
theorem dX0_keep_35 : decode cX0_keep 35 = .ok (.bipush 40, 2) := by decide +kernel
theorem dX0_keep_37 : decode cX0_keep 37 = .ok (.invokestatic 34, 3) := by decide +kernel
theorem dX0_keep_40 : decode cX0_keep 40 = .ok (.putfield 9, 3) := by decide +kernel
theorem dX0_keep_43 : decode cX0_keep 43 = .ok (.return_, 1) := by decide +kernel
theorem dX0_takeBack_0 : decode cX0_takeBack 0 = .ok (.aload_n 0, 1) := by decide +kernel
theorem dX0_takeBack_1 : decode cX0_takeBack 1 = .ok (.getfield 9, 3) := by decide +kernel
theorem dX0_takeBack_4 : decode cX0_takeBack 4 = .ok (.ifCond .ne 5, 3) := by decide +kernel
theorem dX0_takeBack_7 : decode cX0_takeBack 7 = .ok (.iconst 0, 1) := by decide +kernel
theorem dX0_takeBack_8 : decode cX0_takeBack 8 = .ok (.ireturn, 1) := by decide +kernel
theorem dX0_takeBack_9 : decode cX0_takeBack 9 = .ok (.aload_n 0, 1) := by decide +kernel
theorem dX0_takeBack_10 : decode cX0_takeBack 10 = .ok (.aload_n 0, 1) := by decide +kernel
theorem dX0_takeBack_11 : decode cX0_takeBack 11 = .ok (.getfield 15, 3) := by decide +kernel
theorem dX0_takeBack_14 : decode cX0_takeBack 14 = .ok (.bipush 40, 2) := by decide +kernel
theorem dX0_takeBack_16 : decode cX0_takeBack 16 = .ok (.iadd, 1) := by decide +kernel
theorem dX0_takeBack_17 : decode cX0_takeBack 17 = .ok (.iconst 1, 1) := by decide +kernel
theorem dX0_takeBack_18 : decode cX0_takeBack 18 = .ok (.isub, 1) := by decide +kernel
theorem dX0_takeBack_19 : decode cX0_takeBack 19 = .ok (.bipush 40, 2) := by decide +kernel
theorem dX0_takeBack_21 : decode cX0_takeBack 21 = .ok (.irem, 1) := by decide +kernel
theorem dX0_takeBack_22 : decode cX0_takeBack 22 = .ok (.putfield 15, 3) := by decide +kernel
theorem dX0_takeBack_25 : decode cX0_takeBack 25 = .ok (.aload_n 0, 1) := by decide +kernel
theorem dX0_takeBack_26 : decode cX0_takeBack 26 = .ok (.dup, 1) := by decide +kernel
theorem dX0_takeBack_27 : decode cX0_takeBack 27 = .ok (.getfield 9, 3) := by decide +kernel
theorem dX0_takeBack_30 : decode cX0_takeBack 30 = .ok (.iconst 1, 1) := by decide +kernel
theorem dX0_takeBack_31 : decode cX0_takeBack 31 = .ok (.isub, 1) := by decide +kernel
theorem dX0_takeBack_32 : decode cX0_takeBack 32 = .ok (.putfield 9, 3) := by decide +kernel
theorem dX0_takeBack_35 : decode cX0_takeBack 35 = .ok (.aload_n 1, 1) := by decide +kernel
theorem dX0_takeBack_36 : decode cX0_takeBack 36 = .ok (.aload_n 0, 1) := by decide +kernel
theorem dX0_takeBack_37 : decode cX0_takeBack 37 = .ok (.getfield 20, 3) := by decide +kernel
theorem dX0_takeBack_40 : decode cX0_takeBack 40 = .ok (.aload_n 0, 1) := by decide +kernel
theorem dX0_takeBack_41 : decode cX0_takeBack 41 = .ok (.getfield 15, 3) := by decide +kernel
theorem dX0_takeBack_44 : decode cX0_takeBack 44 = .ok (.bipush 38, 2) := by decide +kernel
theorem dX0_takeBack_46 : decode cX0_takeBack 46 = .ok (.imul, 1) := by decide +kernel
theorem dX0_takeBack_47 : decode cX0_takeBack 47 = .ok (.invokevirtual 40, 3) := by decide +kernel
theorem dX0_takeBack_50 : decode cX0_takeBack 50 = .ok (.iconst 1, 1) := by decide +kernel
theorem dX0_takeBack_51 : decode cX0_takeBack 51 = .ok (.ireturn, 1) := by decide +kernel
theorem dX1_init_0 : decode cX1_init 0 = .ok (.aload_n 0, 1) := by decide +kernel
theorem dX1_init_1 : decode cX1_init 1 = .ok (.invokespecial 1, 3) := by decide +kernel
theorem dX1_init_4 : decode cX1_init 4 = .ok (.aload_n 0, 1) := by decide +kernel
theorem dX1_init_5 : decode cX1_init 5 = .ok (.new 7, 3) := by decide +kernel
theorem dX1_init_8 : decode cX1_init 8 = .ok (.dup, 1) := by decide +kernel
theorem dX1_init_9 : decode cX1_init 9 = .ok (.invokespecial 9, 3) := by decide +kernel
theorem dX1_init_12 : decode cX1_init 12 = .ok (.putfield 10, 3) := by decide +kernel
theorem dX1_init_15 : decode cX1_init 15 = .ok (.aload_n 0, 1) := by decide +kernel
theorem dX1_init_16 : decode cX1_init 16 = .ok (.new 16, 3) := by decide +kernel
theorem dX1_init_19 : decode cX1_init 19 = .ok (.dup, 1) := by decide +kernel
theorem dX1_init_20 : decode cX1_init 20 = .ok (.invokespecial 18, 3) := by decide +kernel
theorem dX1_init_23 : decode cX1_init 23 = .ok (.putfield 19, 3) := by decide +kernel
theorem dX1_init_26 : decode cX1_init 26 = .ok (.aload_n 0, 1) := by decide +kernel
theorem dX1_init_27 : decode cX1_init 27 = .ok (.new 23, 3) := by decide +kernel
theorem dX1_init_30 : decode cX1_init 30 = .ok (.dup, 1) := by decide +kernel
theorem dX1_init_31 : decode cX1_init 31 = .ok (.invokespecial 25, 3) := by decide +kernel
theorem dX1_init_34 : decode cX1_init 34 = .ok (.putfield 26, 3) := by decide +kernel
theorem dX1_init_37 : decode cX1_init 37 = .ok (.aload_n 0, 1) := by decide +kernel
theorem dX1_init_38 : decode cX1_init 38 = .ok (.iconst 3, 1) := by decide +kernel
theorem dX1_init_39 : decode cX1_init 39 = .ok (.newarray .int, 2) := by decide +kernel
theorem dX1_init_41 : decode cX1_init 41 = .ok (.putfield 30, 3) := by decide +kernel
theorem dX1_init_44 : decode cX1_init 44 = .ok (.return_, 1) := by decide +kernel
theorem dX1_copy_0 : decode cX1_copy 0 = .ok (.aload_n 0, 1) := by decide +kernel
theorem dX1_copy_1 : decode cX1_copy 1 = .ok (.getfield 10, 3) := by decide +kernel
theorem dX1_copy_4 : decode cX1_copy 4 = .ok (.aload_n 1, 1) := by decide +kernel
theorem dX1_copy_5 : decode cX1_copy 5 = .ok (.getfield 10, 3) := by decide +kernel
theorem dX1_copy_8 : decode cX1_copy 8 = .ok (.invokevirtual 34, 3) := by decide +kernel
theorem dX1_copy_11 : decode cX1_copy 11 = .ok (.aload_n 0, 1) := by decide +kernel
theorem dX1_copy_12 : decode cX1_copy 12 = .ok (.getfield 19, 3) := by decide +kernel
theorem dX1_copy_15 : decode cX1_copy 15 = .ok (.aload_n 1, 1) := by decide +kernel
theorem dX1_copy_16 : decode cX1_copy 16 = .ok (.getfield 19, 3) := by decide +kernel
theorem dX1_copy_19 : decode cX1_copy 19 = .ok (.invokevirtual 38, 3) := by decide +kernel
theorem dX1_copy_22 : decode cX1_copy 22 = .ok (.aload_n 0, 1) := by decide +kernel
theorem dX1_copy_23 : decode cX1_copy 23 = .ok (.getfield 26, 3) := by decide +kernel
theorem dX1_copy_26 : decode cX1_copy 26 = .ok (.aload_n 1, 1) := by decide +kernel
theorem dX1_copy_27 : decode cX1_copy 27 = .ok (.getfield 26, 3) := by decide +kernel
theorem dX1_copy_30 : decode cX1_copy 30 = .ok (.invokevirtual 41, 3) := by decide +kernel
theorem dX1_copy_33 : decode cX1_copy 33 = .ok (.aload_n 1, 1) := by decide +kernel
theorem dX1_copy_34 : decode cX1_copy 34 = .ok (.getfield 30, 3) := by decide +kernel
theorem dX1_copy_37 : decode cX1_copy 37 = .ok (.iconst 0, 1) := by decide +kernel
theorem dX1_copy_38 : decode cX1_copy 38 = .ok (.aload_n 0, 1) := by decide +kernel
theorem dX1_copy_39 : decode cX1_copy 39 = .ok (.getfield 30, 3) := by decide +kernel
theorem dX1_copy_42 : decode cX1_copy 42 = .ok (.iconst 0, 1) := by decide +kernel
theorem dX1_copy_43 : decode cX1_copy 43 = .ok (.iconst 3, 1) := by decide +kernel
theorem dX1_copy_44 : decode cX1_copy 44 = .ok (.invokestatic 44, 3) := by decide +kernel
theorem dX1_copy_47 : decode cX1_copy 47 = .ok (.return_, 1) := by decide +kernel
theorem dX2_init_0 : decode cX2_init 0 = .ok (.aload_n 0, 1) := by decide +kernel
theorem dX2_init_1 : decode cX2_init 1 = .ok (.invokespecial 3, 3) := by decide +kernel
theorem dX2_init_4 : decode cX2_init 4 = .ok (.aload_n 0, 1) := by decide +kernel
theorem dX2_init_5 : decode cX2_init 5 = .ok (.new 9, 3) := by decide +kernel
theorem dX2_init_8 : decode cX2_init 8 = .ok (.dup, 1) := by decide +kernel
theorem dX2_init_9 : decode cX2_init 9 = .ok (.invokespecial 11, 3) := by decide +kernel
theorem dX2_init_12 : decode cX2_init 12 = .ok (.putfield 12, 3) := by decide +kernel
theorem dX2_init_15 : decode cX2_init 15 = .ok (.aload_n 0, 1) := by decide +kernel
theorem dX2_init_16 : decode cX2_init 16 = .ok (.bipush 9, 2) := by decide +kernel
theorem dX2_init_18 : decode cX2_init 18 = .ok (.newarray .int, 2) := by decide +kernel
theorem dX2_init_20 : decode cX2_init 20 = .ok (.putfield 18, 3) := by decide +kernel
theorem dX2_init_23 : decode cX2_init 23 = .ok (.aload_n 0, 1) := by decide +kernel
theorem dX2_init_24 : decode cX2_init 24 = .ok (.iconst 0, 1) := by decide +kernel
theorem dX2_init_25 : decode cX2_init 25 = .ok (.putfield 22, 3) := by decide +kernel
theorem dX2_init_28 : decode cX2_init 28 = .ok (.aload_n 0, 1) := by decide +kernel
theorem dX2_init_29 : decode cX2_init 29 = .ok (.bipush 6, 2) := by decide +kernel
theorem dX2_init_31 : decode cX2_init 31 = .ok (.newarray .int, 2) := by decide +kernel
theorem dX2_init_33 : decode cX2_init 33 = .ok (.putfield 28, 3) := by decide +kernel
theorem dX2_init_36 : decode cX2_init 36 = .ok (.aload_n 0, 1) := by decide +kernel
theorem dX2_init_37 : decode cX2_init 37 = .ok (.aload_n 1, 1) := by decide +kernel
theorem dX2_init_38 : decode cX2_init 38 = .ok (.putfield 31, 3) := by decide +kernel
theorem dX2_init_41 : decode cX2_init 41 = .ok (.aload_n 0, 1) := by decide +kernel
theorem dX2_init_42 : decode cX2_init 42 = .ok (.aload_n 2, 1) := by decide +kernel
theorem dX2_init_43 : decode cX2_init 43 = .ok (.putfield 35, 3) := by decide +kernel
theorem dX2_init_46 : decode cX2_init 46 = .ok (.return_, 1) := by decide +kernel
theorem dX2_start_0 : decode cX2_start 0 = .ok (.aload_n 0, 1) := by decide +kernel
theorem dX2_start_1 : decode cX2_start 1 = .ok (.getfield 12, 3) := by decide +kernel
theorem dX2_start_4 : decode cX2_start 4 = .ok (.aload_n 1, 1) := by decide +kernel
theorem dX2_start_5 : decode cX2_start 5 = .ok (.invokevirtual 39, 3) := by decide +kernel
theorem dX2_start_8 : decode cX2_start 8 = .ok (.iconst 0, 1) := by decide +kernel
theorem dX2_start_9 : decode cX2_start 9 = .ok (.istore_n 2, 1) := by decide +kernel
theorem dX2_start_10 : decode cX2_start 10 = .ok (.iload_n 2, 1) := by decide +kernel
theorem dX2_start_11 : decode cX2_start 11 = .ok (.bipush 9, 2) := by decide +kernel
theorem dX2_start_13 : decode cX2_start 13 = .ok (.if_icmp .ge 16, 3) := by decide +kernel
theorem dX2_start_16 : decode cX2_start 16 = .ok (.aload_n 0, 1) := by decide +kernel
theorem dX2_start_17 : decode cX2_start 17 = .ok (.getfield 18, 3) := by decide +kernel
theorem dX2_start_20 : decode cX2_start 20 = .ok (.iload_n 2, 1) := by decide +kernel
theorem dX2_start_21 : decode cX2_start 21 = .ok (.iconst 0, 1) := by decide +kernel
theorem dX2_start_22 : decode cX2_start 22 = .ok (.iastore, 1) := by decide +kernel
theorem dX2_start_23 : decode cX2_start 23 = .ok (.iinc 2 1, 3) := by decide +kernel
theorem dX2_start_26 : decode cX2_start 26 = .ok (.goto (-16), 3) := by decide +kernel
theorem dX2_start_29 : decode cX2_start 29 = .ok (.return_, 1) := by decide +kernel
theorem dX2_startAnew_0 : decode cX2_startAnew 0 = .ok (.aload_n 0, 1) := by decide +kernel
theorem dX2_startAnew_1 : decode cX2_startAnew 1 = .ok (.aload_n 1, 1) := by decide +kernel
theorem dX2_startAnew_2 : decode cX2_startAnew 2 = .ok (.invokevirtual 43, 3) := by decide +kernel
theorem dX2_startAnew_5 : decode cX2_startAnew 5 = .ok (.aload_n 0, 1) := by decide +kernel
theorem dX2_startAnew_6 : decode cX2_startAnew 6 = .ok (.getfield 12, 3) := by decide +kernel
theorem dX2_startAnew_9 : decode cX2_startAnew 9 = .ok (.invokevirtual 46, 3) := by decide +kernel
theorem dX2_startAnew_12 : decode cX2_startAnew 12 = .ok (.iconst 0, 1) := by decide +kernel
theorem dX2_startAnew_13 : decode cX2_startAnew 13 = .ok (.istore_n 3, 1) := by decide +kernel
theorem dX2_startAnew_14 : decode cX2_startAnew 14 = .ok (.iload_n 3, 1) := by decide +kernel
theorem dX2_startAnew_15 : decode cX2_startAnew 15 = .ok (.aload_n 0, 1) := by decide +kernel
theorem dX2_startAnew_16 : decode cX2_startAnew 16 = .ok (.getfield 31, 3) := by decide +kernel
theorem dX2_startAnew_19 : decode cX2_startAnew 19 = .ok (.getfield 49, 3) := by decide +kernel
theorem dX2_startAnew_22 : decode cX2_startAnew 22 = .ok (.if_icmp .ge 36, 3) := by decide +kernel
theorem dX2_startAnew_25 : decode cX2_startAnew 25 = .ok (.aload_n 0, 1) := by decide +kernel
theorem dX2_startAnew_26 : decode cX2_startAnew 26 = .ok (.getfield 12, 3) := by decide +kernel
theorem dX2_startAnew_29 : decode cX2_startAnew 29 = .ok (.getfield 54, 3) := by decide +kernel
theorem dX2_startAnew_32 : decode cX2_startAnew 32 = .ok (.iload_n 3, 1) := by decide +kernel
theorem dX2_startAnew_33 : decode cX2_startAnew 33 = .ok (.iconst 0, 1) := by decide +kernel
theorem dX2_startAnew_34 : decode cX2_startAnew 34 = .ok (.iastore, 1) := by decide +kernel
theorem dX2_startAnew_35 : decode cX2_startAnew 35 = .ok (.iload_n 2, 1) := by decide +kernel
theorem dX2_startAnew_36 : decode cX2_startAnew 36 = .ok (.iload_n 3, 1) := by decide +kernel
theorem dX2_startAnew_37 : decode cX2_startAnew 37 = .ok (.ishr, 1) := by decide +kernel
theorem dX2_startAnew_38 : decode cX2_startAnew 38 = .ok (.iconst 1, 1) := by decide +kernel
theorem dX2_startAnew_39 : decode cX2_startAnew 39 = .ok (.iand, 1) := by decide +kernel
theorem dX2_startAnew_40 : decode cX2_startAnew 40 = .ok (.iconst 1, 1) := by decide +kernel
theorem dX2_startAnew_41 : decode cX2_startAnew 41 = .ok (.if_icmp .ne 11, 3) := by decide +kernel
theorem dX2_startAnew_44 : decode cX2_startAnew 44 = .ok (.aload_n 0, 1) := by decide +kernel
theorem dX2_startAnew_45 : decode cX2_startAnew 45 = .ok (.getfield 12, 3) := by decide +kernel
theorem dX2_startAnew_48 : decode cX2_startAnew 48 = .ok (.iload_n 3, 1) := by decide +kernel
theorem dX2_startAnew_49 : decode cX2_startAnew 49 = .ok (.invokevirtual 57, 3) := by decide +kernel
theorem dX2_startAnew_52 : decode cX2_startAnew 52 = .ok (.iinc 3 1, 3) := by decide +kernel
theorem dX2_startAnew_55 : decode cX2_startAnew 55 = .ok (.goto (-41), 3) := by decide +kernel
theorem dX2_startAnew_58 : decode cX2_startAnew 58 = .ok (.return_, 1) := by decide +kernel
theorem dX2_go_0 : decode cX2_go 0 = .ok (.aload_n 0, 1) := by decide +kernel
theorem dX2_go_1 : decode cX2_go 1 = .ok (.aload_n 0, 1) := by decide +kernel
theorem dX2_go_2 : decode cX2_go 2 = .ok (.getfield 35, 3) := by decide +kernel
theorem dX2_go_5 : decode cX2_go 5 = .ok (.aload_n 0, 1) := by decide +kernel
theorem dX2_go_6 : decode cX2_go 6 = .ok (.getfield 31, 3) := by decide +kernel
theorem dX2_go_9 : decode cX2_go 9 = .ok (.aload_n 0, 1) := by decide +kernel
theorem dX2_go_10 : decode cX2_go 10 = .ok (.getfield 12, 3) := by decide +kernel
theorem dX2_go_13 : decode cX2_go 13 = .ok (.getfield 61, 3) := by decide +kernel
theorem dX2_go_16 : decode cX2_go 16 = .ok (.invokevirtual 64, 3) := by decide +kernel
theorem dX2_go_19 : decode cX2_go 19 = .ok (.invokevirtual 68, 3) := by decide +kernel
theorem dX2_go_22 : decode cX2_go 22 = .ok (.ireturn, 1) := by decide +kernel
theorem dX2_step_0 : decode cX2_step 0 = .ok (.aload_n 0, 1) := by decide +kernel
theorem dX2_step_1 : decode cX2_step 1 = .ok (.invokevirtual 72, 3) := by decide +kernel
theorem dX2_step_4 : decode cX2_step 4 = .ok (.istore_n 3, 1) := by decide +kernel
theorem dX2_step_5 : decode cX2_step 5 = .ok (.iconst 0, 1) := by decide +kernel
theorem dX2_step_6 : decode cX2_step 6 = .ok (.istore 4, 2) := by decide +kernel
theorem dX2_step_8 : decode cX2_step 8 = .ok (.iload 4, 2) := by decide +kernel
theorem dX2_step_10 : decode cX2_step 10 = .ok (.aload_n 0, 1) := by decide +kernel
theorem dX2_step_11 : decode cX2_step 11 = .ok (.getfield 31, 3) := by decide +kernel
theorem dX2_step_14 : decode cX2_step 14 = .ok (.getfield 49, 3) := by decide +kernel
theorem dX2_step_17 : decode cX2_step 17 = .ok (.if_icmp .ge 71, 3) := by decide +kernel
theorem dX2_step_20 : decode cX2_step 20 = .ok (.iload_n 3, 1) := by decide +kernel
theorem dX2_step_21 : decode cX2_step 21 = .ok (.ifCond .eq 67, 3) := by decide +kernel
theorem dX2_step_24 : decode cX2_step 24 = .ok (.aload_n 1, 1) := by decide +kernel
theorem dX2_step_25 : decode cX2_step 25 = .ok (.iload 4, 2) := by decide +kernel
theorem dX2_step_27 : decode cX2_step 27 = .ok (.iload_n 2, 1) := by decide +kernel
theorem dX2_step_28 : decode cX2_step 28 = .ok (.invokevirtual 76, 3) := by decide +kernel
theorem dX2_step_31 : decode cX2_step 31 = .ok (.iload_n 3, 1) := by decide +kernel
theorem dX2_step_32 : decode cX2_step 32 = .ok (.iand, 1) := by decide +kernel
theorem dX2_step_33 : decode cX2_step 33 = .ok (.istore 5, 2) := by decide +kernel
theorem dX2_step_35 : decode cX2_step 35 = .ok (.iload 5, 2) := by decide +kernel
theorem dX2_step_37 : decode cX2_step 37 = .ok (.ifCond .eq 45, 3) := by decide +kernel
theorem dX2_step_40 : decode cX2_step 40 = .ok (.aload_n 0, 1) := by decide +kernel
theorem dX2_step_41 : decode cX2_step 41 = .ok (.iload 4, 2) := by decide +kernel
theorem dX2_step_43 : decode cX2_step 43 = .ok (.iload_n 3, 1) := by decide +kernel
theorem dX2_step_44 : decode cX2_step 44 = .ok (.invokevirtual 82, 3) := by decide +kernel
theorem dX2_step_47 : decode cX2_step 47 = .ok (.ifCond .eq 35, 3) := by decide +kernel
theorem dX2_step_50 : decode cX2_step 50 = .ok (.aload_n 0, 1) := by decide +kernel
theorem dX2_step_51 : decode cX2_step 51 = .ok (.iload 4, 2) := by decide +kernel
theorem dX2_step_53 : decode cX2_step 53 = .ok (.iload 5, 2) := by decide +kernel
theorem dX2_step_55 : decode cX2_step 55 = .ok (.iload_n 2, 1) := by decide +kernel
theorem dX2_step_56 : decode cX2_step 56 = .ok (.invokevirtual 86, 3) := by decide +kernel
theorem dX2_step_59 : decode cX2_step 59 = .ok (.ifCond .eq 23, 3) := by decide +kernel
theorem dX2_step_62 : decode cX2_step 62 = .ok (.aload_n 0, 1) := by decide +kernel
theorem dX2_step_63 : decode cX2_step 63 = .ok (.getfield 12, 3) := by decide +kernel
theorem dX2_step_66 : decode cX2_step 66 = .ok (.getfield 90, 3) := by decide +kernel
theorem dX2_step_69 : decode cX2_step 69 = .ok (.iload 4, 2) := by decide +kernel
theorem dX2_step_71 : decode cX2_step 71 = .ok (.aload_n 0, 1) := by decide +kernel
theorem dX2_step_72 : decode cX2_step 72 = .ok (.getfield 31, 3) := by decide +kernel
theorem dX2_step_75 : decode cX2_step 75 = .ok (.getfield 93, 3) := by decide +kernel
theorem dX2_step_78 : decode cX2_step 78 = .ok (.iload 4, 2) := by decide +kernel
theorem dX2_step_80 : decode cX2_step 80 = .ok (.iaload, 1) := by decide +kernel
theorem dX2_step_81 : decode cX2_step 81 = .ok (.iastore, 1) := by decide +kernel
theorem dX2_step_82 : decode cX2_step 82 = .ok (.iinc 4 1, 3) := by decide +kernel
theorem dX2_step_85 : decode cX2_step 85 = .ok (.goto (-77), 3) := by decide +kernel
theorem dX2_step_88 : decode cX2_step 88 = .ok (.aload_n 0, 1) := by decide +kernel
theorem dX2_step_89 : decode cX2_step 89 = .ok (.getfield 12, 3) := by decide +kernel
theorem dX2_step_92 : decode cX2_step 92 = .ok (.dup, 1) := by decide +kernel
theorem dX2_step_93 : decode cX2_step 93 = .ok (.getfield 61, 3) := by decide +kernel
theorem dX2_step_96 : decode cX2_step 96 = .ok (.iconst 1, 1) := by decide +kernel
theorem dX2_step_97 : decode cX2_step 97 = .ok (.iadd, 1) := by decide +kernel
theorem dX2_step_98 : decode cX2_step 98 = .ok (.putfield 61, 3) := by decide +kernel
theorem dX2_step_101 : decode cX2_step 101 = .ok (.iload_n 3, 1) := by decide +kernel
theorem dX2_step_102 : decode cX2_step 102 = .ok (.ireturn, 1) := by decide +kernel
theorem dX2_nodAll_0 : decode cX2_nodAll 0 = .ok (.iconst 0, 1) := by decide +kernel
theorem dX2_nodAll_1 : decode cX2_nodAll 1 = .ok (.istore_n 1, 1) := by decide +kernel
theorem dX2_nodAll_2 : decode cX2_nodAll 2 = .ok (.iconst 0, 1) := by decide +kernel
theorem dX2_nodAll_3 : decode cX2_nodAll 3 = .ok (.istore_n 2, 1) := by decide +kernel
theorem dX2_nodAll_4 : decode cX2_nodAll 4 = .ok (.iload_n 2, 1) := by decide +kernel
theorem dX2_nodAll_5 : decode cX2_nodAll 5 = .ok (.aload_n 0, 1) := by decide +kernel
theorem dX2_nodAll_6 : decode cX2_nodAll 6 = .ok (.getfield 31, 3) := by decide +kernel
theorem dX2_nodAll_9 : decode cX2_nodAll 9 = .ok (.getfield 49, 3) := by decide +kernel
theorem dX2_nodAll_12 : decode cX2_nodAll 12 = .ok (.if_icmp .ge 126, 3) := by decide +kernel
theorem dX2_nodAll_15 : decode cX2_nodAll 15 = .ok (.aload_n 0, 1) := by decide +kernel
theorem dX2_nodAll_16 : decode cX2_nodAll 16 = .ok (.getfield 12, 3) := by decide +kernel
theorem dX2_nodAll_19 : decode cX2_nodAll 19 = .ok (.getfield 90, 3) := by decide +kernel
theorem dX2_nodAll_22 : decode cX2_nodAll 22 = .ok (.iload_n 2, 1) := by decide +kernel
theorem dX2_nodAll_23 : decode cX2_nodAll 23 = .ok (.iaload, 1) := by decide +kernel
theorem dX2_nodAll_24 : decode cX2_nodAll 24 = .ok (.istore_n 3, 1) := by decide +kernel
theorem dX2_nodAll_25 : decode cX2_nodAll 25 = .ok (.iload_n 3, 1) := by decide +kernel
theorem dX2_nodAll_26 : decode cX2_nodAll 26 = .ok (.iconst 1, 1) := by decide +kernel
theorem dX2_nodAll_27 : decode cX2_nodAll 27 = .ok (.if_icmp .ne 61, 3) := by decide +kernel
theorem dX2_nodAll_30 : decode cX2_nodAll 30 = .ok (.aload_n 0, 1) := by decide +kernel
theorem dX2_nodAll_31 : decode cX2_nodAll 31 = .ok (.getfield 12, 3) := by decide +kernel
theorem dX2_nodAll_34 : decode cX2_nodAll 34 = .ok (.getfield 54, 3) := by decide +kernel
theorem dX2_nodAll_37 : decode cX2_nodAll 37 = .ok (.iload_n 2, 1) := by decide +kernel
theorem dX2_nodAll_38 : decode cX2_nodAll 38 = .ok (.aload_n 0, 1) := by decide +kernel
theorem dX2_nodAll_39 : decode cX2_nodAll 39 = .ok (.getfield 31, 3) := by decide +kernel
theorem dX2_nodAll_42 : decode cX2_nodAll 42 = .ok (.getfield 96, 3) := by decide +kernel
theorem dX2_nodAll_45 : decode cX2_nodAll 45 = .ok (.iastore, 1) := by decide +kernel
theorem dX2_nodAll_46 : decode cX2_nodAll 46 = .ok (.aload_n 0, 1) := by decide +kernel
theorem dX2_nodAll_47 : decode cX2_nodAll 47 = .ok (.getfield 12, 3) := by decide +kernel
theorem dX2_nodAll_50 : decode cX2_nodAll 50 = .ok (.getfield 99, 3) := by decide +kernel
theorem dX2_nodAll_53 : decode cX2_nodAll 53 = .ok (.iload_n 2, 1) := by decide +kernel
theorem dX2_nodAll_54 : decode cX2_nodAll 54 = .ok (.aload_n 0, 1) := by decide +kernel
theorem dX2_nodAll_55 : decode cX2_nodAll 55 = .ok (.getfield 12, 3) := by decide +kernel
theorem dX2_nodAll_58 : decode cX2_nodAll 58 = .ok (.getfield 99, 3) := by decide +kernel
theorem dX2_nodAll_61 : decode cX2_nodAll 61 = .ok (.iload_n 2, 1) := by decide +kernel
theorem dX2_nodAll_62 : decode cX2_nodAll 62 = .ok (.iaload, 1) := by decide +kernel
theorem dX2_nodAll_63 : decode cX2_nodAll 63 = .ok (.iconst 1, 1) := by decide +kernel
theorem dX2_nodAll_64 : decode cX2_nodAll 64 = .ok (.iadd, 1) := by decide +kernel
theorem dX2_nodAll_65 : decode cX2_nodAll 65 = .ok (.sipush 999, 3) := by decide +kernel
theorem dX2_nodAll_68 : decode cX2_nodAll 68 = .ok (.invokestatic 102, 3) := by decide +kernel
theorem dX2_nodAll_71 : decode cX2_nodAll 71 = .ok (.iastore, 1) := by decide +kernel
theorem dX2_nodAll_72 : decode cX2_nodAll 72 = .ok (.aload_n 0, 1) := by decide +kernel
theorem dX2_nodAll_73 : decode cX2_nodAll 73 = .ok (.getfield 18, 3) := by decide +kernel
theorem dX2_nodAll_76 : decode cX2_nodAll 76 = .ok (.iload_n 2, 1) := by decide +kernel
theorem dX2_nodAll_77 : decode cX2_nodAll 77 = .ok (.dup2, 1) := by decide +kernel
theorem dX2_nodAll_78 : decode cX2_nodAll 78 = .ok (.iaload, 1) := by decide +kernel
theorem dX2_nodAll_79 : decode cX2_nodAll 79 = .ok (.iconst 1, 1) := by decide +kernel
theorem dX2_nodAll_80 : decode cX2_nodAll 80 = .ok (.iadd, 1) := by decide +kernel
theorem dX2_nodAll_81 : decode cX2_nodAll 81 = .ok (.iastore, 1) := by decide +kernel
theorem dX2_nodAll_82 : decode cX2_nodAll 82 = .ok (.iload_n 1, 1) := by decide +kernel
theorem dX2_nodAll_83 : decode cX2_nodAll 83 = .ok (.iconst 1, 1) := by decide +kernel
theorem dX2_nodAll_84 : decode cX2_nodAll 84 = .ok (.iload_n 2, 1) := by decide +kernel
theorem dX2_nodAll_85 : decode cX2_nodAll 85 = .ok (.ishl, 1) := by decide +kernel
theorem dX2_nodAll_86 : decode cX2_nodAll 86 = .ok (.ior, 1) := by decide +kernel
theorem dX2_nodAll_87 : decode cX2_nodAll 87 = .ok (.istore_n 1, 1) := by decide +kernel
theorem dX2_nodAll_88 : decode cX2_nodAll 88 = .ok (.iload_n 3, 1) := by decide +kernel
theorem dX2_nodAll_89 : decode cX2_nodAll 89 = .ok (.ifCond .le 18, 3) := by decide +kernel
theorem dX2_nodAll_92 : decode cX2_nodAll 92 = .ok (.aload_n 0, 1) := by decide +kernel
theorem dX2_nodAll_93 : decode cX2_nodAll 93 = .ok (.getfield 12, 3) := by decide +kernel
theorem dX2_nodAll_96 : decode cX2_nodAll 96 = .ok (.getfield 90, 3) := by decide +kernel
theorem dX2_nodAll_99 : decode cX2_nodAll 99 = .ok (.iload_n 2, 1) := by decide +kernel
theorem dX2_nodAll_100 : decode cX2_nodAll 100 = .ok (.iload_n 3, 1) := by decide +kernel
theorem dX2_nodAll_101 : decode cX2_nodAll 101 = .ok (.iconst 1, 1) := by decide +kernel
theorem dX2_nodAll_102 : decode cX2_nodAll 102 = .ok (.isub, 1) := by decide +kernel
theorem dX2_nodAll_103 : decode cX2_nodAll 103 = .ok (.iastore, 1) := by decide +kernel
theorem dX2_nodAll_104 : decode cX2_nodAll 104 = .ok (.goto 28, 3) := by decide +kernel
theorem dX2_nodAll_107 : decode cX2_nodAll 107 = .ok (.aload_n 0, 1) := by decide +kernel
theorem dX2_nodAll_108 : decode cX2_nodAll 108 = .ok (.getfield 12, 3) := by decide +kernel
theorem dX2_nodAll_111 : decode cX2_nodAll 111 = .ok (.getfield 54, 3) := by decide +kernel
theorem dX2_nodAll_114 : decode cX2_nodAll 114 = .ok (.iload_n 2, 1) := by decide +kernel
theorem dX2_nodAll_115 : decode cX2_nodAll 115 = .ok (.iaload, 1) := by decide +kernel
theorem dX2_nodAll_116 : decode cX2_nodAll 116 = .ok (.ifCond .le 16, 3) := by decide +kernel
theorem dX2_nodAll_119 : decode cX2_nodAll 119 = .ok (.aload_n 0, 1) := by decide +kernel
theorem dX2_nodAll_120 : decode cX2_nodAll 120 = .ok (.getfield 12, 3) := by decide +kernel
theorem dX2_nodAll_123 : decode cX2_nodAll 123 = .ok (.getfield 54, 3) := by decide +kernel
theorem dX2_nodAll_126 : decode cX2_nodAll 126 = .ok (.iload_n 2, 1) := by decide +kernel
theorem dX2_nodAll_127 : decode cX2_nodAll 127 = .ok (.dup2, 1) := by decide +kernel
theorem dX2_nodAll_128 : decode cX2_nodAll 128 = .ok (.iaload, 1) := by decide +kernel
theorem dX2_nodAll_129 : decode cX2_nodAll 129 = .ok (.iconst 1, 1) := by decide +kernel
theorem dX2_nodAll_130 : decode cX2_nodAll 130 = .ok (.isub, 1) := by decide +kernel
theorem dX2_nodAll_131 : decode cX2_nodAll 131 = .ok (.iastore, 1) := by decide +kernel
theorem dX2_nodAll_132 : decode cX2_nodAll 132 = .ok (.iinc 2 1, 3) := by decide +kernel
theorem dX2_nodAll_135 : decode cX2_nodAll 135 = .ok (.goto (-131), 3) := by decide +kernel
theorem dX2_nodAll_138 : decode cX2_nodAll 138 = .ok (.iload_n 1, 1) := by decide +kernel
theorem dX2_nodAll_139 : decode cX2_nodAll 139 = .ok (.ireturn, 1) := by decide +kernel
theorem dX2_isFree_0 : decode cX2_isFree 0 = .ok (.aload_n 0, 1) := by decide +kernel
theorem dX2_isFree_1 : decode cX2_isFree 1 = .ok (.getfield 12, 3) := by decide +kernel
theorem dX2_isFree_4 : decode cX2_isFree 4 = .ok (.getfield 90, 3) := by decide +kernel
theorem dX2_isFree_7 : decode cX2_isFree 7 = .ok (.iload_n 1, 1) := by decide +kernel
theorem dX2_isFree_8 : decode cX2_isFree 8 = .ok (.iaload, 1) := by decide +kernel
theorem dX2_isFree_9 : decode cX2_isFree 9 = .ok (.ifCond .ne 35, 3) := by decide +kernel
theorem dX2_isFree_12 : decode cX2_isFree 12 = .ok (.aload_n 0, 1) := by decide +kernel
theorem dX2_isFree_13 : decode cX2_isFree 13 = .ok (.getfield 12, 3) := by decide +kernel
theorem dX2_isFree_16 : decode cX2_isFree 16 = .ok (.getfield 54, 3) := by decide +kernel
theorem dX2_isFree_19 : decode cX2_isFree 19 = .ok (.iload_n 1, 1) := by decide +kernel
theorem dX2_isFree_20 : decode cX2_isFree 20 = .ok (.iaload, 1) := by decide +kernel
theorem dX2_isFree_21 : decode cX2_isFree 21 = .ok (.ifCond .ne 23, 3) := by decide +kernel
theorem dX2_isFree_24 : decode cX2_isFree 24 = .ok (.aload_n 0, 1) := by decide +kernel
theorem dX2_isFree_25 : decode cX2_isFree 25 = .ok (.getfield 12, 3) := by decide +kernel
theorem dX2_isFree_28 : decode cX2_isFree 28 = .ok (.getfield 107, 3) := by decide +kernel
theorem dX2_isFree_31 : decode cX2_isFree 31 = .ok (.iload_n 2, 1) := by decide +kernel
theorem dX2_isFree_32 : decode cX2_isFree 32 = .ok (.ior, 1) := by decide +kernel
theorem dX2_isFree_33 : decode cX2_isFree 33 = .ok (.iload_n 1, 1) := by decide +kernel
theorem dX2_isFree_34 : decode cX2_isFree 34 = .ok (.ishr, 1) := by decide +kernel
theorem dX2_isFree_35 : decode cX2_isFree 35 = .ok (.iconst 1, 1) := by decide +kernel
theorem dX2_isFree_36 : decode cX2_isFree 36 = .ok (.iand, 1) := by decide +kernel
theorem dX2_isFree_37 : decode cX2_isFree 37 = .ok (.ifCond .ne 7, 3) := by decide +kernel
theorem dX2_isFree_40 : decode cX2_isFree 40 = .ok (.iconst 1, 1) := by decide +kernel
theorem dX2_isFree_41 : decode cX2_isFree 41 = .ok (.goto 4, 3) := by decide +kernel
theorem dX2_isFree_44 : decode cX2_isFree 44 = .ok (.iconst 0, 1) := by decide +kernel
theorem dX2_isFree_45 : decode cX2_isFree 45 = .ok (.ireturn, 1) := by decide +kernel
theorem dX2_minds_0 : decode cX2_minds 0 = .ok (.aload_n 0, 1) := by decide +kernel
theorem dX2_minds_1 : decode cX2_minds 1 = .ok (.getfield 31, 3) := by decide +kernel
theorem dX2_minds_4 : decode cX2_minds 4 = .ok (.getfield 110, 3) := by decide +kernel
theorem dX2_minds_7 : decode cX2_minds 7 = .ok (.getfield 114, 3) := by decide +kernel
theorem dX2_minds_10 : decode cX2_minds 10 = .ok (.ifCond .eq 18, 3) := by decide +kernel
theorem dX2_minds_13 : decode cX2_minds 13 = .ok (.aload_n 0, 1) := by decide +kernel
theorem dX2_minds_14 : decode cX2_minds 14 = .ok (.getfield 31, 3) := by decide +kernel
theorem dX2_minds_17 : decode cX2_minds 17 = .ok (.getfield 117, 3) := by decide +kernel
theorem dX2_minds_20 : decode cX2_minds 20 = .ok (.iload_n 1, 1) := by decide +kernel
theorem dX2_minds_21 : decode cX2_minds 21 = .ok (.ishr, 1) := by decide +kernel
theorem dX2_minds_22 : decode cX2_minds 22 = .ok (.iconst 1, 1) := by decide +kernel
theorem dX2_minds_23 : decode cX2_minds 23 = .ok (.iand, 1) := by decide +kernel
theorem dX2_minds_24 : decode cX2_minds 24 = .ok (.iconst 1, 1) := by decide +kernel
theorem dX2_minds_25 : decode cX2_minds 25 = .ok (.if_icmp .ne 5, 3) := by decide +kernel
theorem dX2_minds_28 : decode cX2_minds 28 = .ok (.iconst 1, 1) := by decide +kernel
theorem dX2_minds_29 : decode cX2_minds 29 = .ok (.ireturn, 1) := by decide +kernel
theorem dX2_minds_30 : decode cX2_minds 30 = .ok (.aload_n 0, 1) := by decide +kernel
theorem dX2_minds_31 : decode cX2_minds 31 = .ok (.iload_n 1, 1) := by decide +kernel
theorem dX2_minds_32 : decode cX2_minds 32 = .ok (.iload_n 2, 1) := by decide +kernel
theorem dX2_minds_33 : decode cX2_minds 33 = .ok (.invokevirtual 120, 3) := by decide +kernel
theorem dX2_minds_36 : decode cX2_minds 36 = .ok (.istore 4, 2) := by decide +kernel
theorem dX2_minds_38 : decode cX2_minds 38 = .ok (.aload_n 0, 1) := by decide +kernel
theorem dX2_minds_39 : decode cX2_minds 39 = .ok (.getfield 28, 3) := by decide +kernel
theorem dX2_minds_42 : decode cX2_minds 42 = .ok (.iconst 0, 1) := by decide +kernel
theorem dX2_minds_43 : decode cX2_minds 43 = .ok (.iload_n 2, 1) := by decide +kernel
theorem dX2_minds_44 : decode cX2_minds 44 = .ok (.invokestatic 123, 3) := by decide +kernel
theorem dX2_minds_47 : decode cX2_minds 47 = .ok (.iastore, 1) := by decide +kernel
theorem dX2_minds_48 : decode cX2_minds 48 = .ok (.aload_n 0, 1) := by decide +kernel
theorem dX2_minds_49 : decode cX2_minds 49 = .ok (.getfield 28, 3) := by decide +kernel
theorem dX2_minds_52 : decode cX2_minds 52 = .ok (.iconst 1, 1) := by decide +kernel
theorem dX2_minds_53 : decode cX2_minds 53 = .ok (.aload_n 0, 1) := by decide +kernel
theorem dX2_minds_54 : decode cX2_minds 54 = .ok (.getfield 31, 3) := by decide +kernel
theorem dX2_minds_57 : decode cX2_minds 57 = .ok (.iload_n 1, 1) := by decide +kernel
theorem dX2_minds_58 : decode cX2_minds 58 = .ok (.iload 4, 2) := by decide +kernel
theorem dX2_minds_60 : decode cX2_minds 60 = .ok (.invokevirtual 128, 3) := by decide +kernel
theorem dX2_minds_63 : decode cX2_minds 63 = .ok (.iastore, 1) := by decide +kernel
theorem dX2_minds_64 : decode cX2_minds 64 = .ok (.aload_n 0, 1) := by decide +kernel
theorem dX2_minds_65 : decode cX2_minds 65 = .ok (.getfield 28, 3) := by decide +kernel
theorem dX2_minds_68 : decode cX2_minds 68 = .ok (.iconst 2, 1) := by decide +kernel
theorem dX2_minds_69 : decode cX2_minds 69 = .ok (.aload_n 0, 1) := by decide +kernel
theorem dX2_minds_70 : decode cX2_minds 70 = .ok (.getfield 31, 3) := by decide +kernel
theorem dX2_minds_73 : decode cX2_minds 73 = .ok (.getfield 131, 3) := by decide +kernel
theorem dX2_minds_76 : decode cX2_minds 76 = .ok (.iload 4, 2) := by decide +kernel
theorem dX2_minds_78 : decode cX2_minds 78 = .ok (.iaload, 1) := by decide +kernel
theorem dX2_minds_79 : decode cX2_minds 79 = .ok (.aload_n 0, 1) := by decide +kernel
theorem dX2_minds_80 : decode cX2_minds 80 = .ok (.getfield 31, 3) := by decide +kernel
theorem dX2_minds_83 : decode cX2_minds 83 = .ok (.getfield 131, 3) := by decide +kernel
theorem dX2_minds_86 : decode cX2_minds 86 = .ok (.iload_n 1, 1) := by decide +kernel
theorem dX2_minds_87 : decode cX2_minds 87 = .ok (.iaload, 1) := by decide +kernel
theorem dX2_minds_88 : decode cX2_minds 88 = .ok (.isub, 1) := by decide +kernel
theorem dX2_minds_89 : decode cX2_minds 89 = .ok (.iastore, 1) := by decide +kernel
theorem dX2_minds_90 : decode cX2_minds 90 = .ok (.aload_n 0, 1) := by decide +kernel
theorem dX2_minds_91 : decode cX2_minds 91 = .ok (.getfield 28, 3) := by decide +kernel
theorem dX2_minds_94 : decode cX2_minds 94 = .ok (.iconst 3, 1) := by decide +kernel
theorem dX2_minds_95 : decode cX2_minds 95 = .ok (.aload_n 0, 1) := by decide +kernel
theorem dX2_minds_96 : decode cX2_minds 96 = .ok (.getfield 12, 3) := by decide +kernel
theorem dX2_minds_99 : decode cX2_minds 99 = .ok (.getfield 99, 3) := by decide +kernel
theorem dX2_minds_102 : decode cX2_minds 102 = .ok (.iload_n 1, 1) := by decide +kernel
theorem dX2_minds_103 : decode cX2_minds 103 = .ok (.iaload, 1) := by decide +kernel
theorem dX2_minds_104 : decode cX2_minds 104 = .ok (.iastore, 1) := by decide +kernel
theorem dX2_minds_105 : decode cX2_minds 105 = .ok (.aload_n 0, 1) := by decide +kernel
theorem dX2_minds_106 : decode cX2_minds 106 = .ok (.getfield 28, 3) := by decide +kernel
theorem dX2_minds_109 : decode cX2_minds 109 = .ok (.iconst 4, 1) := by decide +kernel
theorem dX2_minds_110 : decode cX2_minds 110 = .ok (.iload_n 3, 1) := by decide +kernel
theorem dX2_minds_111 : decode cX2_minds 111 = .ok (.iastore, 1) := by decide +kernel
theorem dX2_minds_112 : decode cX2_minds 112 = .ok (.aload_n 0, 1) := by decide +kernel
theorem dX2_minds_113 : decode cX2_minds 113 = .ok (.getfield 28, 3) := by decide +kernel
theorem dX2_minds_116 : decode cX2_minds 116 = .ok (.iconst 5, 1) := by decide +kernel
theorem dX2_minds_117 : decode cX2_minds 117 = .ok (.aload_n 0, 1) := by decide +kernel
theorem dX2_minds_118 : decode cX2_minds 118 = .ok (.getfield 12, 3) := by decide +kernel
theorem dX2_minds_121 : decode cX2_minds 121 = .ok (.getfield 61, 3) := by decide +kernel
theorem dX2_minds_124 : decode cX2_minds 124 = .ok (.iastore, 1) := by decide +kernel
theorem dX2_minds_125 : decode cX2_minds 125 = .ok (.aload_n 0, 1) := by decide +kernel
theorem dX2_minds_126 : decode cX2_minds 126 = .ok (.getfield 31, 3) := by decide +kernel
theorem dX2_minds_129 : decode cX2_minds 129 = .ok (.getfield 110, 3) := by decide +kernel
theorem dX2_minds_132 : decode cX2_minds 132 = .ok (.aload_n 0, 1) := by decide +kernel
theorem dX2_minds_133 : decode cX2_minds 133 = .ok (.getfield 28, 3) := by decide +kernel
theorem dX2_minds_136 : decode cX2_minds 136 = .ok (.invokevirtual 134, 3) := by decide +kernel
theorem dX2_minds_139 : decode cX2_minds 139 = .ok (.ifCond .le 7, 3) := by decide +kernel
theorem dX2_minds_142 : decode cX2_minds 142 = .ok (.iconst 1, 1) := by decide +kernel
theorem dX2_minds_143 : decode cX2_minds 143 = .ok (.goto 4, 3) := by decide +kernel
theorem dX2_minds_146 : decode cX2_minds 146 = .ok (.iconst 0, 1) := by decide +kernel
theorem dX2_minds_147 : decode cX2_minds 147 = .ok (.ireturn, 1) := by decide +kernel
theorem dX2_nearestOf_0 : decode cX2_nearestOf 0 = .ok (.iload_n 1, 1) := by decide +kernel
theorem dX2_nearestOf_1 : decode cX2_nearestOf 1 = .ok (.istore_n 3, 1) := by decide +kernel
theorem dX2_nearestOf_2 : decode cX2_nearestOf 2 = .ok (.iconst 0, 1) := by decide +kernel
theorem dX2_nearestOf_3 : decode cX2_nearestOf 3 = .ok (.istore 4, 2) := by decide +kernel
theorem dX2_nearestOf_5 : decode cX2_nearestOf 5 = .ok (.iload 4, 2) := by decide +kernel
theorem dX2_nearestOf_7 : decode cX2_nearestOf 7 = .ok (.aload_n 0, 1) := by decide +kernel
theorem dX2_nearestOf_8 : decode cX2_nearestOf 8 = .ok (.getfield 31, 3) := by decide +kernel
theorem dX2_nearestOf_11 : decode cX2_nearestOf 11 = .ok (.getfield 49, 3) := by decide +kernel
theorem dX2_nearestOf_14 : decode cX2_nearestOf 14 = .ok (.if_icmp .ge 61, 3) := by decide +kernel
theorem dX2_nearestOf_17 : decode cX2_nearestOf 17 = .ok (.iload_n 2, 1) := by decide +kernel
theorem dX2_nearestOf_18 : decode cX2_nearestOf 18 = .ok (.iload 4, 2) := by decide +kernel
theorem dX2_nearestOf_20 : decode cX2_nearestOf 20 = .ok (.ishr, 1) := by decide +kernel
theorem dX2_nearestOf_21 : decode cX2_nearestOf 21 = .ok (.iconst 1, 1) := by decide +kernel
theorem dX2_nearestOf_22 : decode cX2_nearestOf 22 = .ok (.iand, 1) := by decide +kernel
theorem dX2_nearestOf_23 : decode cX2_nearestOf 23 = .ok (.iconst 1, 1) := by decide +kernel
theorem dX2_nearestOf_24 : decode cX2_nearestOf 24 = .ok (.if_icmp .ne 7, 3) := by decide +kernel
theorem dX2_nearestOf_27 : decode cX2_nearestOf 27 = .ok (.iconst 1, 1) := by decide +kernel
theorem dX2_nearestOf_28 : decode cX2_nearestOf 28 = .ok (.goto 4, 3) := by decide +kernel
theorem dX2_nearestOf_31 : decode cX2_nearestOf 31 = .ok (.iconst 0, 1) := by decide +kernel
theorem dX2_nearestOf_32 : decode cX2_nearestOf 32 = .ok (.istore 5, 2) := by decide +kernel
theorem dX2_nearestOf_34 : decode cX2_nearestOf 34 = .ok (.iload 5, 2) := by decide +kernel
theorem dX2_nearestOf_36 : decode cX2_nearestOf 36 = .ok (.ifCond .eq 33, 3) := by decide +kernel
theorem dX2_nearestOf_39 : decode cX2_nearestOf 39 = .ok (.iload_n 3, 1) := by decide +kernel
theorem dX2_nearestOf_40 : decode cX2_nearestOf 40 = .ok (.iload_n 1, 1) := by decide +kernel
theorem dX2_nearestOf_41 : decode cX2_nearestOf 41 = .ok (.if_icmp .eq 25, 3) := by decide +kernel
theorem dX2_nearestOf_44 : decode cX2_nearestOf 44 = .ok (.aload_n 0, 1) := by decide +kernel
theorem dX2_nearestOf_45 : decode cX2_nearestOf 45 = .ok (.getfield 31, 3) := by decide +kernel
theorem dX2_nearestOf_48 : decode cX2_nearestOf 48 = .ok (.iload_n 1, 1) := by decide +kernel
theorem dX2_nearestOf_49 : decode cX2_nearestOf 49 = .ok (.iload 4, 2) := by decide +kernel
theorem dX2_nearestOf_51 : decode cX2_nearestOf 51 = .ok (.invokevirtual 128, 3) := by decide +kernel
theorem dX2_nearestOf_54 : decode cX2_nearestOf 54 = .ok (.aload_n 0, 1) := by decide +kernel
theorem dX2_nearestOf_55 : decode cX2_nearestOf 55 = .ok (.getfield 31, 3) := by decide +kernel
theorem dX2_nearestOf_58 : decode cX2_nearestOf 58 = .ok (.iload_n 1, 1) := by decide +kernel
theorem dX2_nearestOf_59 : decode cX2_nearestOf 59 = .ok (.iload_n 3, 1) := by decide +kernel
theorem dX2_nearestOf_60 : decode cX2_nearestOf 60 = .ok (.invokevirtual 128, 3) := by decide +kernel
theorem dX2_nearestOf_63 : decode cX2_nearestOf 63 = .ok (.if_icmp .ge 6, 3) := by decide +kernel
theorem dX2_nearestOf_66 : decode cX2_nearestOf 66 = .ok (.iload 4, 2) := by decide +kernel
theorem dX2_nearestOf_68 : decode cX2_nearestOf 68 = .ok (.istore_n 3, 1) := by decide +kernel
theorem dX2_nearestOf_69 : decode cX2_nearestOf 69 = .ok (.iinc 4 1, 3) := by decide +kernel
theorem dX2_nearestOf_72 : decode cX2_nearestOf 72 = .ok (.goto (-67), 3) := by decide +kernel
theorem dX2_nearestOf_75 : decode cX2_nearestOf 75 = .ok (.iload_n 3, 1) := by decide +kernel
theorem dX2_nearestOf_76 : decode cX2_nearestOf 76 = .ok (.ireturn, 1) := by decide +kernel
theorem dX2_firstNod_0 : decode cX2_firstNod 0 = .ok (.iconst 1, 1) := by decide +kernel
theorem dX2_firstNod_1 : decode cX2_firstNod 1 = .ok (.istore_n 2, 1) := by decide +kernel
theorem dX2_firstNod_2 : decode cX2_firstNod 2 = .ok (.iload_n 2, 1) := by decide +kernel
theorem dX2_firstNod_3 : decode cX2_firstNod 3 = .ok (.bipush 60, 2) := by decide +kernel
theorem dX2_firstNod_5 : decode cX2_firstNod 5 = .ok (.if_icmp .gt 23, 3) := by decide +kernel
theorem dX2_firstNod_8 : decode cX2_firstNod 8 = .ok (.aload_n 0, 1) := by decide +kernel
theorem dX2_firstNod_9 : decode cX2_firstNod 9 = .ok (.invokevirtual 138, 3) := by decide +kernel
theorem dX2_firstNod_12 : decode cX2_firstNod 12 = .ok (.iload_n 1, 1) := by decide +kernel
theorem dX2_firstNod_13 : decode cX2_firstNod 13 = .ok (.ishr, 1) := by decide +kernel
theorem dX2_firstNod_14 : decode cX2_firstNod 14 = .ok (.iconst 1, 1) := by decide +kernel
theorem dX2_firstNod_15 : decode cX2_firstNod 15 = .ok (.iand, 1) := by decide +kernel
theorem dX2_firstNod_16 : decode cX2_firstNod 16 = .ok (.iconst 1, 1) := by decide +kernel
theorem dX2_firstNod_17 : decode cX2_firstNod 17 = .ok (.if_icmp .ne 5, 3) := by decide +kernel
theorem dX2_firstNod_20 : decode cX2_firstNod 20 = .ok (.iload_n 2, 1) := by decide +kernel
theorem dX2_firstNod_21 : decode cX2_firstNod 21 = .ok (.ireturn, 1) := by decide +kernel
theorem dX2_firstNod_22 : decode cX2_firstNod 22 = .ok (.iinc 2 1, 3) := by decide +kernel
theorem dX2_firstNod_25 : decode cX2_firstNod 25 = .ok (.goto (-23), 3) := by decide +kernel
theorem dX2_firstNod_28 : decode cX2_firstNod 28 = .ok (.iconst (-1), 1) := by decide +kernel
theorem dX2_firstNod_29 : decode cX2_firstNod 29 = .ok (.ireturn, 1) := by decide +kernel
theorem dX2_gather_0 : decode cX2_gather 0 = .ok (.iconst 0, 1) := by decide +kernel
theorem dX2_gather_1 : decode cX2_gather 1 = .ok (.istore_n 2, 1) := by decide +kernel
theorem dX2_gather_2 : decode cX2_gather 2 = .ok (.aload_n 0, 1) := by decide +kernel
theorem dX2_gather_3 : decode cX2_gather 3 = .ok (.getfield 31, 3) := by decide +kernel
theorem dX2_gather_6 : decode cX2_gather 6 = .ok (.invokevirtual 141, 3) := by decide +kernel
theorem dX2_gather_9 : decode cX2_gather 9 = .ok (.aload_n 0, 1) := by decide +kernel
theorem dX2_gather_10 : decode cX2_gather 10 = .ok (.getfield 12, 3) := by decide +kernel
theorem dX2_gather_13 : decode cX2_gather 13 = .ok (.getfield 107, 3) := by decide +kernel
theorem dX2_gather_16 : decode cX2_gather 16 = .ok (.iconst (-1), 1) := by decide +kernel
theorem dX2_gather_17 : decode cX2_gather 17 = .ok (.ixor, 1) := by decide +kernel
theorem dX2_gather_18 : decode cX2_gather 18 = .ok (.iand, 1) := by decide +kernel
theorem dX2_gather_19 : decode cX2_gather 19 = .ok (.istore_n 3, 1) := by decide +kernel
theorem dX2_gather_20 : decode cX2_gather 20 = .ok (.iconst 0, 1) := by decide +kernel
theorem dX2_gather_21 : decode cX2_gather 21 = .ok (.istore 4, 2) := by decide +kernel
theorem dX2_gather_23 : decode cX2_gather 23 = .ok (.iload 4, 2) := by decide +kernel
theorem dX2_gather_25 : decode cX2_gather 25 = .ok (.iload_n 1, 1) := by decide +kernel
theorem dX2_gather_26 : decode cX2_gather 26 = .ok (.if_icmp .ge 31, 3) := by decide +kernel
theorem dX2_gather_29 : decode cX2_gather 29 = .ok (.iload_n 2, 1) := by decide +kernel
theorem dX2_gather_30 : decode cX2_gather 30 = .ok (.iload_n 3, 1) := by decide +kernel
theorem dX2_gather_31 : decode cX2_gather 31 = .ok (.if_icmp .eq 26, 3) := by decide +kernel
theorem dX2_gather_34 : decode cX2_gather 34 = .ok (.aload_n 0, 1) := by decide +kernel
theorem dX2_gather_35 : decode cX2_gather 35 = .ok (.getfield 12, 3) := by decide +kernel
theorem dX2_gather_38 : decode cX2_gather 38 = .ok (.invokevirtual 144, 3) := by decide +kernel
theorem dX2_gather_41 : decode cX2_gather 41 = .ok (.ifCond .eq 16, 3) := by decide +kernel
theorem dX2_gather_44 : decode cX2_gather 44 = .ok (.iload_n 2, 1) := by decide +kernel
theorem dX2_gather_45 : decode cX2_gather 45 = .ok (.aload_n 0, 1) := by decide +kernel
theorem dX2_gather_46 : decode cX2_gather 46 = .ok (.invokevirtual 138, 3) := by decide +kernel
theorem dX2_gather_49 : decode cX2_gather 49 = .ok (.ior, 1) := by decide +kernel
theorem dX2_gather_50 : decode cX2_gather 50 = .ok (.istore_n 2, 1) := by decide +kernel
theorem dX2_gather_51 : decode cX2_gather 51 = .ok (.iinc 4 1, 3) := by decide +kernel
theorem dX2_gather_54 : decode cX2_gather 54 = .ok (.goto (-31), 3) := by decide +kernel
theorem dX2_gather_57 : decode cX2_gather 57 = .ok (.iload_n 2, 1) := by decide +kernel
theorem dX2_gather_58 : decode cX2_gather 58 = .ok (.ireturn, 1) := by decide +kernel
theorem dX2_draw_0 : decode cX2_draw 0 = .ok (.aload_n 0, 1) := by decide +kernel
theorem dX2_draw_1 : decode cX2_draw 1 = .ok (.aload_n 0, 1) := by decide +kernel
theorem dX2_draw_2 : decode cX2_draw 2 = .ok (.getfield 22, 3) := by decide +kernel
theorem dX2_draw_5 : decode cX2_draw 5 = .ok (.ldc 147, 2) := by decide +kernel
theorem dX2_draw_7 : decode cX2_draw 7 = .ok (.imul, 1) := by decide +kernel
theorem dX2_draw_8 : decode cX2_draw 8 = .ok (.sipush 12345, 3) := by decide +kernel
theorem dX2_draw_11 : decode cX2_draw 11 = .ok (.iadd, 1) := by decide +kernel
theorem dX2_draw_12 : decode cX2_draw 12 = .ok (.putfield 22, 3) := by decide +kernel
theorem dX2_draw_15 : decode cX2_draw 15 = .ok (.iload_n 1, 1) := by decide +kernel
theorem dX2_draw_16 : decode cX2_draw 16 = .ok (.iconst 1, 1) := by decide +kernel
theorem dX2_draw_17 : decode cX2_draw 17 = .ok (.if_icmp .ge 7, 3) := by decide +kernel
theorem dX2_draw_20 : decode cX2_draw 20 = .ok (.iconst 0, 1) := by decide +kernel
theorem dX2_draw_21 : decode cX2_draw 21 = .ok (.goto 16, 3) := by decide +kernel
theorem dX2_draw_24 : decode cX2_draw 24 = .ok (.aload_n 0, 1) := by decide +kernel
theorem dX2_draw_25 : decode cX2_draw 25 = .ok (.getfield 22, 3) := by decide +kernel
theorem dX2_draw_28 : decode cX2_draw 28 = .ok (.bipush 16, 2) := by decide +kernel
theorem dX2_draw_30 : decode cX2_draw 30 = .ok (.iushr, 1) := by decide +kernel
theorem dX2_draw_31 : decode cX2_draw 31 = .ok (.sipush 32767, 3) := by decide +kernel
theorem dX2_draw_34 : decode cX2_draw 34 = .ok (.iand, 1) := by decide +kernel
theorem dX2_draw_35 : decode cX2_draw 35 = .ok (.iload_n 1, 1) := by decide +kernel
theorem dX2_draw_36 : decode cX2_draw 36 = .ok (.irem, 1) := by decide +kernel
theorem dX2_draw_37 : decode cX2_draw 37 = .ok (.ireturn, 1) := by decide +kernel
theorem dX4_init_0 : decode cX4_init 0 = .ok (.aload_n 0, 1) := by decide +kernel
theorem dX4_init_1 : decode cX4_init 1 = .ok (.invokespecial 3, 3) := by decide +kernel
theorem dX4_init_4 : decode cX4_init 4 = .ok (.aload_n 0, 1) := by decide +kernel
theorem dX4_init_5 : decode cX4_init 5 = .ok (.iconst 0, 1) := by decide +kernel
theorem dX4_init_6 : decode cX4_init 6 = .ok (.putfield 9, 3) := by decide +kernel
theorem dX4_init_9 : decode cX4_init 9 = .ok (.aload_n 0, 1) := by decide +kernel
theorem dX4_init_10 : decode cX4_init 10 = .ok (.sipush 700, 3) := by decide +kernel
theorem dX4_init_13 : decode cX4_init 13 = .ok (.newarray .int, 2) := by decide +kernel
theorem dX4_init_15 : decode cX4_init 15 = .ok (.putfield 15, 3) := by decide +kernel
theorem dX4_init_18 : decode cX4_init 18 = .ok (.aload_n 0, 1) := by decide +kernel
theorem dX4_init_19 : decode cX4_init 19 = .ok (.bipush 31, 2) := by decide +kernel
theorem dX4_init_21 : decode cX4_init 21 = .ok (.newarray .int, 2) := by decide +kernel
theorem dX4_init_23 : decode cX4_init 23 = .ok (.putfield 19, 3) := by decide +kernel
theorem dX4_init_26 : decode cX4_init 26 = .ok (.return_, 1) := by decide +kernel
theorem dX4_copy_0 : decode cX4_copy 0 = .ok (.aload_n 0, 1) := by decide +kernel
theorem dX4_copy_1 : decode cX4_copy 1 = .ok (.aload_n 1, 1) := by decide +kernel
theorem dX4_copy_2 : decode cX4_copy 2 = .ok (.getfield 9, 3) := by decide +kernel
theorem dX4_copy_5 : decode cX4_copy 5 = .ok (.putfield 9, 3) := by decide +kernel
theorem dX4_copy_8 : decode cX4_copy 8 = .ok (.aload_n 1, 1) := by decide +kernel
theorem dX4_copy_9 : decode cX4_copy 9 = .ok (.getfield 15, 3) := by decide +kernel
theorem dX4_copy_12 : decode cX4_copy 12 = .ok (.iconst 0, 1) := by decide +kernel
theorem dX4_copy_13 : decode cX4_copy 13 = .ok (.aload_n 0, 1) := by decide +kernel
theorem dX4_copy_14 : decode cX4_copy 14 = .ok (.getfield 15, 3) := by decide +kernel
theorem dX4_copy_17 : decode cX4_copy 17 = .ok (.iconst 0, 1) := by decide +kernel
theorem dX4_copy_18 : decode cX4_copy 18 = .ok (.sipush 700, 3) := by decide +kernel
theorem dX4_copy_21 : decode cX4_copy 21 = .ok (.invokestatic 22, 3) := by decide +kernel
theorem dX4_copy_24 : decode cX4_copy 24 = .ok (.return_, 1) := by decide +kernel
theorem dX4_add_0 : decode cX4_add 0 = .ok (.aload_n 0, 1) := by decide +kernel
theorem dX4_add_1 : decode cX4_add 1 = .ok (.getfield 9, 3) := by decide +kernel
theorem dX4_add_4 : decode cX4_add 4 = .ok (.aload_n 0, 1) := by decide +kernel
theorem dX4_add_5 : decode cX4_add 5 = .ok (.getfield 15, 3) := by decide +kernel
theorem dX4_add_8 : decode cX4_add 8 = .ok (.arraylength, 1) := by decide +kernel
theorem dX4_add_9 : decode cX4_add 9 = .ok (.if_icmp .ge 23, 3) := by decide +kernel
theorem dX4_add_12 : decode cX4_add 12 = .ok (.aload_n 0, 1) := by decide +kernel
theorem dX4_add_13 : decode cX4_add 13 = .ok (.getfield 15, 3) := by decide +kernel
theorem dX4_add_16 : decode cX4_add 16 = .ok (.aload_n 0, 1) := by decide +kernel
theorem dX4_add_17 : decode cX4_add 17 = .ok (.getfield 9, 3) := by decide +kernel
theorem dX4_add_20 : decode cX4_add 20 = .ok (.iload_n 1, 1) := by decide +kernel
theorem dX4_add_21 : decode cX4_add 21 = .ok (.iastore, 1) := by decide +kernel
theorem dX4_add_22 : decode cX4_add 22 = .ok (.aload_n 0, 1) := by decide +kernel
theorem dX4_add_23 : decode cX4_add 23 = .ok (.dup, 1) := by decide +kernel
theorem dX4_add_24 : decode cX4_add 24 = .ok (.getfield 9, 3) := by decide +kernel
theorem dX4_add_27 : decode cX4_add 27 = .ok (.iconst 1, 1) := by decide +kernel
theorem dX4_add_28 : decode cX4_add 28 = .ok (.iadd, 1) := by decide +kernel
theorem dX4_add_29 : decode cX4_add 29 = .ok (.putfield 9, 3) := by decide +kernel
theorem dX4_add_32 : decode cX4_add 32 = .ok (.return_, 1) := by decide +kernel
theorem dX4_answer_0 : decode cX4_answer 0 = .ok (.iconst 0, 1) := by decide +kernel
theorem dX4_answer_1 : decode cX4_answer 1 = .ok (.istore_n 2, 1) := by decide +kernel
theorem dX4_answer_2 : decode cX4_answer 2 = .ok (.iconst 0, 1) := by decide +kernel
theorem dX4_answer_3 : decode cX4_answer 3 = .ok (.istore_n 3, 1) := by decide +kernel
theorem dX4_answer_4 : decode cX4_answer 4 = .ok (.iload_n 3, 1) := by decide +kernel
theorem dX4_answer_5 : decode cX4_answer 5 = .ok (.aload_n 0, 1) := by decide +kernel
theorem dX4_answer_6 : decode cX4_answer 6 = .ok (.getfield 9, 3) := by decide +kernel
theorem dX4_answer_9 : decode cX4_answer 9 = .ok (.if_icmp .ge 131, 3) := by decide +kernel
theorem dX4_answer_12 : decode cX4_answer 12 = .ok (.aload_n 0, 1) := by decide +kernel
theorem dX4_answer_13 : decode cX4_answer 13 = .ok (.getfield 15, 3) := by decide +kernel
theorem dX4_answer_16 : decode cX4_answer 16 = .ok (.iload_n 3, 1) := by decide +kernel
theorem dX4_answer_17 : decode cX4_answer 17 = .ok (.iaload, 1) := by decide +kernel
theorem dX4_answer_18 : decode cX4_answer 18 = .ok (.istore 4, 2) := by decide +kernel
theorem dX4_answer_20 : decode cX4_answer 20 = .ok (.iload 4, 2) := by decide +kernel
theorem dX4_answer_22 : decode cX4_answer 22 = .ok (.bipush (-6), 2) := by decide +kernel
theorem dX4_answer_24 : decode cX4_answer 24 = .ok (.if_icmp .lt 37, 3) := by decide +kernel
theorem dX4_answer_27 : decode cX4_answer 27 = .ok (.iload_n 2, 1) := by decide +kernel
theorem dX4_answer_28 : decode cX4_answer 28 = .ok (.bipush 31, 2) := by decide +kernel
theorem dX4_answer_30 : decode cX4_answer 30 = .ok (.if_icmp .ge 104, 3) := by decide +kernel
theorem dX4_answer_33 : decode cX4_answer 33 = .ok (.aload_n 0, 1) := by decide +kernel
theorem dX4_answer_34 : decode cX4_answer 34 = .ok (.getfield 19, 3) := by decide +kernel
theorem dX4_answer_37 : decode cX4_answer 37 = .ok (.iload_n 2, 1) := by decide +kernel
theorem dX4_answer_38 : decode cX4_answer 38 = .ok (.iload 4, 2) := by decide +kernel
theorem dX4_answer_40 : decode cX4_answer 40 = .ok (.ifCond .lt 8, 3) := by decide +kernel
theorem dX4_answer_43 : decode cX4_answer 43 = .ok (.iload 4, 2) := by decide +kernel
theorem dX4_answer_45 : decode cX4_answer 45 = .ok (.goto 9, 3) := by decide +kernel
theorem dX4_answer_48 : decode cX4_answer 48 = .ok (.aload_n 1, 1) := by decide +kernel
theorem dX4_answer_49 : decode cX4_answer 49 = .ok (.iconst (-1), 1) := by decide +kernel
theorem dX4_answer_50 : decode cX4_answer 50 = .ok (.iload 4, 2) := by decide +kernel
theorem dX4_answer_52 : decode cX4_answer 52 = .ok (.isub, 1) := by decide +kernel
theorem dX4_answer_53 : decode cX4_answer 53 = .ok (.iaload, 1) := by decide +kernel
theorem dX4_answer_54 : decode cX4_answer 54 = .ok (.iastore, 1) := by decide +kernel
theorem dX4_answer_55 : decode cX4_answer 55 = .ok (.iinc 2 1, 3) := by decide +kernel
theorem dX4_answer_58 : decode cX4_answer 58 = .ok (.goto 76, 3) := by decide +kernel
theorem dX4_answer_61 : decode cX4_answer 61 = .ok (.iload 4, 2) := by decide +kernel
theorem dX4_answer_63 : decode cX4_answer 63 = .ok (.bipush (-7), 2) := by decide +kernel
theorem dX4_answer_65 : decode cX4_answer 65 = .ok (.if_icmp .ne 34, 3) := by decide +kernel
theorem dX4_answer_68 : decode cX4_answer 68 = .ok (.iload_n 2, 1) := by decide +kernel
theorem dX4_answer_69 : decode cX4_answer 69 = .ok (.ifCond .le 65, 3) := by decide +kernel
theorem dX4_answer_72 : decode cX4_answer 72 = .ok (.aload_n 0, 1) := by decide +kernel
theorem dX4_answer_73 : decode cX4_answer 73 = .ok (.getfield 19, 3) := by decide +kernel
theorem dX4_answer_76 : decode cX4_answer 76 = .ok (.iload_n 2, 1) := by decide +kernel
theorem dX4_answer_77 : decode cX4_answer 77 = .ok (.iconst 1, 1) := by decide +kernel
theorem dX4_answer_78 : decode cX4_answer 78 = .ok (.isub, 1) := by decide +kernel
theorem dX4_answer_79 : decode cX4_answer 79 = .ok (.aload_n 0, 1) := by decide +kernel
theorem dX4_answer_80 : decode cX4_answer 80 = .ok (.getfield 19, 3) := by decide +kernel
theorem dX4_answer_83 : decode cX4_answer 83 = .ok (.iload_n 2, 1) := by decide +kernel
theorem dX4_answer_84 : decode cX4_answer 84 = .ok (.iconst 1, 1) := by decide +kernel
theorem dX4_answer_85 : decode cX4_answer 85 = .ok (.isub, 1) := by decide +kernel
theorem dX4_answer_86 : decode cX4_answer 86 = .ok (.iaload, 1) := by decide +kernel
theorem dX4_answer_87 : decode cX4_answer 87 = .ok (.ifCond .ne 7, 3) := by decide +kernel
theorem dX4_answer_90 : decode cX4_answer 90 = .ok (.iconst 1, 1) := by decide +kernel
theorem dX4_answer_91 : decode cX4_answer 91 = .ok (.goto 4, 3) := by decide +kernel
theorem dX4_answer_94 : decode cX4_answer 94 = .ok (.iconst 0, 1) := by decide +kernel
theorem dX4_answer_95 : decode cX4_answer 95 = .ok (.iastore, 1) := by decide +kernel
theorem dX4_answer_96 : decode cX4_answer 96 = .ok (.goto 38, 3) := by decide +kernel
theorem dX4_answer_99 : decode cX4_answer 99 = .ok (.iload_n 2, 1) := by decide +kernel
theorem dX4_answer_100 : decode cX4_answer 100 = .ok (.iconst 1, 1) := by decide +kernel
theorem dX4_answer_101 : decode cX4_answer 101 = .ok (.if_icmp .le 33, 3) := by decide +kernel
theorem dX4_answer_104 : decode cX4_answer 104 = .ok (.iinc 2 (-1), 3) := by decide +kernel
theorem dX4_answer_107 : decode cX4_answer 107 = .ok (.aload_n 0, 1) := by decide +kernel
theorem dX4_answer_108 : decode cX4_answer 108 = .ok (.getfield 19, 3) := by decide +kernel
theorem dX4_answer_111 : decode cX4_answer 111 = .ok (.iload_n 2, 1) := by decide +kernel
theorem dX4_answer_112 : decode cX4_answer 112 = .ok (.iconst 1, 1) := by decide +kernel
theorem dX4_answer_113 : decode cX4_answer 113 = .ok (.isub, 1) := by decide +kernel
theorem dX4_answer_114 : decode cX4_answer 114 = .ok (.iload 4, 2) := by decide +kernel
theorem dX4_answer_116 : decode cX4_answer 116 = .ok (.aload_n 0, 1) := by decide +kernel
theorem dX4_answer_117 : decode cX4_answer 117 = .ok (.getfield 19, 3) := by decide +kernel
theorem dX4_answer_120 : decode cX4_answer 120 = .ok (.iload_n 2, 1) := by decide +kernel
theorem dX4_answer_121 : decode cX4_answer 121 = .ok (.iconst 1, 1) := by decide +kernel
theorem dX4_answer_122 : decode cX4_answer 122 = .ok (.isub, 1) := by decide +kernel
theorem dX4_answer_123 : decode cX4_answer 123 = .ok (.iaload, 1) := by decide +kernel
theorem dX4_answer_124 : decode cX4_answer 124 = .ok (.aload_n 0, 1) := by decide +kernel
theorem dX4_answer_125 : decode cX4_answer 125 = .ok (.getfield 19, 3) := by decide +kernel
theorem dX4_answer_128 : decode cX4_answer 128 = .ok (.iload_n 2, 1) := by decide +kernel
theorem dX4_answer_129 : decode cX4_answer 129 = .ok (.iaload, 1) := by decide +kernel
theorem dX4_answer_130 : decode cX4_answer 130 = .ok (.invokestatic 28, 3) := by decide +kernel
theorem dX4_answer_133 : decode cX4_answer 133 = .ok (.iastore, 1) := by decide +kernel
theorem dX4_answer_134 : decode cX4_answer 134 = .ok (.iinc 3 1, 3) := by decide +kernel
theorem dX4_answer_137 : decode cX4_answer 137 = .ok (.goto (-133), 3) := by decide +kernel
theorem dX4_answer_140 : decode cX4_answer 140 = .ok (.aload_n 0, 1) := by decide +kernel
theorem dX4_answer_141 : decode cX4_answer 141 = .ok (.getfield 19, 3) := by decide +kernel
theorem dX4_answer_144 : decode cX4_answer 144 = .ok (.iconst 0, 1) := by decide +kernel
theorem dX4_answer_145 : decode cX4_answer 145 = .ok (.iaload, 1) := by decide +kernel
theorem dX4_answer_146 : decode cX4_answer 146 = .ok (.ireturn, 1) := by decide +kernel
theorem dX4_joined_0 : decode cX4_joined 0 = .ok (.iload_n 0, 1) := by decide +kernel
theorem dX4_joined_1 : decode cX4_joined 1 = .ok (.tableswitch 105 (-14) (-8) #[101, 97, 93, 82, 71, 57, 43], 43) := by decide +kernel
theorem dX4_joined_44 : decode cX4_joined 44 = .ok (.iload_n 1, 1) := by decide +kernel
theorem dX4_joined_45 : decode cX4_joined 45 = .ok (.ifCond .ne 7, 3) := by decide +kernel
theorem dX4_joined_48 : decode cX4_joined 48 = .ok (.iload_n 2, 1) := by decide +kernel
theorem dX4_joined_49 : decode cX4_joined 49 = .ok (.ifCond .eq 7, 3) := by decide +kernel
theorem dX4_joined_52 : decode cX4_joined 52 = .ok (.iconst 1, 1) := by decide +kernel
theorem dX4_joined_53 : decode cX4_joined 53 = .ok (.goto 4, 3) := by decide +kernel
theorem dX4_joined_56 : decode cX4_joined 56 = .ok (.iconst 0, 1) := by decide +kernel
theorem dX4_joined_57 : decode cX4_joined 57 = .ok (.ireturn, 1) := by decide +kernel
theorem dX4_joined_58 : decode cX4_joined 58 = .ok (.iload_n 1, 1) := by decide +kernel
theorem dX4_joined_59 : decode cX4_joined 59 = .ok (.ifCond .eq 11, 3) := by decide +kernel
theorem dX4_joined_62 : decode cX4_joined 62 = .ok (.iload_n 2, 1) := by decide +kernel
theorem dX4_joined_63 : decode cX4_joined 63 = .ok (.ifCond .eq 7, 3) := by decide +kernel
theorem dX4_joined_66 : decode cX4_joined 66 = .ok (.iconst 1, 1) := by decide +kernel
theorem dX4_joined_67 : decode cX4_joined 67 = .ok (.goto 4, 3) := by decide +kernel
theorem dX4_joined_70 : decode cX4_joined 70 = .ok (.iconst 0, 1) := by decide +kernel
theorem dX4_joined_71 : decode cX4_joined 71 = .ok (.ireturn, 1) := by decide +kernel
theorem dX4_joined_72 : decode cX4_joined 72 = .ok (.iload_n 1, 1) := by decide +kernel
theorem dX4_joined_73 : decode cX4_joined 73 = .ok (.iload_n 2, 1) := by decide +kernel
theorem dX4_joined_74 : decode cX4_joined 74 = .ok (.if_icmp .ge 7, 3) := by decide +kernel
theorem dX4_joined_77 : decode cX4_joined 77 = .ok (.iconst 1, 1) := by decide +kernel
theorem dX4_joined_78 : decode cX4_joined 78 = .ok (.goto 4, 3) := by decide +kernel
theorem dX4_joined_81 : decode cX4_joined 81 = .ok (.iconst 0, 1) := by decide +kernel
theorem dX4_joined_82 : decode cX4_joined 82 = .ok (.ireturn, 1) := by decide +kernel
theorem dX4_joined_83 : decode cX4_joined 83 = .ok (.iload_n 1, 1) := by decide +kernel
theorem dX4_joined_84 : decode cX4_joined 84 = .ok (.iload_n 2, 1) := by decide +kernel
theorem dX4_joined_85 : decode cX4_joined 85 = .ok (.if_icmp .ne 7, 3) := by decide +kernel
theorem dX4_joined_88 : decode cX4_joined 88 = .ok (.iconst 1, 1) := by decide +kernel
theorem dX4_joined_89 : decode cX4_joined 89 = .ok (.goto 4, 3) := by decide +kernel
theorem dX4_joined_92 : decode cX4_joined 92 = .ok (.iconst 0, 1) := by decide +kernel
theorem dX4_joined_93 : decode cX4_joined 93 = .ok (.ireturn, 1) := by decide +kernel
theorem dX4_joined_94 : decode cX4_joined 94 = .ok (.iload_n 1, 1) := by decide +kernel
theorem dX4_joined_95 : decode cX4_joined 95 = .ok (.iload_n 2, 1) := by decide +kernel
theorem dX4_joined_96 : decode cX4_joined 96 = .ok (.iadd, 1) := by decide +kernel
theorem dX4_joined_97 : decode cX4_joined 97 = .ok (.ireturn, 1) := by decide +kernel
theorem dX4_joined_98 : decode cX4_joined 98 = .ok (.iload_n 1, 1) := by decide +kernel
theorem dX4_joined_99 : decode cX4_joined 99 = .ok (.iload_n 2, 1) := by decide +kernel
theorem dX4_joined_100 : decode cX4_joined 100 = .ok (.isub, 1) := by decide +kernel
theorem dX4_joined_101 : decode cX4_joined 101 = .ok (.ireturn, 1) := by decide +kernel
theorem dX4_joined_102 : decode cX4_joined 102 = .ok (.iload_n 1, 1) := by decide +kernel
theorem dX4_joined_103 : decode cX4_joined 103 = .ok (.iload_n 2, 1) := by decide +kernel
theorem dX4_joined_104 : decode cX4_joined 104 = .ok (.imul, 1) := by decide +kernel
theorem dX4_joined_105 : decode cX4_joined 105 = .ok (.ireturn, 1) := by decide +kernel
theorem dX4_joined_106 : decode cX4_joined 106 = .ok (.iload_n 2, 1) := by decide +kernel
theorem dX4_joined_107 : decode cX4_joined 107 = .ok (.ifCond .ne 7, 3) := by decide +kernel
theorem dX4_joined_110 : decode cX4_joined 110 = .ok (.iconst 0, 1) := by decide +kernel
theorem dX4_joined_111 : decode cX4_joined 111 = .ok (.goto 6, 3) := by decide +kernel
theorem dX4_joined_114 : decode cX4_joined 114 = .ok (.iload_n 1, 1) := by decide +kernel
theorem dX4_joined_115 : decode cX4_joined 115 = .ok (.iload_n 2, 1) := by decide +kernel
theorem dX4_joined_116 : decode cX4_joined 116 = .ok (.idiv, 1) := by decide +kernel
theorem dX4_joined_117 : decode cX4_joined 117 = .ok (.ireturn, 1) := by decide +kernel
theorem dX5_init_0 : decode cX5_init 0 = .ok (.aload_n 0, 1) := by decide +kernel
theorem dX5_init_1 : decode cX5_init 1 = .ok (.invokespecial 3, 3) := by decide +kernel
theorem dX5_init_4 : decode cX5_init 4 = .ok (.aload_n 0, 1) := by decide +kernel
theorem dX5_init_5 : decode cX5_init 5 = .ok (.iconst 0, 1) := by decide +kernel
theorem dX5_init_6 : decode cX5_init 6 = .ok (.putfield 9, 3) := by decide +kernel
theorem dX5_init_9 : decode cX5_init 9 = .ok (.aload_n 0, 1) := by decide +kernel
theorem dX5_init_10 : decode cX5_init 10 = .ok (.bipush 8, 2) := by decide +kernel
theorem dX5_init_12 : decode cX5_init 12 = .ok (.newarray .int, 2) := by decide +kernel
theorem dX5_init_14 : decode cX5_init 14 = .ok (.putfield 15, 3) := by decide +kernel
theorem dX5_init_17 : decode cX5_init 17 = .ok (.aload_n 0, 1) := by decide +kernel
theorem dX5_init_18 : decode cX5_init 18 = .ok (.bipush 8, 2) := by decide +kernel
theorem dX5_init_20 : decode cX5_init 20 = .ok (.newarray .int, 2) := by decide +kernel
theorem dX5_init_22 : decode cX5_init 22 = .ok (.putfield 19, 3) := by decide +kernel
theorem dX5_init_25 : decode cX5_init 25 = .ok (.aload_n 0, 1) := by decide +kernel
theorem dX5_init_26 : decode cX5_init 26 = .ok (.bipush 8, 2) := by decide +kernel
theorem dX5_init_28 : decode cX5_init 28 = .ok (.newarray .int, 2) := by decide +kernel
theorem dX5_init_30 : decode cX5_init 30 = .ok (.putfield 22, 3) := by decide +kernel
theorem dX5_init_33 : decode cX5_init 33 = .ok (.return_, 1) := by decide +kernel
theorem dX5_clear_0 : decode cX5_clear 0 = .ok (.aload_n 0, 1) := by decide +kernel
theorem dX5_clear_1 : decode cX5_clear 1 = .ok (.iconst 0, 1) := by decide +kernel
theorem dX5_clear_2 : decode cX5_clear 2 = .ok (.putfield 9, 3) := by decide +kernel
theorem dX5_clear_5 : decode cX5_clear 5 = .ok (.return_, 1) := by decide +kernel
theorem dX5_copy_0 : decode cX5_copy 0 = .ok (.aload_n 0, 1) := by decide +kernel
theorem dX5_copy_1 : decode cX5_copy 1 = .ok (.aload_n 1, 1) := by decide +kernel
theorem dX5_copy_2 : decode cX5_copy 2 = .ok (.getfield 9, 3) := by decide +kernel
theorem dX5_copy_5 : decode cX5_copy 5 = .ok (.putfield 9, 3) := by decide +kernel
theorem dX5_copy_8 : decode cX5_copy 8 = .ok (.aload_n 1, 1) := by decide +kernel
theorem dX5_copy_9 : decode cX5_copy 9 = .ok (.getfield 15, 3) := by decide +kernel
theorem dX5_copy_12 : decode cX5_copy 12 = .ok (.iconst 0, 1) := by decide +kernel
theorem dX5_copy_13 : decode cX5_copy 13 = .ok (.aload_n 0, 1) := by decide +kernel
theorem dX5_copy_14 : decode cX5_copy 14 = .ok (.getfield 15, 3) := by decide +kernel
theorem dX5_copy_17 : decode cX5_copy 17 = .ok (.iconst 0, 1) := by decide +kernel
theorem dX5_copy_18 : decode cX5_copy 18 = .ok (.bipush 8, 2) := by decide +kernel
theorem dX5_copy_20 : decode cX5_copy 20 = .ok (.invokestatic 25, 3) := by decide +kernel
theorem dX5_copy_23 : decode cX5_copy 23 = .ok (.aload_n 1, 1) := by decide +kernel
theorem dX5_copy_24 : decode cX5_copy 24 = .ok (.getfield 19, 3) := by decide +kernel
theorem dX5_copy_27 : decode cX5_copy 27 = .ok (.iconst 0, 1) := by decide +kernel
theorem dX5_copy_28 : decode cX5_copy 28 = .ok (.aload_n 0, 1) := by decide +kernel
theorem dX5_copy_29 : decode cX5_copy 29 = .ok (.getfield 19, 3) := by decide +kernel
theorem dX5_copy_32 : decode cX5_copy 32 = .ok (.iconst 0, 1) := by decide +kernel
theorem dX5_copy_33 : decode cX5_copy 33 = .ok (.bipush 8, 2) := by decide +kernel
theorem dX5_copy_35 : decode cX5_copy 35 = .ok (.invokestatic 25, 3) := by decide +kernel
theorem dX5_copy_38 : decode cX5_copy 38 = .ok (.aload_n 1, 1) := by decide +kernel
theorem dX5_copy_39 : decode cX5_copy 39 = .ok (.getfield 22, 3) := by decide +kernel
theorem dX5_copy_42 : decode cX5_copy 42 = .ok (.iconst 0, 1) := by decide +kernel
theorem dX5_copy_43 : decode cX5_copy 43 = .ok (.aload_n 0, 1) := by decide +kernel
theorem dX5_copy_44 : decode cX5_copy 44 = .ok (.getfield 22, 3) := by decide +kernel
theorem dX5_copy_47 : decode cX5_copy 47 = .ok (.iconst 0, 1) := by decide +kernel
theorem dX5_copy_48 : decode cX5_copy 48 = .ok (.bipush 8, 2) := by decide +kernel
theorem dX5_copy_50 : decode cX5_copy 50 = .ok (.invokestatic 25, 3) := by decide +kernel
theorem dX5_copy_53 : decode cX5_copy 53 = .ok (.return_, 1) := by decide +kernel
theorem dX5_add_0 : decode cX5_add 0 = .ok (.aload_n 0, 1) := by decide +kernel
theorem dX5_add_1 : decode cX5_add 1 = .ok (.getfield 9, 3) := by decide +kernel
theorem dX5_add_4 : decode cX5_add 4 = .ok (.bipush 8, 2) := by decide +kernel
theorem dX5_add_6 : decode cX5_add 6 = .ok (.if_icmp .ge 51, 3) := by decide +kernel
theorem dX5_add_9 : decode cX5_add 9 = .ok (.aload_n 0, 1) := by decide +kernel
theorem dX5_add_10 : decode cX5_add 10 = .ok (.getfield 15, 3) := by decide +kernel
theorem dX5_add_13 : decode cX5_add 13 = .ok (.aload_n 0, 1) := by decide +kernel
theorem dX5_add_14 : decode cX5_add 14 = .ok (.getfield 9, 3) := by decide +kernel
theorem dX5_add_17 : decode cX5_add 17 = .ok (.iload_n 1, 1) := by decide +kernel
theorem dX5_add_18 : decode cX5_add 18 = .ok (.iastore, 1) := by decide +kernel
theorem dX5_add_19 : decode cX5_add 19 = .ok (.aload_n 0, 1) := by decide +kernel
theorem dX5_add_20 : decode cX5_add 20 = .ok (.getfield 19, 3) := by decide +kernel
theorem dX5_add_23 : decode cX5_add 23 = .ok (.aload_n 0, 1) := by decide +kernel
theorem dX5_add_24 : decode cX5_add 24 = .ok (.getfield 9, 3) := by decide +kernel
theorem dX5_add_27 : decode cX5_add 27 = .ok (.iload_n 2, 1) := by decide +kernel
theorem dX5_add_28 : decode cX5_add 28 = .ok (.iastore, 1) := by decide +kernel
theorem dX5_add_29 : decode cX5_add 29 = .ok (.aload_n 0, 1) := by decide +kernel
theorem dX5_add_30 : decode cX5_add 30 = .ok (.getfield 22, 3) := by decide +kernel
theorem dX5_add_33 : decode cX5_add 33 = .ok (.aload_n 0, 1) := by decide +kernel
theorem dX5_add_34 : decode cX5_add 34 = .ok (.getfield 9, 3) := by decide +kernel
theorem dX5_add_37 : decode cX5_add 37 = .ok (.iload_n 3, 1) := by decide +kernel
theorem dX5_add_38 : decode cX5_add 38 = .ok (.ifCond .eq 7, 3) := by decide +kernel
theorem dX5_add_41 : decode cX5_add 41 = .ok (.iconst 1, 1) := by decide +kernel
theorem dX5_add_42 : decode cX5_add 42 = .ok (.goto 4, 3) := by decide +kernel
theorem dX5_add_45 : decode cX5_add 45 = .ok (.iconst 0, 1) := by decide +kernel
theorem dX5_add_46 : decode cX5_add 46 = .ok (.iastore, 1) := by decide +kernel
theorem dX5_add_47 : decode cX5_add 47 = .ok (.aload_n 0, 1) := by decide +kernel
theorem dX5_add_48 : decode cX5_add 48 = .ok (.dup, 1) := by decide +kernel
theorem dX5_add_49 : decode cX5_add 49 = .ok (.getfield 9, 3) := by decide +kernel
theorem dX5_add_52 : decode cX5_add 52 = .ok (.iconst 1, 1) := by decide +kernel
theorem dX5_add_53 : decode cX5_add 53 = .ok (.iadd, 1) := by decide +kernel
theorem dX5_add_54 : decode cX5_add 54 = .ok (.putfield 9, 3) := by decide +kernel
theorem dX5_add_57 : decode cX5_add 57 = .ok (.return_, 1) := by decide +kernel
theorem dX5_agrees_0 : decode cX5_agrees 0 = .ok (.iconst 0, 1) := by decide +kernel
theorem dX5_agrees_1 : decode cX5_agrees 1 = .ok (.istore_n 3, 1) := by decide +kernel
theorem dX5_agrees_2 : decode cX5_agrees 2 = .ok (.iload_n 3, 1) := by decide +kernel
theorem dX5_agrees_3 : decode cX5_agrees 3 = .ok (.aload_n 0, 1) := by decide +kernel
theorem dX5_agrees_4 : decode cX5_agrees 4 = .ok (.getfield 9, 3) := by decide +kernel
theorem dX5_agrees_7 : decode cX5_agrees 7 = .ok (.if_icmp .ge 57, 3) := by decide +kernel
theorem dX5_agrees_10 : decode cX5_agrees 10 = .ok (.iload_n 2, 1) := by decide +kernel
theorem dX5_agrees_11 : decode cX5_agrees 11 = .ok (.aload_n 0, 1) := by decide +kernel
theorem dX5_agrees_12 : decode cX5_agrees 12 = .ok (.getfield 19, 3) := by decide +kernel
theorem dX5_agrees_15 : decode cX5_agrees 15 = .ok (.iload_n 3, 1) := by decide +kernel
theorem dX5_agrees_16 : decode cX5_agrees 16 = .ok (.iaload, 1) := by decide +kernel
theorem dX5_agrees_17 : decode cX5_agrees 17 = .ok (.iadd, 1) := by decide +kernel
theorem dX5_agrees_18 : decode cX5_agrees 18 = .ok (.iconst 1, 1) := by decide +kernel
theorem dX5_agrees_19 : decode cX5_agrees 19 = .ok (.isub, 1) := by decide +kernel
theorem dX5_agrees_20 : decode cX5_agrees 20 = .ok (.istore 4, 2) := by decide +kernel
theorem dX5_agrees_22 : decode cX5_agrees 22 = .ok (.iload 4, 2) := by decide +kernel
theorem dX5_agrees_24 : decode cX5_agrees 24 = .ok (.ifCond .lt 32, 3) := by decide +kernel
theorem dX5_agrees_27 : decode cX5_agrees 27 = .ok (.iload 4, 2) := by decide +kernel
theorem dX5_agrees_29 : decode cX5_agrees 29 = .ok (.aload_n 1, 1) := by decide +kernel
theorem dX5_agrees_30 : decode cX5_agrees 30 = .ok (.arraylength, 1) := by decide +kernel
theorem dX5_agrees_31 : decode cX5_agrees 31 = .ok (.if_icmp .ge 25, 3) := by decide +kernel
theorem dX5_agrees_34 : decode cX5_agrees 34 = .ok (.aload_n 1, 1) := by decide +kernel
theorem dX5_agrees_35 : decode cX5_agrees 35 = .ok (.iload 4, 2) := by decide +kernel
theorem dX5_agrees_37 : decode cX5_agrees 37 = .ok (.iaload, 1) := by decide +kernel
theorem dX5_agrees_38 : decode cX5_agrees 38 = .ok (.aload_n 0, 1) := by decide +kernel
theorem dX5_agrees_39 : decode cX5_agrees 39 = .ok (.getfield 15, 3) := by decide +kernel
theorem dX5_agrees_42 : decode cX5_agrees 42 = .ok (.iload_n 3, 1) := by decide +kernel
theorem dX5_agrees_43 : decode cX5_agrees 43 = .ok (.iaload, 1) := by decide +kernel
theorem dX5_agrees_44 : decode cX5_agrees 44 = .ok (.ishr, 1) := by decide +kernel
theorem dX5_agrees_45 : decode cX5_agrees 45 = .ok (.iconst 1, 1) := by decide +kernel
theorem dX5_agrees_46 : decode cX5_agrees 46 = .ok (.iand, 1) := by decide +kernel
theorem dX5_agrees_47 : decode cX5_agrees 47 = .ok (.aload_n 0, 1) := by decide +kernel
theorem dX5_agrees_48 : decode cX5_agrees 48 = .ok (.getfield 22, 3) := by decide +kernel
theorem dX5_agrees_51 : decode cX5_agrees 51 = .ok (.iload_n 3, 1) := by decide +kernel
theorem dX5_agrees_52 : decode cX5_agrees 52 = .ok (.iaload, 1) := by decide +kernel
theorem dX5_agrees_53 : decode cX5_agrees 53 = .ok (.if_icmp .eq 5, 3) := by decide +kernel
theorem dX5_agrees_56 : decode cX5_agrees 56 = .ok (.iconst 0, 1) := by decide +kernel
theorem dX5_agrees_57 : decode cX5_agrees 57 = .ok (.ireturn, 1) := by decide +kernel
theorem dX5_agrees_58 : decode cX5_agrees 58 = .ok (.iinc 3 1, 3) := by decide +kernel
theorem dX5_agrees_61 : decode cX5_agrees 61 = .ok (.goto (-59), 3) := by decide +kernel
theorem dX5_agrees_64 : decode cX5_agrees 64 = .ok (.iconst 1, 1) := by decide +kernel
theorem dX5_agrees_65 : decode cX5_agrees 65 = .ok (.ireturn, 1) := by decide +kernel
theorem dX6_init_0 : decode cX6_init 0 = .ok (.aload_n 0, 1) := by decide +kernel
theorem dX6_init_1 : decode cX6_init 1 = .ok (.invokespecial 3, 3) := by decide +kernel
theorem dX6_init_4 : decode cX6_init 4 = .ok (.aload_n 0, 1) := by decide +kernel
theorem dX6_init_5 : decode cX6_init 5 = .ok (.bipush 9, 2) := by decide +kernel
theorem dX6_init_7 : decode cX6_init 7 = .ok (.newarray .int, 2) := by decide +kernel
theorem dX6_init_9 : decode cX6_init 9 = .ok (.putfield 9, 3) := by decide +kernel
theorem dX6_init_12 : decode cX6_init 12 = .ok (.aload_n 0, 1) := by decide +kernel
theorem dX6_init_13 : decode cX6_init 13 = .ok (.bipush 90, 2) := by decide +kernel
theorem dX6_init_15 : decode cX6_init 15 = .ok (.newarray .int, 2) := by decide +kernel
theorem dX6_init_17 : decode cX6_init 17 = .ok (.putfield 15, 3) := by decide +kernel
theorem dX6_init_20 : decode cX6_init 20 = .ok (.aload_n 0, 1) := by decide +kernel
theorem dX6_init_21 : decode cX6_init 21 = .ok (.aload_n 1, 1) := by decide +kernel
theorem dX6_init_22 : decode cX6_init 22 = .ok (.putfield 18, 3) := by decide +kernel
theorem dX6_init_25 : decode cX6_init 25 = .ok (.return_, 1) := by decide +kernel
theorem dX6_takeTops_0 : decode cX6_takeTops 0 = .ok (.iconst 0, 1) := by decide +kernel
theorem dX6_takeTops_1 : decode cX6_takeTops 1 = .ok (.istore_n 2, 1) := by decide +kernel
theorem dX6_takeTops_2 : decode cX6_takeTops 2 = .ok (.iload_n 2, 1) := by decide +kernel
theorem dX6_takeTops_3 : decode cX6_takeTops 3 = .ok (.bipush 9, 2) := by decide +kernel
theorem dX6_takeTops_5 : decode cX6_takeTops 5 = .ok (.if_icmp .ge 34, 3) := by decide +kernel
theorem dX6_takeTops_8 : decode cX6_takeTops 8 = .ok (.iload_n 2, 1) := by decide +kernel
theorem dX6_takeTops_9 : decode cX6_takeTops 9 = .ok (.aload_n 1, 1) := by decide +kernel
theorem dX6_takeTops_10 : decode cX6_takeTops 10 = .ok (.arraylength, 1) := by decide +kernel
theorem dX6_takeTops_11 : decode cX6_takeTops 11 = .ok (.if_icmp .ge 28, 3) := by decide +kernel
theorem dX6_takeTops_14 : decode cX6_takeTops 14 = .ok (.aload_n 0, 1) := by decide +kernel
theorem dX6_takeTops_15 : decode cX6_takeTops 15 = .ok (.getfield 9, 3) := by decide +kernel
theorem dX6_takeTops_18 : decode cX6_takeTops 18 = .ok (.iload_n 2, 1) := by decide +kernel
theorem dX6_takeTops_19 : decode cX6_takeTops 19 = .ok (.aload_n 0, 1) := by decide +kernel
theorem dX6_takeTops_20 : decode cX6_takeTops 20 = .ok (.getfield 18, 3) := by decide +kernel
theorem dX6_takeTops_23 : decode cX6_takeTops 23 = .ok (.getfield 22, 3) := by decide +kernel
theorem dX6_takeTops_26 : decode cX6_takeTops 26 = .ok (.iload_n 2, 1) := by decide +kernel
theorem dX6_takeTops_27 : decode cX6_takeTops 27 = .ok (.iaload, 1) := by decide +kernel
theorem dX6_takeTops_28 : decode cX6_takeTops 28 = .ok (.aload_n 1, 1) := by decide +kernel
theorem dX6_takeTops_29 : decode cX6_takeTops 29 = .ok (.iload_n 2, 1) := by decide +kernel
theorem dX6_takeTops_30 : decode cX6_takeTops 30 = .ok (.iaload, 1) := by decide +kernel
theorem dX6_takeTops_31 : decode cX6_takeTops 31 = .ok (.iadd, 1) := by decide +kernel
theorem dX6_takeTops_32 : decode cX6_takeTops 32 = .ok (.iastore, 1) := by decide +kernel
theorem dX6_takeTops_33 : decode cX6_takeTops 33 = .ok (.iinc 2 1, 3) := by decide +kernel
theorem dX6_takeTops_36 : decode cX6_takeTops 36 = .ok (.goto (-34), 3) := by decide +kernel
theorem dX6_takeTops_39 : decode cX6_takeTops 39 = .ok (.return_, 1) := by decide +kernel
theorem dX6_build_0 : decode cX6_build 0 = .ok (.aload_n 0, 1) := by decide +kernel
theorem dX6_build_1 : decode cX6_build 1 = .ok (.aload_n 1, 1) := by decide +kernel
theorem dX6_build_2 : decode cX6_build 2 = .ok (.invokevirtual 27, 3) := by decide +kernel
theorem dX6_build_5 : decode cX6_build 5 = .ok (.iconst 0, 1) := by decide +kernel
theorem dX6_build_6 : decode cX6_build 6 = .ok (.istore_n 2, 1) := by decide +kernel
theorem dX6_build_7 : decode cX6_build 7 = .ok (.iload_n 2, 1) := by decide +kernel
theorem dX6_build_8 : decode cX6_build 8 = .ok (.aload_n 0, 1) := by decide +kernel
theorem dX6_build_9 : decode cX6_build 9 = .ok (.getfield 15, 3) := by decide +kernel
theorem dX6_build_12 : decode cX6_build 12 = .ok (.arraylength, 1) := by decide +kernel
theorem dX6_build_13 : decode cX6_build 13 = .ok (.if_icmp .ge 16, 3) := by decide +kernel
theorem dX6_build_16 : decode cX6_build 16 = .ok (.aload_n 0, 1) := by decide +kernel
theorem dX6_build_17 : decode cX6_build 17 = .ok (.getfield 15, 3) := by decide +kernel
theorem dX6_build_20 : decode cX6_build 20 = .ok (.iload_n 2, 1) := by decide +kernel
theorem dX6_build_21 : decode cX6_build 21 = .ok (.iconst 0, 1) := by decide +kernel
theorem dX6_build_22 : decode cX6_build 22 = .ok (.iastore, 1) := by decide +kernel
theorem dX6_build_23 : decode cX6_build 23 = .ok (.iinc 2 1, 3) := by decide +kernel
theorem dX6_build_26 : decode cX6_build 26 = .ok (.goto (-19), 3) := by decide +kernel
theorem dX6_build_29 : decode cX6_build 29 = .ok (.iconst 0, 1) := by decide +kernel
theorem dX6_build_30 : decode cX6_build 30 = .ok (.istore_n 2, 1) := by decide +kernel
theorem dX6_build_31 : decode cX6_build 31 = .ok (.iload_n 2, 1) := by decide +kernel
theorem dX6_build_32 : decode cX6_build 32 = .ok (.aload_n 0, 1) := by decide +kernel
theorem dX6_build_33 : decode cX6_build 33 = .ok (.getfield 18, 3) := by decide +kernel
theorem dX6_build_36 : decode cX6_build 36 = .ok (.getfield 31, 3) := by decide +kernel
theorem dX6_build_39 : decode cX6_build 39 = .ok (.if_icmp .ge 37, 3) := by decide +kernel
theorem dX6_build_42 : decode cX6_build 42 = .ok (.iconst 0, 1) := by decide +kernel
theorem dX6_build_43 : decode cX6_build 43 = .ok (.istore_n 3, 1) := by decide +kernel
theorem dX6_build_44 : decode cX6_build 44 = .ok (.iload_n 3, 1) := by decide +kernel
theorem dX6_build_45 : decode cX6_build 45 = .ok (.iload_n 2, 1) := by decide +kernel
theorem dX6_build_46 : decode cX6_build 46 = .ok (.if_icmp .ge 24, 3) := by decide +kernel
theorem dX6_build_49 : decode cX6_build 49 = .ok (.aload_n 0, 1) := by decide +kernel
theorem dX6_build_50 : decode cX6_build 50 = .ok (.iload_n 2, 1) := by decide +kernel
theorem dX6_build_51 : decode cX6_build 51 = .ok (.iload_n 3, 1) := by decide +kernel
theorem dX6_build_52 : decode cX6_build 52 = .ok (.invokevirtual 35, 3) := by decide +kernel
theorem dX6_build_55 : decode cX6_build 55 = .ok (.ifCond .ne 9, 3) := by decide +kernel
theorem dX6_build_58 : decode cX6_build 58 = .ok (.aload_n 0, 1) := by decide +kernel
theorem dX6_build_59 : decode cX6_build 59 = .ok (.iload_n 2, 1) := by decide +kernel
theorem dX6_build_60 : decode cX6_build 60 = .ok (.iload_n 3, 1) := by decide +kernel
theorem dX6_build_61 : decode cX6_build 61 = .ok (.invokevirtual 39, 3) := by decide +kernel
theorem dX6_build_64 : decode cX6_build 64 = .ok (.iinc 3 1, 3) := by decide +kernel
theorem dX6_build_67 : decode cX6_build 67 = .ok (.goto (-23), 3) := by decide +kernel
theorem dX6_build_70 : decode cX6_build 70 = .ok (.iinc 2 1, 3) := by decide +kernel
theorem dX6_build_73 : decode cX6_build 73 = .ok (.goto (-42), 3) := by decide +kernel
theorem dX6_build_76 : decode cX6_build 76 = .ok (.return_, 1) := by decide +kernel
theorem dX6_mark_0 : decode cX6_mark 0 = .ok (.iconst 0, 1) := by decide +kernel
theorem dX6_mark_1 : decode cX6_mark 1 = .ok (.istore_n 3, 1) := by decide +kernel
theorem dX6_mark_2 : decode cX6_mark 2 = .ok (.iload_n 3, 1) := by decide +kernel
theorem dX6_mark_3 : decode cX6_mark 3 = .ok (.bipush 9, 2) := by decide +kernel
theorem dX6_mark_5 : decode cX6_mark 5 = .ok (.if_icmp .gt 53, 3) := by decide +kernel
theorem dX6_mark_8 : decode cX6_mark 8 = .ok (.aload_n 0, 1) := by decide +kernel
theorem dX6_mark_9 : decode cX6_mark 9 = .ok (.iload_n 1, 1) := by decide +kernel
theorem dX6_mark_10 : decode cX6_mark 10 = .ok (.iload_n 2, 1) := by decide +kernel
theorem dX6_mark_11 : decode cX6_mark 11 = .ok (.iload_n 3, 1) := by decide +kernel
theorem dX6_mark_12 : decode cX6_mark 12 = .ok (.invokevirtual 43, 3) := by decide +kernel
theorem dX6_mark_15 : decode cX6_mark 15 = .ok (.ifCond .eq 43, 3) := by decide +kernel
theorem dX6_mark_18 : decode cX6_mark 18 = .ok (.aload_n 0, 1) := by decide +kernel
theorem dX6_mark_19 : decode cX6_mark 19 = .ok (.getfield 15, 3) := by decide +kernel
theorem dX6_mark_22 : decode cX6_mark 22 = .ok (.iload_n 3, 1) := by decide +kernel
theorem dX6_mark_23 : decode cX6_mark 23 = .ok (.bipush 9, 2) := by decide +kernel
theorem dX6_mark_25 : decode cX6_mark 25 = .ok (.imul, 1) := by decide +kernel
theorem dX6_mark_26 : decode cX6_mark 26 = .ok (.iload_n 1, 1) := by decide +kernel
theorem dX6_mark_27 : decode cX6_mark 27 = .ok (.iadd, 1) := by decide +kernel
theorem dX6_mark_28 : decode cX6_mark 28 = .ok (.dup2, 1) := by decide +kernel
theorem dX6_mark_29 : decode cX6_mark 29 = .ok (.iaload, 1) := by decide +kernel
theorem dX6_mark_30 : decode cX6_mark 30 = .ok (.iconst 1, 1) := by decide +kernel
theorem dX6_mark_31 : decode cX6_mark 31 = .ok (.iload_n 2, 1) := by decide +kernel
theorem dX6_mark_32 : decode cX6_mark 32 = .ok (.ishl, 1) := by decide +kernel
theorem dX6_mark_33 : decode cX6_mark 33 = .ok (.ior, 1) := by decide +kernel
theorem dX6_mark_34 : decode cX6_mark 34 = .ok (.iastore, 1) := by decide +kernel
theorem dX6_mark_35 : decode cX6_mark 35 = .ok (.aload_n 0, 1) := by decide +kernel
theorem dX6_mark_36 : decode cX6_mark 36 = .ok (.getfield 15, 3) := by decide +kernel
theorem dX6_mark_39 : decode cX6_mark 39 = .ok (.iload_n 3, 1) := by decide +kernel
theorem dX6_mark_40 : decode cX6_mark 40 = .ok (.bipush 9, 2) := by decide +kernel
theorem dX6_mark_42 : decode cX6_mark 42 = .ok (.imul, 1) := by decide +kernel
theorem dX6_mark_43 : decode cX6_mark 43 = .ok (.iload_n 2, 1) := by decide +kernel
theorem dX6_mark_44 : decode cX6_mark 44 = .ok (.iadd, 1) := by decide +kernel
theorem dX6_mark_45 : decode cX6_mark 45 = .ok (.dup2, 1) := by decide +kernel
theorem dX6_mark_46 : decode cX6_mark 46 = .ok (.iaload, 1) := by decide +kernel
theorem dX6_mark_47 : decode cX6_mark 47 = .ok (.iconst 1, 1) := by decide +kernel
theorem dX6_mark_48 : decode cX6_mark 48 = .ok (.iload_n 1, 1) := by decide +kernel
theorem dX6_mark_49 : decode cX6_mark 49 = .ok (.ishl, 1) := by decide +kernel
theorem dX6_mark_50 : decode cX6_mark 50 = .ok (.ior, 1) := by decide +kernel
theorem dX6_mark_51 : decode cX6_mark 51 = .ok (.iastore, 1) := by decide +kernel
theorem dX6_mark_52 : decode cX6_mark 52 = .ok (.iinc 3 1, 3) := by decide +kernel
theorem dX6_mark_55 : decode cX6_mark 55 = .ok (.goto (-53), 3) := by decide +kernel
theorem dX6_mark_58 : decode cX6_mark 58 = .ok (.return_, 1) := by decide +kernel
theorem dX6_isNear_0 : decode cX6_isNear 0 = .ok (.aload_n 0, 1) := by decide +kernel
theorem dX6_isNear_1 : decode cX6_isNear 1 = .ok (.getfield 18, 3) := by decide +kernel
theorem dX6_isNear_4 : decode cX6_isNear 4 = .ok (.iload_n 1, 1) := by decide +kernel
theorem dX6_isNear_5 : decode cX6_isNear 5 = .ok (.iload_n 2, 1) := by decide +kernel
theorem dX6_isNear_6 : decode cX6_isNear 6 = .ok (.invokevirtual 47, 3) := by decide +kernel
theorem dX6_isNear_9 : decode cX6_isNear 9 = .ok (.aload_n 0, 1) := by decide +kernel
theorem dX6_isNear_10 : decode cX6_isNear 10 = .ok (.getfield 18, 3) := by decide +kernel
theorem dX6_isNear_13 : decode cX6_isNear 13 = .ok (.getfield 50, 3) := by decide +kernel
theorem dX6_isNear_16 : decode cX6_isNear 16 = .ok (.bipush 9, 2) := by decide +kernel
theorem dX6_isNear_18 : decode cX6_isNear 18 = .ok (.iload_n 3, 1) := by decide +kernel
theorem dX6_isNear_19 : decode cX6_isNear 19 = .ok (.imul, 1) := by decide +kernel
theorem dX6_isNear_20 : decode cX6_isNear 20 = .ok (.isub, 1) := by decide +kernel
theorem dX6_isNear_21 : decode cX6_isNear 21 = .ok (.if_icmp .gt 7, 3) := by decide +kernel
theorem dX6_isNear_24 : decode cX6_isNear 24 = .ok (.iconst 1, 1) := by decide +kernel
theorem dX6_isNear_25 : decode cX6_isNear 25 = .ok (.goto 4, 3) := by decide +kernel
theorem dX6_isNear_28 : decode cX6_isNear 28 = .ok (.iconst 0, 1) := by decide +kernel
theorem dX6_isNear_29 : decode cX6_isNear 29 = .ok (.ireturn, 1) := by decide +kernel
theorem dX6_of_0 : decode cX6_of 0 = .ok (.iload_n 2, 1) := by decide +kernel
theorem dX6_of_1 : decode cX6_of 1 = .ok (.bipush 9, 2) := by decide +kernel
theorem dX6_of_3 : decode cX6_of 3 = .ok (.imul, 1) := by decide +kernel
theorem dX6_of_4 : decode cX6_of 4 = .ok (.iload_n 1, 1) := by decide +kernel
theorem dX6_of_5 : decode cX6_of 5 = .ok (.iadd, 1) := by decide +kernel
theorem dX6_of_6 : decode cX6_of 6 = .ok (.istore_n 3, 1) := by decide +kernel
theorem dX6_of_7 : decode cX6_of 7 = .ok (.iload_n 3, 1) := by decide +kernel
theorem dX6_of_8 : decode cX6_of 8 = .ok (.ifCond .lt 21, 3) := by decide +kernel
theorem dX6_of_11 : decode cX6_of 11 = .ok (.iload_n 3, 1) := by decide +kernel
theorem dX6_of_12 : decode cX6_of 12 = .ok (.aload_n 0, 1) := by decide +kernel
theorem dX6_of_13 : decode cX6_of 13 = .ok (.getfield 15, 3) := by decide +kernel
theorem dX6_of_16 : decode cX6_of 16 = .ok (.arraylength, 1) := by decide +kernel
theorem dX6_of_17 : decode cX6_of 17 = .ok (.if_icmp .ge 12, 3) := by decide +kernel
theorem dX6_of_20 : decode cX6_of 20 = .ok (.aload_n 0, 1) := by decide +kernel
theorem dX6_of_21 : decode cX6_of 21 = .ok (.getfield 15, 3) := by decide +kernel
theorem dX6_of_24 : decode cX6_of 24 = .ok (.iload_n 3, 1) := by decide +kernel
theorem dX6_of_25 : decode cX6_of 25 = .ok (.iaload, 1) := by decide +kernel
theorem dX6_of_26 : decode cX6_of 26 = .ok (.goto 4, 3) := by decide +kernel
theorem dX6_of_29 : decode cX6_of 29 = .ok (.iconst 0, 1) := by decide +kernel
theorem dX6_of_30 : decode cX6_of 30 = .ok (.ireturn, 1) := by decide +kernel
theorem dX6_inTheWay_0 : decode cX6_inTheWay 0 = .ok (.aload_n 0, 1) := by decide +kernel
theorem dX6_inTheWay_1 : decode cX6_inTheWay 1 = .ok (.getfield 18, 3) := by decide +kernel
theorem dX6_inTheWay_4 : decode cX6_inTheWay 4 = .ok (.getfield 53, 3) := by decide +kernel
theorem dX6_inTheWay_7 : decode cX6_inTheWay 7 = .ok (.iload_n 1, 1) := by decide +kernel
theorem dX6_inTheWay_8 : decode cX6_inTheWay 8 = .ok (.iaload, 1) := by decide +kernel
theorem dX6_inTheWay_9 : decode cX6_inTheWay 9 = .ok (.aload_n 0, 1) := by decide +kernel
theorem dX6_inTheWay_10 : decode cX6_inTheWay 10 = .ok (.getfield 18, 3) := by decide +kernel
theorem dX6_inTheWay_13 : decode cX6_inTheWay 13 = .ok (.getfield 53, 3) := by decide +kernel
theorem dX6_inTheWay_16 : decode cX6_inTheWay 16 = .ok (.iload_n 2, 1) := by decide +kernel
theorem dX6_inTheWay_17 : decode cX6_inTheWay 17 = .ok (.iaload, 1) := by decide +kernel
theorem dX6_inTheWay_18 : decode cX6_inTheWay 18 = .ok (.if_icmp .ge 7, 3) := by decide +kernel
theorem dX6_inTheWay_21 : decode cX6_inTheWay 21 = .ok (.iload_n 1, 1) := by decide +kernel
theorem dX6_inTheWay_22 : decode cX6_inTheWay 22 = .ok (.goto 4, 3) := by decide +kernel
theorem dX6_inTheWay_25 : decode cX6_inTheWay 25 = .ok (.iload_n 2, 1) := by decide +kernel
theorem dX6_inTheWay_26 : decode cX6_inTheWay 26 = .ok (.istore_n 3, 1) := by decide +kernel
theorem dX6_inTheWay_27 : decode cX6_inTheWay 27 = .ok (.iload_n 3, 1) := by decide +kernel
theorem dX6_inTheWay_28 : decode cX6_inTheWay 28 = .ok (.iload_n 1, 1) := by decide +kernel
theorem dX6_inTheWay_29 : decode cX6_inTheWay 29 = .ok (.if_icmp .ne 7, 3) := by decide +kernel
theorem dX6_inTheWay_32 : decode cX6_inTheWay 32 = .ok (.iload_n 2, 1) := by decide +kernel
theorem dX6_inTheWay_33 : decode cX6_inTheWay 33 = .ok (.goto 4, 3) := by decide +kernel
theorem dX6_inTheWay_36 : decode cX6_inTheWay 36 = .ok (.iload_n 1, 1) := by decide +kernel
theorem dX6_inTheWay_37 : decode cX6_inTheWay 37 = .ok (.istore 4, 2) := by decide +kernel
theorem dX6_inTheWay_39 : decode cX6_inTheWay 39 = .ok (.iconst 0, 1) := by decide +kernel
theorem dX6_inTheWay_40 : decode cX6_inTheWay 40 = .ok (.istore 5, 2) := by decide +kernel
theorem dX6_inTheWay_42 : decode cX6_inTheWay 42 = .ok (.iconst 0, 1) := by decide +kernel
theorem dX6_inTheWay_43 : decode cX6_inTheWay 43 = .ok (.istore 6, 2) := by decide +kernel
theorem dX6_inTheWay_45 : decode cX6_inTheWay 45 = .ok (.iload 6, 2) := by decide +kernel
theorem dX6_inTheWay_47 : decode cX6_inTheWay 47 = .ok (.aload_n 0, 1) := by decide +kernel
theorem dX6_inTheWay_48 : decode cX6_inTheWay 48 = .ok (.getfield 18, 3) := by decide +kernel
theorem dX6_inTheWay_51 : decode cX6_inTheWay 51 = .ok (.getfield 31, 3) := by decide +kernel
theorem dX6_inTheWay_54 : decode cX6_inTheWay 54 = .ok (.if_icmp .ge 109, 3) := by decide +kernel
theorem dX6_inTheWay_57 : decode cX6_inTheWay 57 = .ok (.aload_n 0, 1) := by decide +kernel
theorem dX6_inTheWay_58 : decode cX6_inTheWay 58 = .ok (.getfield 18, 3) := by decide +kernel
theorem dX6_inTheWay_61 : decode cX6_inTheWay 61 = .ok (.getfield 53, 3) := by decide +kernel
theorem dX6_inTheWay_64 : decode cX6_inTheWay 64 = .ok (.iload 6, 2) := by decide +kernel
theorem dX6_inTheWay_66 : decode cX6_inTheWay 66 = .ok (.iaload, 1) := by decide +kernel
theorem dX6_inTheWay_67 : decode cX6_inTheWay 67 = .ok (.aload_n 0, 1) := by decide +kernel
theorem dX6_inTheWay_68 : decode cX6_inTheWay 68 = .ok (.getfield 18, 3) := by decide +kernel
theorem dX6_inTheWay_71 : decode cX6_inTheWay 71 = .ok (.getfield 53, 3) := by decide +kernel
theorem dX6_inTheWay_74 : decode cX6_inTheWay 74 = .ok (.iload_n 3, 1) := by decide +kernel
theorem dX6_inTheWay_75 : decode cX6_inTheWay 75 = .ok (.iaload, 1) := by decide +kernel
theorem dX6_inTheWay_76 : decode cX6_inTheWay 76 = .ok (.isub, 1) := by decide +kernel
theorem dX6_inTheWay_77 : decode cX6_inTheWay 77 = .ok (.istore 7, 2) := by decide +kernel
theorem dX6_inTheWay_79 : decode cX6_inTheWay 79 = .ok (.aload_n 0, 1) := by decide +kernel
theorem dX6_inTheWay_80 : decode cX6_inTheWay 80 = .ok (.getfield 18, 3) := by decide +kernel
theorem dX6_inTheWay_83 : decode cX6_inTheWay 83 = .ok (.getfield 53, 3) := by decide +kernel
theorem dX6_inTheWay_86 : decode cX6_inTheWay 86 = .ok (.iload 4, 2) := by decide +kernel
theorem dX6_inTheWay_88 : decode cX6_inTheWay 88 = .ok (.iaload, 1) := by decide +kernel
theorem dX6_inTheWay_89 : decode cX6_inTheWay 89 = .ok (.aload_n 0, 1) := by decide +kernel
theorem dX6_inTheWay_90 : decode cX6_inTheWay 90 = .ok (.getfield 18, 3) := by decide +kernel
theorem dX6_inTheWay_93 : decode cX6_inTheWay 93 = .ok (.getfield 53, 3) := by decide +kernel
theorem dX6_inTheWay_96 : decode cX6_inTheWay 96 = .ok (.iload 6, 2) := by decide +kernel
theorem dX6_inTheWay_98 : decode cX6_inTheWay 98 = .ok (.iaload, 1) := by decide +kernel
theorem dX6_inTheWay_99 : decode cX6_inTheWay 99 = .ok (.isub, 1) := by decide +kernel
theorem dX6_inTheWay_100 : decode cX6_inTheWay 100 = .ok (.istore 8, 2) := by decide +kernel
theorem dX6_inTheWay_102 : decode cX6_inTheWay 102 = .ok (.iload 7, 2) := by decide +kernel
theorem dX6_inTheWay_104 : decode cX6_inTheWay 104 = .ok (.ifCond .le 53, 3) := by decide +kernel
theorem dX6_inTheWay_107 : decode cX6_inTheWay 107 = .ok (.iload 8, 2) := by decide +kernel
theorem dX6_inTheWay_109 : decode cX6_inTheWay 109 = .ok (.ifCond .le 48, 3) := by decide +kernel
theorem dX6_inTheWay_112 : decode cX6_inTheWay 112 = .ok (.aload_n 0, 1) := by decide +kernel
theorem dX6_inTheWay_113 : decode cX6_inTheWay 113 = .ok (.getfield 9, 3) := by decide +kernel
theorem dX6_inTheWay_116 : decode cX6_inTheWay 116 = .ok (.iload 6, 2) := by decide +kernel
theorem dX6_inTheWay_118 : decode cX6_inTheWay 118 = .ok (.iaload, 1) := by decide +kernel
theorem dX6_inTheWay_119 : decode cX6_inTheWay 119 = .ok (.iload 7, 2) := by decide +kernel
theorem dX6_inTheWay_121 : decode cX6_inTheWay 121 = .ok (.iload 8, 2) := by decide +kernel
theorem dX6_inTheWay_123 : decode cX6_inTheWay 123 = .ok (.iadd, 1) := by decide +kernel
theorem dX6_inTheWay_124 : decode cX6_inTheWay 124 = .ok (.imul, 1) := by decide +kernel
theorem dX6_inTheWay_125 : decode cX6_inTheWay 125 = .ok (.aload_n 0, 1) := by decide +kernel
theorem dX6_inTheWay_126 : decode cX6_inTheWay 126 = .ok (.getfield 9, 3) := by decide +kernel
theorem dX6_inTheWay_129 : decode cX6_inTheWay 129 = .ok (.iload_n 3, 1) := by decide +kernel
theorem dX6_inTheWay_130 : decode cX6_inTheWay 130 = .ok (.iaload, 1) := by decide +kernel
theorem dX6_inTheWay_131 : decode cX6_inTheWay 131 = .ok (.iload 8, 2) := by decide +kernel
theorem dX6_inTheWay_133 : decode cX6_inTheWay 133 = .ok (.imul, 1) := by decide +kernel
theorem dX6_inTheWay_134 : decode cX6_inTheWay 134 = .ok (.aload_n 0, 1) := by decide +kernel
theorem dX6_inTheWay_135 : decode cX6_inTheWay 135 = .ok (.getfield 9, 3) := by decide +kernel
theorem dX6_inTheWay_138 : decode cX6_inTheWay 138 = .ok (.iload 4, 2) := by decide +kernel
theorem dX6_inTheWay_140 : decode cX6_inTheWay 140 = .ok (.iaload, 1) := by decide +kernel
theorem dX6_inTheWay_141 : decode cX6_inTheWay 141 = .ok (.iload 7, 2) := by decide +kernel
theorem dX6_inTheWay_143 : decode cX6_inTheWay 143 = .ok (.imul, 1) := by decide +kernel
theorem dX6_inTheWay_144 : decode cX6_inTheWay 144 = .ok (.iadd, 1) := by decide +kernel
theorem dX6_inTheWay_145 : decode cX6_inTheWay 145 = .ok (.if_icmp .lt 12, 3) := by decide +kernel
theorem dX6_inTheWay_148 : decode cX6_inTheWay 148 = .ok (.iload 5, 2) := by decide +kernel
theorem dX6_inTheWay_150 : decode cX6_inTheWay 150 = .ok (.iconst 1, 1) := by decide +kernel
theorem dX6_inTheWay_151 : decode cX6_inTheWay 151 = .ok (.iload 6, 2) := by decide +kernel
theorem dX6_inTheWay_153 : decode cX6_inTheWay 153 = .ok (.ishl, 1) := by decide +kernel
theorem dX6_inTheWay_154 : decode cX6_inTheWay 154 = .ok (.ior, 1) := by decide +kernel
theorem dX6_inTheWay_155 : decode cX6_inTheWay 155 = .ok (.istore 5, 2) := by decide +kernel
theorem dX6_inTheWay_157 : decode cX6_inTheWay 157 = .ok (.iinc 6 1, 3) := by decide +kernel
theorem dX6_inTheWay_160 : decode cX6_inTheWay 160 = .ok (.goto (-115), 3) := by decide +kernel
theorem dX6_inTheWay_163 : decode cX6_inTheWay 163 = .ok (.iload 5, 2) := by decide +kernel
theorem dX6_inTheWay_165 : decode cX6_inTheWay 165 = .ok (.ireturn, 1) := by decide +kernel
theorem dX7_init_0 : decode cX7_init 0 = .ok (.aload_n 0, 1) := by decide +kernel
theorem dX7_init_1 : decode cX7_init 1 = .ok (.invokespecial 3, 3) := by decide +kernel
theorem dX7_init_4 : decode cX7_init 4 = .ok (.aload_n 0, 1) := by decide +kernel
theorem dX7_init_5 : decode cX7_init 5 = .ok (.iconst 0, 1) := by decide +kernel
theorem dX7_init_6 : decode cX7_init 6 = .ok (.putfield 9, 3) := by decide +kernel
theorem dX7_init_9 : decode cX7_init 9 = .ok (.aload_n 0, 1) := by decide +kernel
theorem dX7_init_10 : decode cX7_init 10 = .ok (.iconst 0, 1) := by decide +kernel
theorem dX7_init_11 : decode cX7_init 11 = .ok (.putfield 15, 3) := by decide +kernel
theorem dX7_init_14 : decode cX7_init 14 = .ok (.aload_n 0, 1) := by decide +kernel
theorem dX7_init_15 : decode cX7_init 15 = .ok (.bipush 9, 2) := by decide +kernel
theorem dX7_init_17 : decode cX7_init 17 = .ok (.newarray .int, 2) := by decide +kernel
theorem dX7_init_19 : decode cX7_init 19 = .ok (.putfield 18, 3) := by decide +kernel
theorem dX7_init_22 : decode cX7_init 22 = .ok (.aload_n 0, 1) := by decide +kernel
theorem dX7_init_23 : decode cX7_init 23 = .ok (.bipush 9, 2) := by decide +kernel
theorem dX7_init_25 : decode cX7_init 25 = .ok (.newarray .int, 2) := by decide +kernel
theorem dX7_init_27 : decode cX7_init 27 = .ok (.putfield 22, 3) := by decide +kernel
theorem dX7_init_30 : decode cX7_init 30 = .ok (.aload_n 0, 1) := by decide +kernel
theorem dX7_init_31 : decode cX7_init 31 = .ok (.bipush 9, 2) := by decide +kernel
theorem dX7_init_33 : decode cX7_init 33 = .ok (.newarray .int, 2) := by decide +kernel
theorem dX7_init_35 : decode cX7_init 35 = .ok (.putfield 25, 3) := by decide +kernel
theorem dX7_init_38 : decode cX7_init 38 = .ok (.aload_n 0, 1) := by decide +kernel
theorem dX7_init_39 : decode cX7_init 39 = .ok (.bipush 9, 2) := by decide +kernel
theorem dX7_init_41 : decode cX7_init 41 = .ok (.newarray .int, 2) := by decide +kernel
theorem dX7_init_43 : decode cX7_init 43 = .ok (.putfield 28, 3) := by decide +kernel
theorem dX7_init_46 : decode cX7_init 46 = .ok (.return_, 1) := by decide +kernel
theorem dX7_settle_0 : decode cX7_settle 0 = .ok (.aload_n 0, 1) := by decide +kernel
theorem dX7_settle_1 : decode cX7_settle 1 = .ok (.iconst 0, 1) := by decide +kernel
theorem dX7_settle_2 : decode cX7_settle 2 = .ok (.putfield 9, 3) := by decide +kernel
theorem dX7_settle_5 : decode cX7_settle 5 = .ok (.aload_n 0, 1) := by decide +kernel
theorem dX7_settle_6 : decode cX7_settle 6 = .ok (.iconst 0, 1) := by decide +kernel
theorem dX7_settle_7 : decode cX7_settle 7 = .ok (.putfield 15, 3) := by decide +kernel
theorem dX7_settle_10 : decode cX7_settle 10 = .ok (.aload_n 0, 1) := by decide +kernel
theorem dX7_settle_11 : decode cX7_settle 11 = .ok (.invokevirtual 31, 3) := by decide +kernel
theorem dX7_settle_14 : decode cX7_settle 14 = .ok (.iconst 0, 1) := by decide +kernel
theorem dX7_settle_15 : decode cX7_settle 15 = .ok (.istore_n 2, 1) := by decide +kernel
theorem dX7_settle_16 : decode cX7_settle 16 = .ok (.iload_n 2, 1) := by decide +kernel
theorem dX7_settle_17 : decode cX7_settle 17 = .ok (.bipush 9, 2) := by decide +kernel
theorem dX7_settle_19 : decode cX7_settle 19 = .ok (.if_icmp .ge 35, 3) := by decide +kernel
theorem dX7_settle_22 : decode cX7_settle 22 = .ok (.aload_n 0, 1) := by decide +kernel
theorem dX7_settle_23 : decode cX7_settle 23 = .ok (.getfield 22, 3) := by decide +kernel
theorem dX7_settle_26 : decode cX7_settle 26 = .ok (.iload_n 2, 1) := by decide +kernel
theorem dX7_settle_27 : decode cX7_settle 27 = .ok (.iconst 0, 1) := by decide +kernel
theorem dX7_settle_28 : decode cX7_settle 28 = .ok (.iastore, 1) := by decide +kernel
theorem dX7_settle_29 : decode cX7_settle 29 = .ok (.aload_n 0, 1) := by decide +kernel
theorem dX7_settle_30 : decode cX7_settle 30 = .ok (.getfield 25, 3) := by decide +kernel
theorem dX7_settle_33 : decode cX7_settle 33 = .ok (.iload_n 2, 1) := by decide +kernel
theorem dX7_settle_34 : decode cX7_settle 34 = .ok (.iconst 0, 1) := by decide +kernel
theorem dX7_settle_35 : decode cX7_settle 35 = .ok (.iastore, 1) := by decide +kernel
theorem dX7_settle_36 : decode cX7_settle 36 = .ok (.aload_n 0, 1) := by decide +kernel
theorem dX7_settle_37 : decode cX7_settle 37 = .ok (.getfield 28, 3) := by decide +kernel
theorem dX7_settle_40 : decode cX7_settle 40 = .ok (.iload_n 2, 1) := by decide +kernel
theorem dX7_settle_41 : decode cX7_settle 41 = .ok (.aload_n 1, 1) := by decide +kernel
theorem dX7_settle_42 : decode cX7_settle 42 = .ok (.getfield 34, 3) := by decide +kernel
theorem dX7_settle_45 : decode cX7_settle 45 = .ok (.iload_n 2, 1) := by decide +kernel
theorem dX7_settle_46 : decode cX7_settle 46 = .ok (.iaload, 1) := by decide +kernel
theorem dX7_settle_47 : decode cX7_settle 47 = .ok (.iastore, 1) := by decide +kernel
theorem dX7_settle_48 : decode cX7_settle 48 = .ok (.iinc 2 1, 3) := by decide +kernel
theorem dX7_settle_51 : decode cX7_settle 51 = .ok (.goto (-35), 3) := by decide +kernel
theorem dX7_settle_54 : decode cX7_settle 54 = .ok (.return_, 1) := by decide +kernel
theorem dX7_copy_0 : decode cX7_copy 0 = .ok (.aload_n 0, 1) := by decide +kernel
theorem dX7_copy_1 : decode cX7_copy 1 = .ok (.aload_n 1, 1) := by decide +kernel
theorem dX7_copy_2 : decode cX7_copy 2 = .ok (.getfield 9, 3) := by decide +kernel
theorem dX7_copy_5 : decode cX7_copy 5 = .ok (.putfield 9, 3) := by decide +kernel
theorem dX7_copy_8 : decode cX7_copy 8 = .ok (.aload_n 0, 1) := by decide +kernel
theorem dX7_copy_9 : decode cX7_copy 9 = .ok (.aload_n 1, 1) := by decide +kernel
theorem dX7_copy_10 : decode cX7_copy 10 = .ok (.getfield 15, 3) := by decide +kernel
theorem dX7_copy_13 : decode cX7_copy 13 = .ok (.putfield 15, 3) := by decide +kernel
theorem dX7_copy_16 : decode cX7_copy 16 = .ok (.aload_n 1, 1) := by decide +kernel
theorem dX7_copy_17 : decode cX7_copy 17 = .ok (.getfield 18, 3) := by decide +kernel
theorem dX7_copy_20 : decode cX7_copy 20 = .ok (.aload_n 0, 1) := by decide +kernel
theorem dX7_copy_21 : decode cX7_copy 21 = .ok (.getfield 18, 3) := by decide +kernel
theorem dX7_copy_24 : decode cX7_copy 24 = .ok (.invokestatic 37, 3) := by decide +kernel
theorem dX7_copy_27 : decode cX7_copy 27 = .ok (.aload_n 1, 1) := by decide +kernel
theorem dX7_copy_28 : decode cX7_copy 28 = .ok (.getfield 22, 3) := by decide +kernel
theorem dX7_copy_31 : decode cX7_copy 31 = .ok (.aload_n 0, 1) := by decide +kernel
theorem dX7_copy_32 : decode cX7_copy 32 = .ok (.getfield 22, 3) := by decide +kernel
theorem dX7_copy_35 : decode cX7_copy 35 = .ok (.invokestatic 37, 3) := by decide +kernel
theorem dX7_copy_38 : decode cX7_copy 38 = .ok (.aload_n 1, 1) := by decide +kernel
theorem dX7_copy_39 : decode cX7_copy 39 = .ok (.getfield 25, 3) := by decide +kernel
theorem dX7_copy_42 : decode cX7_copy 42 = .ok (.aload_n 0, 1) := by decide +kernel
theorem dX7_copy_43 : decode cX7_copy 43 = .ok (.getfield 25, 3) := by decide +kernel
theorem dX7_copy_46 : decode cX7_copy 46 = .ok (.invokestatic 37, 3) := by decide +kernel
theorem dX7_copy_49 : decode cX7_copy 49 = .ok (.aload_n 1, 1) := by decide +kernel
theorem dX7_copy_50 : decode cX7_copy 50 = .ok (.getfield 28, 3) := by decide +kernel
theorem dX7_copy_53 : decode cX7_copy 53 = .ok (.aload_n 0, 1) := by decide +kernel
theorem dX7_copy_54 : decode cX7_copy 54 = .ok (.getfield 28, 3) := by decide +kernel
theorem dX7_copy_57 : decode cX7_copy 57 = .ok (.invokestatic 37, 3) := by decide +kernel
theorem dX7_copy_60 : decode cX7_copy 60 = .ok (.return_, 1) := by decide +kernel
theorem dX7_sleeps_0 : decode cX7_sleeps 0 = .ok (.aload_n 0, 1) := by decide +kernel
theorem dX7_sleeps_1 : decode cX7_sleeps 1 = .ok (.getfield 15, 3) := by decide +kernel
theorem dX7_sleeps_4 : decode cX7_sleeps 4 = .ok (.iload_n 1, 1) := by decide +kernel
theorem dX7_sleeps_5 : decode cX7_sleeps 5 = .ok (.ishr, 1) := by decide +kernel
theorem dX7_sleeps_6 : decode cX7_sleeps 6 = .ok (.iconst 1, 1) := by decide +kernel
theorem dX7_sleeps_7 : decode cX7_sleeps 7 = .ok (.iand, 1) := by decide +kernel
theorem dX7_sleeps_8 : decode cX7_sleeps 8 = .ok (.iconst 1, 1) := by decide +kernel
theorem dX7_sleeps_9 : decode cX7_sleeps 9 = .ok (.if_icmp .ne 7, 3) := by decide +kernel
theorem dX7_sleeps_12 : decode cX7_sleeps 12 = .ok (.iconst 1, 1) := by decide +kernel
theorem dX7_sleeps_13 : decode cX7_sleeps 13 = .ok (.goto 4, 3) := by decide +kernel
theorem dX7_sleeps_16 : decode cX7_sleeps 16 = .ok (.iconst 0, 1) := by decide +kernel
theorem dX7_sleeps_17 : decode cX7_sleeps 17 = .ok (.ireturn, 1) := by decide +kernel
theorem dX7_whoWaits_0 : decode cX7_whoWaits 0 = .ok (.iconst 0, 1) := by decide +kernel
theorem dX7_whoWaits_1 : decode cX7_whoWaits 1 = .ok (.istore_n 1, 1) := by decide +kernel
theorem dX7_whoWaits_2 : decode cX7_whoWaits 2 = .ok (.iconst 0, 1) := by decide +kernel
theorem dX7_whoWaits_3 : decode cX7_whoWaits 3 = .ok (.istore_n 2, 1) := by decide +kernel
theorem dX7_whoWaits_4 : decode cX7_whoWaits 4 = .ok (.iload_n 2, 1) := by decide +kernel
theorem dX7_whoWaits_5 : decode cX7_whoWaits 5 = .ok (.bipush 9, 2) := by decide +kernel
theorem dX7_whoWaits_7 : decode cX7_whoWaits 7 = .ok (.if_icmp .ge 24, 3) := by decide +kernel
theorem dX7_whoWaits_10 : decode cX7_whoWaits 10 = .ok (.aload_n 0, 1) := by decide +kernel
theorem dX7_whoWaits_11 : decode cX7_whoWaits 11 = .ok (.getfield 18, 3) := by decide +kernel
theorem dX7_whoWaits_14 : decode cX7_whoWaits 14 = .ok (.iload_n 2, 1) := by decide +kernel
theorem dX7_whoWaits_15 : decode cX7_whoWaits 15 = .ok (.iaload, 1) := by decide +kernel
theorem dX7_whoWaits_16 : decode cX7_whoWaits 16 = .ok (.ifCond .le 9, 3) := by decide +kernel
theorem dX7_whoWaits_19 : decode cX7_whoWaits 19 = .ok (.iload_n 1, 1) := by decide +kernel
theorem dX7_whoWaits_20 : decode cX7_whoWaits 20 = .ok (.iconst 1, 1) := by decide +kernel
theorem dX7_whoWaits_21 : decode cX7_whoWaits 21 = .ok (.iload_n 2, 1) := by decide +kernel
theorem dX7_whoWaits_22 : decode cX7_whoWaits 22 = .ok (.ishl, 1) := by decide +kernel
theorem dX7_whoWaits_23 : decode cX7_whoWaits 23 = .ok (.ior, 1) := by decide +kernel
theorem dX7_whoWaits_24 : decode cX7_whoWaits 24 = .ok (.istore_n 1, 1) := by decide +kernel
theorem dX7_whoWaits_25 : decode cX7_whoWaits 25 = .ok (.iinc 2 1, 3) := by decide +kernel
theorem dX7_whoWaits_28 : decode cX7_whoWaits 28 = .ok (.goto (-24), 3) := by decide +kernel
theorem dX7_whoWaits_31 : decode cX7_whoWaits 31 = .ok (.iload_n 1, 1) := by decide +kernel
theorem dX7_whoWaits_32 : decode cX7_whoWaits 32 = .ok (.ireturn, 1) := by decide +kernel
theorem dX7_quiet_0 : decode cX7_quiet 0 = .ok (.iconst 0, 1) := by decide +kernel
theorem dX7_quiet_1 : decode cX7_quiet 1 = .ok (.istore_n 1, 1) := by decide +kernel
theorem dX7_quiet_2 : decode cX7_quiet 2 = .ok (.iload_n 1, 1) := by decide +kernel
theorem dX7_quiet_3 : decode cX7_quiet 3 = .ok (.bipush 9, 2) := by decide +kernel
theorem dX7_quiet_5 : decode cX7_quiet 5 = .ok (.if_icmp .ge 16, 3) := by decide +kernel
theorem dX7_quiet_8 : decode cX7_quiet 8 = .ok (.aload_n 0, 1) := by decide +kernel
theorem dX7_quiet_9 : decode cX7_quiet 9 = .ok (.getfield 18, 3) := by decide +kernel
theorem dX7_quiet_12 : decode cX7_quiet 12 = .ok (.iload_n 1, 1) := by decide +kernel
theorem dX7_quiet_13 : decode cX7_quiet 13 = .ok (.iconst 0, 1) := by decide +kernel
theorem dX7_quiet_14 : decode cX7_quiet 14 = .ok (.iastore, 1) := by decide +kernel
theorem dX7_quiet_15 : decode cX7_quiet 15 = .ok (.iinc 1 1, 3) := by decide +kernel
theorem dX7_quiet_18 : decode cX7_quiet 18 = .ok (.goto (-16), 3) := by decide +kernel
theorem dX7_quiet_21 : decode cX7_quiet 21 = .ok (.return_, 1) := by decide +kernel
theorem dX7_startNod_0 : decode cX7_startNod 0 = .ok (.aload_n 0, 1) := by decide +kernel
theorem dX7_startNod_1 : decode cX7_startNod 1 = .ok (.iload_n 1, 1) := by decide +kernel
theorem dX7_startNod_2 : decode cX7_startNod 2 = .ok (.invokevirtual 41, 3) := by decide +kernel
theorem dX7_startNod_5 : decode cX7_startNod 5 = .ok (.ifCond .ne 10, 3) := by decide +kernel
theorem dX7_startNod_8 : decode cX7_startNod 8 = .ok (.aload_n 0, 1) := by decide +kernel
theorem dX7_startNod_9 : decode cX7_startNod 9 = .ok (.getfield 18, 3) := by decide +kernel
theorem dX7_startNod_12 : decode cX7_startNod 12 = .ok (.iload_n 1, 1) := by decide +kernel
theorem dX7_startNod_13 : decode cX7_startNod 13 = .ok (.iconst 1, 1) := by decide +kernel
theorem dX7_startNod_14 : decode cX7_startNod 14 = .ok (.iastore, 1) := by decide +kernel
theorem dX7_startNod_15 : decode cX7_startNod 15 = .ok (.return_, 1) := by decide +kernel
theorem dX7_turnSleep_0 : decode cX7_turnSleep 0 = .ok (.aload_n 0, 1) := by decide +kernel
theorem dX7_turnSleep_1 : decode cX7_turnSleep 1 = .ok (.dup, 1) := by decide +kernel
theorem dX7_turnSleep_2 : decode cX7_turnSleep 2 = .ok (.getfield 15, 3) := by decide +kernel
theorem dX7_turnSleep_5 : decode cX7_turnSleep 5 = .ok (.iconst 1, 1) := by decide +kernel
theorem dX7_turnSleep_6 : decode cX7_turnSleep 6 = .ok (.iload_n 1, 1) := by decide +kernel
theorem dX7_turnSleep_7 : decode cX7_turnSleep 7 = .ok (.ishl, 1) := by decide +kernel
theorem dX7_turnSleep_8 : decode cX7_turnSleep 8 = .ok (.ixor, 1) := by decide +kernel
theorem dX7_turnSleep_9 : decode cX7_turnSleep 9 = .ok (.putfield 15, 3) := by decide +kernel
theorem dX7_turnSleep_12 : decode cX7_turnSleep 12 = .ok (.aload_n 0, 1) := by decide +kernel
theorem dX7_turnSleep_13 : decode cX7_turnSleep 13 = .ok (.getfield 18, 3) := by decide +kernel
theorem dX7_turnSleep_16 : decode cX7_turnSleep 16 = .ok (.iload_n 1, 1) := by decide +kernel
theorem dX7_turnSleep_17 : decode cX7_turnSleep 17 = .ok (.iconst 0, 1) := by decide +kernel
theorem dX7_turnSleep_18 : decode cX7_turnSleep 18 = .ok (.iastore, 1) := by decide +kernel
theorem dX7_turnSleep_19 : decode cX7_turnSleep 19 = .ok (.return_, 1) := by decide +kernel
theorem dX7_store_0 : decode cX7_store 0 = .ok (.iload_n 2, 1) := by decide +kernel
theorem dX7_store_1 : decode cX7_store 1 = .ok (.ifCond .lt 12, 3) := by decide +kernel
theorem dX7_store_4 : decode cX7_store 4 = .ok (.iload_n 2, 1) := by decide +kernel
theorem dX7_store_5 : decode cX7_store 5 = .ok (.aload_n 1, 1) := by decide +kernel
theorem dX7_store_6 : decode cX7_store 6 = .ok (.arraylength, 1) := by decide +kernel
theorem dX7_store_7 : decode cX7_store 7 = .ok (.bipush 38, 2) := by decide +kernel
theorem dX7_store_9 : decode cX7_store 9 = .ok (.isub, 1) := by decide +kernel
theorem dX7_store_10 : decode cX7_store 10 = .ok (.if_icmp .le 4, 3) := by decide +kernel
theorem dX7_store_13 : decode cX7_store 13 = .ok (.return_, 1) := by decide +kernel
theorem dX7_store_14 : decode cX7_store 14 = .ok (.aload_n 1, 1) := by decide +kernel
theorem dX7_store_15 : decode cX7_store 15 = .ok (.iload_n 2, 1) := by decide +kernel
theorem dX7_store_16 : decode cX7_store 16 = .ok (.aload_n 0, 1) := by decide +kernel
theorem dX7_store_17 : decode cX7_store 17 = .ok (.getfield 9, 3) := by decide +kernel
theorem dX7_store_20 : decode cX7_store 20 = .ok (.iastore, 1) := by decide +kernel
theorem dX7_store_21 : decode cX7_store 21 = .ok (.aload_n 1, 1) := by decide +kernel
theorem dX7_store_22 : decode cX7_store 22 = .ok (.iload_n 2, 1) := by decide +kernel
theorem dX7_store_23 : decode cX7_store 23 = .ok (.iconst 1, 1) := by decide +kernel
theorem dX7_store_24 : decode cX7_store 24 = .ok (.iadd, 1) := by decide +kernel
theorem dX7_store_25 : decode cX7_store 25 = .ok (.aload_n 0, 1) := by decide +kernel
theorem dX7_store_26 : decode cX7_store 26 = .ok (.getfield 15, 3) := by decide +kernel
theorem dX7_store_29 : decode cX7_store 29 = .ok (.iastore, 1) := by decide +kernel
theorem dX7_store_30 : decode cX7_store 30 = .ok (.iconst 0, 1) := by decide +kernel
theorem dX7_store_31 : decode cX7_store 31 = .ok (.istore_n 3, 1) := by decide +kernel
theorem dX7_store_32 : decode cX7_store 32 = .ok (.iload_n 3, 1) := by decide +kernel
theorem dX7_store_33 : decode cX7_store 33 = .ok (.bipush 9, 2) := by decide +kernel
theorem dX7_store_35 : decode cX7_store 35 = .ok (.if_icmp .ge 64, 3) := by decide +kernel
theorem dX7_store_38 : decode cX7_store 38 = .ok (.iload_n 2, 1) := by decide +kernel
theorem dX7_store_39 : decode cX7_store 39 = .ok (.iconst 2, 1) := by decide +kernel
theorem dX7_store_40 : decode cX7_store 40 = .ok (.iadd, 1) := by decide +kernel
theorem dX7_store_41 : decode cX7_store 41 = .ok (.iconst 4, 1) := by decide +kernel
theorem dX7_store_42 : decode cX7_store 42 = .ok (.iload_n 3, 1) := by decide +kernel
theorem dX7_store_43 : decode cX7_store 43 = .ok (.imul, 1) := by decide +kernel
theorem dX7_store_44 : decode cX7_store 44 = .ok (.iadd, 1) := by decide +kernel
theorem dX7_store_45 : decode cX7_store 45 = .ok (.istore 4, 2) := by decide +kernel
theorem dX7_store_47 : decode cX7_store 47 = .ok (.aload_n 1, 1) := by decide +kernel
theorem dX7_store_48 : decode cX7_store 48 = .ok (.iload 4, 2) := by decide +kernel
theorem dX7_store_50 : decode cX7_store 50 = .ok (.aload_n 0, 1) := by decide +kernel
theorem dX7_store_51 : decode cX7_store 51 = .ok (.getfield 18, 3) := by decide +kernel
theorem dX7_store_54 : decode cX7_store 54 = .ok (.iload_n 3, 1) := by decide +kernel
theorem dX7_store_55 : decode cX7_store 55 = .ok (.iaload, 1) := by decide +kernel
theorem dX7_store_56 : decode cX7_store 56 = .ok (.iastore, 1) := by decide +kernel
theorem dX7_store_57 : decode cX7_store 57 = .ok (.aload_n 1, 1) := by decide +kernel
theorem dX7_store_58 : decode cX7_store 58 = .ok (.iload 4, 2) := by decide +kernel
theorem dX7_store_60 : decode cX7_store 60 = .ok (.iconst 1, 1) := by decide +kernel
theorem dX7_store_61 : decode cX7_store 61 = .ok (.iadd, 1) := by decide +kernel
theorem dX7_store_62 : decode cX7_store 62 = .ok (.aload_n 0, 1) := by decide +kernel
theorem dX7_store_63 : decode cX7_store 63 = .ok (.getfield 22, 3) := by decide +kernel
theorem dX7_store_66 : decode cX7_store 66 = .ok (.iload_n 3, 1) := by decide +kernel
theorem dX7_store_67 : decode cX7_store 67 = .ok (.iaload, 1) := by decide +kernel
theorem dX7_store_68 : decode cX7_store 68 = .ok (.iastore, 1) := by decide +kernel
theorem dX7_store_69 : decode cX7_store 69 = .ok (.aload_n 1, 1) := by decide +kernel
theorem dX7_store_70 : decode cX7_store 70 = .ok (.iload 4, 2) := by decide +kernel
theorem dX7_store_72 : decode cX7_store 72 = .ok (.iconst 2, 1) := by decide +kernel
theorem dX7_store_73 : decode cX7_store 73 = .ok (.iadd, 1) := by decide +kernel
theorem dX7_store_74 : decode cX7_store 74 = .ok (.aload_n 0, 1) := by decide +kernel
theorem dX7_store_75 : decode cX7_store 75 = .ok (.getfield 25, 3) := by decide +kernel
theorem dX7_store_78 : decode cX7_store 78 = .ok (.iload_n 3, 1) := by decide +kernel
theorem dX7_store_79 : decode cX7_store 79 = .ok (.iaload, 1) := by decide +kernel
theorem dX7_store_80 : decode cX7_store 80 = .ok (.iastore, 1) := by decide +kernel
theorem dX7_store_81 : decode cX7_store 81 = .ok (.aload_n 1, 1) := by decide +kernel
theorem dX7_store_82 : decode cX7_store 82 = .ok (.iload 4, 2) := by decide +kernel
theorem dX7_store_84 : decode cX7_store 84 = .ok (.iconst 3, 1) := by decide +kernel
theorem dX7_store_85 : decode cX7_store 85 = .ok (.iadd, 1) := by decide +kernel
theorem dX7_store_86 : decode cX7_store 86 = .ok (.aload_n 0, 1) := by decide +kernel
theorem dX7_store_87 : decode cX7_store 87 = .ok (.getfield 28, 3) := by decide +kernel
theorem dX7_store_90 : decode cX7_store 90 = .ok (.iload_n 3, 1) := by decide +kernel
theorem dX7_store_91 : decode cX7_store 91 = .ok (.iaload, 1) := by decide +kernel
theorem dX7_store_92 : decode cX7_store 92 = .ok (.iastore, 1) := by decide +kernel
theorem dX7_store_93 : decode cX7_store 93 = .ok (.iinc 3 1, 3) := by decide +kernel
theorem dX7_store_96 : decode cX7_store 96 = .ok (.goto (-64), 3) := by decide +kernel
theorem dX7_store_99 : decode cX7_store 99 = .ok (.return_, 1) := by decide +kernel
theorem dX7_load_0 : decode cX7_load 0 = .ok (.iload_n 2, 1) := by decide +kernel
theorem dX7_load_1 : decode cX7_load 1 = .ok (.ifCond .lt 12, 3) := by decide +kernel
theorem dX7_load_4 : decode cX7_load 4 = .ok (.iload_n 2, 1) := by decide +kernel
theorem dX7_load_5 : decode cX7_load 5 = .ok (.aload_n 1, 1) := by decide +kernel
theorem dX7_load_6 : decode cX7_load 6 = .ok (.arraylength, 1) := by decide +kernel
theorem dX7_load_7 : decode cX7_load 7 = .ok (.bipush 38, 2) := by decide +kernel
theorem dX7_load_9 : decode cX7_load 9 = .ok (.isub, 1) := by decide +kernel
theorem dX7_load_10 : decode cX7_load 10 = .ok (.if_icmp .le 4, 3) := by decide +kernel
theorem dX7_load_13 : decode cX7_load 13 = .ok (.return_, 1) := by decide +kernel
theorem dX7_load_14 : decode cX7_load 14 = .ok (.aload_n 0, 1) := by decide +kernel
theorem dX7_load_15 : decode cX7_load 15 = .ok (.aload_n 1, 1) := by decide +kernel
theorem dX7_load_16 : decode cX7_load 16 = .ok (.iload_n 2, 1) := by decide +kernel
theorem dX7_load_17 : decode cX7_load 17 = .ok (.iaload, 1) := by decide +kernel
theorem dX7_load_18 : decode cX7_load 18 = .ok (.putfield 9, 3) := by decide +kernel
theorem dX7_load_21 : decode cX7_load 21 = .ok (.aload_n 0, 1) := by decide +kernel
theorem dX7_load_22 : decode cX7_load 22 = .ok (.aload_n 1, 1) := by decide +kernel
theorem dX7_load_23 : decode cX7_load 23 = .ok (.iload_n 2, 1) := by decide +kernel
theorem dX7_load_24 : decode cX7_load 24 = .ok (.iconst 1, 1) := by decide +kernel
theorem dX7_load_25 : decode cX7_load 25 = .ok (.iadd, 1) := by decide +kernel
theorem dX7_load_26 : decode cX7_load 26 = .ok (.iaload, 1) := by decide +kernel
theorem dX7_load_27 : decode cX7_load 27 = .ok (.putfield 15, 3) := by decide +kernel
theorem dX7_load_30 : decode cX7_load 30 = .ok (.iconst 0, 1) := by decide +kernel
theorem dX7_load_31 : decode cX7_load 31 = .ok (.istore_n 3, 1) := by decide +kernel
theorem dX7_load_32 : decode cX7_load 32 = .ok (.iload_n 3, 1) := by decide +kernel
theorem dX7_load_33 : decode cX7_load 33 = .ok (.bipush 9, 2) := by decide +kernel
theorem dX7_load_35 : decode cX7_load 35 = .ok (.if_icmp .ge 64, 3) := by decide +kernel
theorem dX7_load_38 : decode cX7_load 38 = .ok (.iload_n 2, 1) := by decide +kernel
theorem dX7_load_39 : decode cX7_load 39 = .ok (.iconst 2, 1) := by decide +kernel
theorem dX7_load_40 : decode cX7_load 40 = .ok (.iadd, 1) := by decide +kernel
theorem dX7_load_41 : decode cX7_load 41 = .ok (.iconst 4, 1) := by decide +kernel
theorem dX7_load_42 : decode cX7_load 42 = .ok (.iload_n 3, 1) := by decide +kernel
theorem dX7_load_43 : decode cX7_load 43 = .ok (.imul, 1) := by decide +kernel
theorem dX7_load_44 : decode cX7_load 44 = .ok (.iadd, 1) := by decide +kernel
theorem dX7_load_45 : decode cX7_load 45 = .ok (.istore 4, 2) := by decide +kernel
theorem dX7_load_47 : decode cX7_load 47 = .ok (.aload_n 0, 1) := by decide +kernel
theorem dX7_load_48 : decode cX7_load 48 = .ok (.getfield 18, 3) := by decide +kernel
theorem dX7_load_51 : decode cX7_load 51 = .ok (.iload_n 3, 1) := by decide +kernel
theorem dX7_load_52 : decode cX7_load 52 = .ok (.aload_n 1, 1) := by decide +kernel
theorem dX7_load_53 : decode cX7_load 53 = .ok (.iload 4, 2) := by decide +kernel
theorem dX7_load_55 : decode cX7_load 55 = .ok (.iaload, 1) := by decide +kernel
theorem dX7_load_56 : decode cX7_load 56 = .ok (.iastore, 1) := by decide +kernel
theorem dX7_load_57 : decode cX7_load 57 = .ok (.aload_n 0, 1) := by decide +kernel
theorem dX7_load_58 : decode cX7_load 58 = .ok (.getfield 22, 3) := by decide +kernel
theorem dX7_load_61 : decode cX7_load 61 = .ok (.iload_n 3, 1) := by decide +kernel
theorem dX7_load_62 : decode cX7_load 62 = .ok (.aload_n 1, 1) := by decide +kernel
theorem dX7_load_63 : decode cX7_load 63 = .ok (.iload 4, 2) := by decide +kernel
theorem dX7_load_65 : decode cX7_load 65 = .ok (.iconst 1, 1) := by decide +kernel
theorem dX7_load_66 : decode cX7_load 66 = .ok (.iadd, 1) := by decide +kernel
theorem dX7_load_67 : decode cX7_load 67 = .ok (.iaload, 1) := by decide +kernel
theorem dX7_load_68 : decode cX7_load 68 = .ok (.iastore, 1) := by decide +kernel
theorem dX7_load_69 : decode cX7_load 69 = .ok (.aload_n 0, 1) := by decide +kernel
theorem dX7_load_70 : decode cX7_load 70 = .ok (.getfield 25, 3) := by decide +kernel
theorem dX7_load_73 : decode cX7_load 73 = .ok (.iload_n 3, 1) := by decide +kernel
theorem dX7_load_74 : decode cX7_load 74 = .ok (.aload_n 1, 1) := by decide +kernel
theorem dX7_load_75 : decode cX7_load 75 = .ok (.iload 4, 2) := by decide +kernel
theorem dX7_load_77 : decode cX7_load 77 = .ok (.iconst 2, 1) := by decide +kernel
theorem dX7_load_78 : decode cX7_load 78 = .ok (.iadd, 1) := by decide +kernel
theorem dX7_load_79 : decode cX7_load 79 = .ok (.iaload, 1) := by decide +kernel
theorem dX7_load_80 : decode cX7_load 80 = .ok (.iastore, 1) := by decide +kernel
theorem dX7_load_81 : decode cX7_load 81 = .ok (.aload_n 0, 1) := by decide +kernel
theorem dX7_load_82 : decode cX7_load 82 = .ok (.getfield 28, 3) := by decide +kernel
theorem dX7_load_85 : decode cX7_load 85 = .ok (.iload_n 3, 1) := by decide +kernel
theorem dX7_load_86 : decode cX7_load 86 = .ok (.aload_n 1, 1) := by decide +kernel
theorem dX7_load_87 : decode cX7_load 87 = .ok (.iload 4, 2) := by decide +kernel
theorem dX7_load_89 : decode cX7_load 89 = .ok (.iconst 3, 1) := by decide +kernel
theorem dX7_load_90 : decode cX7_load 90 = .ok (.iadd, 1) := by decide +kernel
theorem dX7_load_91 : decode cX7_load 91 = .ok (.iaload, 1) := by decide +kernel
theorem dX7_load_92 : decode cX7_load 92 = .ok (.iastore, 1) := by decide +kernel
theorem dX7_load_93 : decode cX7_load 93 = .ok (.iinc 3 1, 3) := by decide +kernel
theorem dX7_load_96 : decode cX7_load 96 = .ok (.goto (-64), 3) := by decide +kernel
theorem dX7_load_99 : decode cX7_load 99 = .ok (.return_, 1) := by decide +kernel
theorem dX9_init_0 : decode cX9_init 0 = .ok (.aload_n 0, 1) := by decide +kernel
theorem dX9_init_1 : decode cX9_init 1 = .ok (.invokespecial 3, 3) := by decide +kernel
theorem dX9_init_4 : decode cX9_init 4 = .ok (.aload_n 0, 1) := by decide +kernel
theorem dX9_init_5 : decode cX9_init 5 = .ok (.iconst 0, 1) := by decide +kernel
theorem dX9_init_6 : decode cX9_init 6 = .ok (.putfield 9, 3) := by decide +kernel
theorem dX9_init_9 : decode cX9_init 9 = .ok (.aload_n 0, 1) := by decide +kernel
theorem dX9_init_10 : decode cX9_init 10 = .ok (.bipush 9, 2) := by decide +kernel
theorem dX9_init_12 : decode cX9_init 12 = .ok (.newarray .int, 2) := by decide +kernel
theorem dX9_init_14 : decode cX9_init 14 = .ok (.putfield 15, 3) := by decide +kernel
theorem dX9_init_17 : decode cX9_init 17 = .ok (.aload_n 0, 1) := by decide +kernel
theorem dX9_init_18 : decode cX9_init 18 = .ok (.bipush 9, 2) := by decide +kernel
theorem dX9_init_20 : decode cX9_init 20 = .ok (.newarray .int, 2) := by decide +kernel
theorem dX9_init_22 : decode cX9_init 22 = .ok (.putfield 19, 3) := by decide +kernel
theorem dX9_init_25 : decode cX9_init 25 = .ok (.aload_n 0, 1) := by decide +kernel
theorem dX9_init_26 : decode cX9_init 26 = .ok (.bipush 9, 2) := by decide +kernel
theorem dX9_init_28 : decode cX9_init 28 = .ok (.newarray .int, 2) := by decide +kernel
theorem dX9_init_30 : decode cX9_init 30 = .ok (.putfield 22, 3) := by decide +kernel
theorem dX9_init_33 : decode cX9_init 33 = .ok (.aload_n 0, 1) := by decide +kernel
theorem dX9_init_34 : decode cX9_init 34 = .ok (.bipush 9, 2) := by decide +kernel
theorem dX9_init_36 : decode cX9_init 36 = .ok (.newarray .int, 2) := by decide +kernel
theorem dX9_init_38 : decode cX9_init 38 = .ok (.putfield 25, 3) := by decide +kernel
theorem dX9_init_41 : decode cX9_init 41 = .ok (.aload_n 0, 1) := by decide +kernel
theorem dX9_init_42 : decode cX9_init 42 = .ok (.iconst 0, 1) := by decide +kernel
theorem dX9_init_43 : decode cX9_init 43 = .ok (.putfield 28, 3) := by decide +kernel
theorem dX9_init_46 : decode cX9_init 46 = .ok (.aload_n 0, 1) := by decide +kernel
theorem dX9_init_47 : decode cX9_init 47 = .ok (.bipush 60, 2) := by decide +kernel
theorem dX9_init_49 : decode cX9_init 49 = .ok (.putfield 31, 3) := by decide +kernel
theorem dX9_init_52 : decode cX9_init 52 = .ok (.aload_n 0, 1) := by decide +kernel
theorem dX9_init_53 : decode cX9_init 53 = .ok (.iconst 3, 1) := by decide +kernel
theorem dX9_init_54 : decode cX9_init 54 = .ok (.putfield 34, 3) := by decide +kernel
theorem dX9_init_57 : decode cX9_init 57 = .ok (.aload_n 0, 1) := by decide +kernel
theorem dX9_init_58 : decode cX9_init 58 = .ok (.iconst 0, 1) := by decide +kernel
theorem dX9_init_59 : decode cX9_init 59 = .ok (.putfield 37, 3) := by decide +kernel
theorem dX9_init_62 : decode cX9_init 62 = .ok (.aload_n 0, 1) := by decide +kernel
theorem dX9_init_63 : decode cX9_init 63 = .ok (.bipush 8, 2) := by decide +kernel
theorem dX9_init_65 : decode cX9_init 65 = .ok (.newarray .int, 2) := by decide +kernel
theorem dX9_init_67 : decode cX9_init 67 = .ok (.putfield 40, 3) := by decide +kernel
theorem dX9_init_70 : decode cX9_init 70 = .ok (.aload_n 0, 1) := by decide +kernel
theorem dX9_init_71 : decode cX9_init 71 = .ok (.new 43, 3) := by decide +kernel
theorem dX9_init_74 : decode cX9_init 74 = .ok (.dup, 1) := by decide +kernel
theorem dX9_init_75 : decode cX9_init 75 = .ok (.invokespecial 45, 3) := by decide +kernel
theorem dX9_init_78 : decode cX9_init 78 = .ok (.putfield 46, 3) := by decide +kernel
theorem dX9_init_81 : decode cX9_init 81 = .ok (.return_, 1) := by decide +kernel
theorem dX9_clear_0 : decode cX9_clear 0 = .ok (.aload_n 0, 1) := by decide +kernel
theorem dX9_clear_1 : decode cX9_clear 1 = .ok (.iconst 0, 1) := by decide +kernel
theorem dX9_clear_2 : decode cX9_clear 2 = .ok (.putfield 9, 3) := by decide +kernel
theorem dX9_clear_5 : decode cX9_clear 5 = .ok (.aload_n 0, 1) := by decide +kernel
theorem dX9_clear_6 : decode cX9_clear 6 = .ok (.iconst 0, 1) := by decide +kernel
theorem dX9_clear_7 : decode cX9_clear 7 = .ok (.putfield 28, 3) := by decide +kernel
theorem dX9_clear_10 : decode cX9_clear 10 = .ok (.aload_n 0, 1) := by decide +kernel
theorem dX9_clear_11 : decode cX9_clear 11 = .ok (.bipush 60, 2) := by decide +kernel
theorem dX9_clear_13 : decode cX9_clear 13 = .ok (.putfield 31, 3) := by decide +kernel
theorem dX9_clear_16 : decode cX9_clear 16 = .ok (.aload_n 0, 1) := by decide +kernel
theorem dX9_clear_17 : decode cX9_clear 17 = .ok (.iconst 3, 1) := by decide +kernel
theorem dX9_clear_18 : decode cX9_clear 18 = .ok (.putfield 34, 3) := by decide +kernel
theorem dX9_clear_21 : decode cX9_clear 21 = .ok (.aload_n 0, 1) := by decide +kernel
theorem dX9_clear_22 : decode cX9_clear 22 = .ok (.iconst 0, 1) := by decide +kernel
theorem dX9_clear_23 : decode cX9_clear 23 = .ok (.putfield 37, 3) := by decide +kernel
theorem dX9_clear_26 : decode cX9_clear 26 = .ok (.aload_n 0, 1) := by decide +kernel
theorem dX9_clear_27 : decode cX9_clear 27 = .ok (.getfield 46, 3) := by decide +kernel
theorem dX9_clear_30 : decode cX9_clear 30 = .ok (.iconst 0, 1) := by decide +kernel
theorem dX9_clear_31 : decode cX9_clear 31 = .ok (.putfield 50, 3) := by decide +kernel
theorem dX9_clear_34 : decode cX9_clear 34 = .ok (.return_, 1) := by decide +kernel
theorem dX9_copy_0 : decode cX9_copy 0 = .ok (.aload_n 0, 1) := by decide +kernel
theorem dX9_copy_1 : decode cX9_copy 1 = .ok (.aload_n 1, 1) := by decide +kernel
theorem dX9_copy_2 : decode cX9_copy 2 = .ok (.getfield 9, 3) := by decide +kernel
theorem dX9_copy_5 : decode cX9_copy 5 = .ok (.putfield 9, 3) := by decide +kernel
theorem dX9_copy_8 : decode cX9_copy 8 = .ok (.aload_n 0, 1) := by decide +kernel
theorem dX9_copy_9 : decode cX9_copy 9 = .ok (.aload_n 1, 1) := by decide +kernel
theorem dX9_copy_10 : decode cX9_copy 10 = .ok (.getfield 28, 3) := by decide +kernel
theorem dX9_copy_13 : decode cX9_copy 13 = .ok (.putfield 28, 3) := by decide +kernel
theorem dX9_copy_16 : decode cX9_copy 16 = .ok (.aload_n 0, 1) := by decide +kernel
theorem dX9_copy_17 : decode cX9_copy 17 = .ok (.aload_n 1, 1) := by decide +kernel
theorem dX9_copy_18 : decode cX9_copy 18 = .ok (.getfield 31, 3) := by decide +kernel
theorem dX9_copy_21 : decode cX9_copy 21 = .ok (.putfield 31, 3) := by decide +kernel
theorem dX9_copy_24 : decode cX9_copy 24 = .ok (.aload_n 0, 1) := by decide +kernel
theorem dX9_copy_25 : decode cX9_copy 25 = .ok (.aload_n 1, 1) := by decide +kernel
theorem dX9_copy_26 : decode cX9_copy 26 = .ok (.getfield 34, 3) := by decide +kernel
theorem dX9_copy_29 : decode cX9_copy 29 = .ok (.putfield 34, 3) := by decide +kernel
theorem dX9_copy_32 : decode cX9_copy 32 = .ok (.aload_n 0, 1) := by decide +kernel
theorem dX9_copy_33 : decode cX9_copy 33 = .ok (.aload_n 1, 1) := by decide +kernel
theorem dX9_copy_34 : decode cX9_copy 34 = .ok (.getfield 37, 3) := by decide +kernel
theorem dX9_copy_37 : decode cX9_copy 37 = .ok (.putfield 37, 3) := by decide +kernel
theorem dX9_copy_40 : decode cX9_copy 40 = .ok (.aload_n 1, 1) := by decide +kernel
theorem dX9_copy_41 : decode cX9_copy 41 = .ok (.getfield 15, 3) := by decide +kernel
theorem dX9_copy_44 : decode cX9_copy 44 = .ok (.aload_n 0, 1) := by decide +kernel
theorem dX9_copy_45 : decode cX9_copy 45 = .ok (.getfield 15, 3) := by decide +kernel
theorem dX9_copy_48 : decode cX9_copy 48 = .ok (.invokestatic 53, 3) := by decide +kernel
theorem dX9_copy_51 : decode cX9_copy 51 = .ok (.aload_n 1, 1) := by decide +kernel
theorem dX9_copy_52 : decode cX9_copy 52 = .ok (.getfield 19, 3) := by decide +kernel
theorem dX9_copy_55 : decode cX9_copy 55 = .ok (.aload_n 0, 1) := by decide +kernel
theorem dX9_copy_56 : decode cX9_copy 56 = .ok (.getfield 19, 3) := by decide +kernel
theorem dX9_copy_59 : decode cX9_copy 59 = .ok (.invokestatic 53, 3) := by decide +kernel
theorem dX9_copy_62 : decode cX9_copy 62 = .ok (.aload_n 1, 1) := by decide +kernel
theorem dX9_copy_63 : decode cX9_copy 63 = .ok (.getfield 22, 3) := by decide +kernel
theorem dX9_copy_66 : decode cX9_copy 66 = .ok (.aload_n 0, 1) := by decide +kernel
theorem dX9_copy_67 : decode cX9_copy 67 = .ok (.getfield 22, 3) := by decide +kernel
theorem dX9_copy_70 : decode cX9_copy 70 = .ok (.invokestatic 53, 3) := by decide +kernel
theorem dX9_copy_73 : decode cX9_copy 73 = .ok (.aload_n 1, 1) := by decide +kernel
theorem dX9_copy_74 : decode cX9_copy 74 = .ok (.getfield 25, 3) := by decide +kernel
theorem dX9_copy_77 : decode cX9_copy 77 = .ok (.aload_n 0, 1) := by decide +kernel
theorem dX9_copy_78 : decode cX9_copy 78 = .ok (.getfield 25, 3) := by decide +kernel
theorem dX9_copy_81 : decode cX9_copy 81 = .ok (.invokestatic 53, 3) := by decide +kernel
theorem dX9_copy_84 : decode cX9_copy 84 = .ok (.aload_n 1, 1) := by decide +kernel
theorem dX9_copy_85 : decode cX9_copy 85 = .ok (.getfield 40, 3) := by decide +kernel
theorem dX9_copy_88 : decode cX9_copy 88 = .ok (.iconst 0, 1) := by decide +kernel
theorem dX9_copy_89 : decode cX9_copy 89 = .ok (.aload_n 0, 1) := by decide +kernel
theorem dX9_copy_90 : decode cX9_copy 90 = .ok (.getfield 40, 3) := by decide +kernel
theorem dX9_copy_93 : decode cX9_copy 93 = .ok (.iconst 0, 1) := by decide +kernel
theorem dX9_copy_94 : decode cX9_copy 94 = .ok (.bipush 8, 2) := by decide +kernel
theorem dX9_copy_96 : decode cX9_copy 96 = .ok (.invokestatic 57, 3) := by decide +kernel
theorem dX9_copy_99 : decode cX9_copy 99 = .ok (.aload_n 0, 1) := by decide +kernel
theorem dX9_copy_100 : decode cX9_copy 100 = .ok (.getfield 46, 3) := by decide +kernel
theorem dX9_copy_103 : decode cX9_copy 103 = .ok (.aload_n 1, 1) := by decide +kernel
theorem dX9_copy_104 : decode cX9_copy 104 = .ok (.getfield 46, 3) := by decide +kernel
theorem dX9_copy_107 : decode cX9_copy 107 = .ok (.invokevirtual 63, 3) := by decide +kernel
theorem dX9_copy_110 : decode cX9_copy 110 = .ok (.return_, 1) := by decide +kernel
theorem dX9_all_0 : decode cX9_all 0 = .ok (.iconst 1, 1) := by decide +kernel
theorem dX9_all_1 : decode cX9_all 1 = .ok (.aload_n 0, 1) := by decide +kernel
theorem dX9_all_2 : decode cX9_all 2 = .ok (.getfield 9, 3) := by decide +kernel
theorem dX9_all_5 : decode cX9_all 5 = .ok (.ishl, 1) := by decide +kernel
theorem dX9_all_6 : decode cX9_all 6 = .ok (.iconst 1, 1) := by decide +kernel
theorem dX9_all_7 : decode cX9_all 7 = .ok (.isub, 1) := by decide +kernel
theorem dX9_all_8 : decode cX9_all 8 = .ok (.ireturn, 1) := by decide +kernel
theorem dX9_mistOf_0 : decode cX9_mistOf 0 = .ok (.aload_n 0, 1) := by decide +kernel
theorem dX9_mistOf_1 : decode cX9_mistOf 1 = .ok (.getfield 37, 3) := by decide +kernel
theorem dX9_mistOf_4 : decode cX9_mistOf 4 = .ok (.iconst 1, 1) := by decide +kernel
theorem dX9_mistOf_5 : decode cX9_mistOf 5 = .ok (.if_icmp .lt 16, 3) := by decide +kernel
theorem dX9_mistOf_8 : decode cX9_mistOf 8 = .ok (.aload_n 0, 1) := by decide +kernel
theorem dX9_mistOf_9 : decode cX9_mistOf 9 = .ok (.getfield 37, 3) := by decide +kernel
theorem dX9_mistOf_12 : decode cX9_mistOf 12 = .ok (.bipush 8, 2) := by decide +kernel
theorem dX9_mistOf_14 : decode cX9_mistOf 14 = .ok (.if_icmp .gt 7, 3) := by decide +kernel
theorem dX9_mistOf_17 : decode cX9_mistOf 17 = .ok (.iload_n 1, 1) := by decide +kernel
theorem dX9_mistOf_18 : decode cX9_mistOf 18 = .ok (.ifCond .ge 5, 3) := by decide +kernel
theorem dX9_mistOf_21 : decode cX9_mistOf 21 = .ok (.iconst 0, 1) := by decide +kernel
theorem dX9_mistOf_22 : decode cX9_mistOf 22 = .ok (.ireturn, 1) := by decide +kernel
theorem dX9_mistOf_23 : decode cX9_mistOf 23 = .ok (.aload_n 0, 1) := by decide +kernel
theorem dX9_mistOf_24 : decode cX9_mistOf 24 = .ok (.getfield 40, 3) := by decide +kernel
theorem dX9_mistOf_27 : decode cX9_mistOf 27 = .ok (.iload_n 1, 1) := by decide +kernel
theorem dX9_mistOf_28 : decode cX9_mistOf 28 = .ok (.aload_n 0, 1) := by decide +kernel
theorem dX9_mistOf_29 : decode cX9_mistOf 29 = .ok (.getfield 37, 3) := by decide +kernel
theorem dX9_mistOf_32 : decode cX9_mistOf 32 = .ok (.irem, 1) := by decide +kernel
theorem dX9_mistOf_33 : decode cX9_mistOf 33 = .ok (.iaload, 1) := by decide +kernel
theorem dX9_mistOf_34 : decode cX9_mistOf 34 = .ok (.ireturn, 1) := by decide +kernel
theorem dX9_away_0 : decode cX9_away 0 = .ok (.aload_n 0, 1) := by decide +kernel
theorem dX9_away_1 : decode cX9_away 1 = .ok (.getfield 15, 3) := by decide +kernel
theorem dX9_away_4 : decode cX9_away 4 = .ok (.iload_n 1, 1) := by decide +kernel
theorem dX9_away_5 : decode cX9_away 5 = .ok (.iaload, 1) := by decide +kernel
theorem dX9_away_6 : decode cX9_away 6 = .ok (.aload_n 0, 1) := by decide +kernel
theorem dX9_away_7 : decode cX9_away 7 = .ok (.getfield 15, 3) := by decide +kernel
theorem dX9_away_10 : decode cX9_away 10 = .ok (.iload_n 2, 1) := by decide +kernel
theorem dX9_away_11 : decode cX9_away 11 = .ok (.iaload, 1) := by decide +kernel
theorem dX9_away_12 : decode cX9_away 12 = .ok (.isub, 1) := by decide +kernel
theorem dX9_away_13 : decode cX9_away 13 = .ok (.invokestatic 67, 3) := by decide +kernel
theorem dX9_away_16 : decode cX9_away 16 = .ok (.ireturn, 1) := by decide +kernel
theorem dX9_isTaken_0 : decode cX9_isTaken 0 = .ok (.iconst 0, 1) := by decide +kernel
theorem dX9_isTaken_1 : decode cX9_isTaken 1 = .ok (.istore_n 2, 1) := by decide +kernel
theorem dX9_isTaken_2 : decode cX9_isTaken 2 = .ok (.iload_n 2, 1) := by decide +kernel
theorem dX9_isTaken_3 : decode cX9_isTaken 3 = .ok (.aload_n 0, 1) := by decide +kernel
theorem dX9_isTaken_4 : decode cX9_isTaken 4 = .ok (.getfield 9, 3) := by decide +kernel
theorem dX9_isTaken_7 : decode cX9_isTaken 7 = .ok (.if_icmp .ge 21, 3) := by decide +kernel
theorem dX9_isTaken_10 : decode cX9_isTaken 10 = .ok (.aload_n 0, 1) := by decide +kernel
theorem dX9_isTaken_11 : decode cX9_isTaken 11 = .ok (.getfield 15, 3) := by decide +kernel
theorem dX9_isTaken_14 : decode cX9_isTaken 14 = .ok (.iload_n 2, 1) := by decide +kernel
theorem dX9_isTaken_15 : decode cX9_isTaken 15 = .ok (.iaload, 1) := by decide +kernel
theorem dX9_isTaken_16 : decode cX9_isTaken 16 = .ok (.iload_n 1, 1) := by decide +kernel
theorem dX9_isTaken_17 : decode cX9_isTaken 17 = .ok (.if_icmp .ne 5, 3) := by decide +kernel
theorem dX9_isTaken_20 : decode cX9_isTaken 20 = .ok (.iconst 1, 1) := by decide +kernel
theorem dX9_isTaken_21 : decode cX9_isTaken 21 = .ok (.ireturn, 1) := by decide +kernel
theorem dX9_isTaken_22 : decode cX9_isTaken 22 = .ok (.iinc 2 1, 3) := by decide +kernel
theorem dX9_isTaken_25 : decode cX9_isTaken 25 = .ok (.goto (-23), 3) := by decide +kernel
theorem dX9_isTaken_28 : decode cX9_isTaken 28 = .ok (.iconst 0, 1) := by decide +kernel
theorem dX9_isTaken_29 : decode cX9_isTaken 29 = .ok (.ireturn, 1) := by decide +kernel
theorem dX10_init_0 : decode cX10_init 0 = .ok (.aload_n 0, 1) := by decide +kernel
theorem dX10_init_1 : decode cX10_init 1 = .ok (.invokespecial 3, 3) := by decide +kernel
theorem dX10_init_4 : decode cX10_init 4 = .ok (.aload_n 0, 1) := by decide +kernel
theorem dX10_init_5 : decode cX10_init 5 = .ok (.bipush 9, 2) := by decide +kernel
theorem dX10_init_7 : decode cX10_init 7 = .ok (.newarray .int, 2) := by decide +kernel
theorem dX10_init_9 : decode cX10_init 9 = .ok (.putfield 9, 3) := by decide +kernel
theorem dX10_init_12 : decode cX10_init 12 = .ok (.aload_n 0, 1) := by decide +kernel
theorem dX10_init_13 : decode cX10_init 13 = .ok (.aload_n 1, 1) := by decide +kernel
theorem dX10_init_14 : decode cX10_init 14 = .ok (.putfield 15, 3) := by decide +kernel
theorem dX10_init_17 : decode cX10_init 17 = .ok (.return_, 1) := by decide +kernel
theorem dX10_take_0 : decode cX10_take 0 = .ok (.iconst 0, 1) := by decide +kernel
theorem dX10_take_1 : decode cX10_take 1 = .ok (.istore_n 3, 1) := by decide +kernel
theorem dX10_take_2 : decode cX10_take 2 = .ok (.iload_n 3, 1) := by decide +kernel
theorem dX10_take_3 : decode cX10_take 3 = .ok (.aload_n 0, 1) := by decide +kernel
theorem dX10_take_4 : decode cX10_take 4 = .ok (.getfield 15, 3) := by decide +kernel
theorem dX10_take_7 : decode cX10_take 7 = .ok (.getfield 19, 3) := by decide +kernel
theorem dX10_take_10 : decode cX10_take 10 = .ok (.if_icmp .ge 21, 3) := by decide +kernel
theorem dX10_take_13 : decode cX10_take 13 = .ok (.aload_n 0, 1) := by decide +kernel
theorem dX10_take_14 : decode cX10_take 14 = .ok (.getfield 9, 3) := by decide +kernel
theorem dX10_take_17 : decode cX10_take 17 = .ok (.iload_n 3, 1) := by decide +kernel
theorem dX10_take_18 : decode cX10_take 18 = .ok (.aload_n 1, 1) := by decide +kernel
theorem dX10_take_19 : decode cX10_take 19 = .ok (.iload_n 3, 1) := by decide +kernel
theorem dX10_take_20 : decode cX10_take 20 = .ok (.iload_n 2, 1) := by decide +kernel
theorem dX10_take_21 : decode cX10_take 21 = .ok (.invokevirtual 25, 3) := by decide +kernel
theorem dX10_take_24 : decode cX10_take 24 = .ok (.iastore, 1) := by decide +kernel
theorem dX10_take_25 : decode cX10_take 25 = .ok (.iinc 3 1, 3) := by decide +kernel
theorem dX10_take_28 : decode cX10_take 28 = .ok (.goto (-26), 3) := by decide +kernel
theorem dX10_take_31 : decode cX10_take 31 = .ok (.return_, 1) := by decide +kernel
theorem dX10_withNext_0 : decode cX10_withNext 0 = .ok (.iload_n 1, 1) := by decide +kernel
theorem dX10_withNext_1 : decode cX10_withNext 1 = .ok (.istore_n 2, 1) := by decide +kernel
theorem dX10_withNext_2 : decode cX10_withNext 2 = .ok (.iconst 0, 1) := by decide +kernel
theorem dX10_withNext_3 : decode cX10_withNext 3 = .ok (.istore_n 3, 1) := by decide +kernel
theorem dX10_withNext_4 : decode cX10_withNext 4 = .ok (.iload_n 3, 1) := by decide +kernel
theorem dX10_withNext_5 : decode cX10_withNext 5 = .ok (.aload_n 0, 1) := by decide +kernel
theorem dX10_withNext_6 : decode cX10_withNext 6 = .ok (.getfield 15, 3) := by decide +kernel
theorem dX10_withNext_9 : decode cX10_withNext 9 = .ok (.getfield 19, 3) := by decide +kernel
theorem dX10_withNext_12 : decode cX10_withNext 12 = .ok (.if_icmp .ge 27, 3) := by decide +kernel
theorem dX10_withNext_15 : decode cX10_withNext 15 = .ok (.iload_n 1, 1) := by decide +kernel
theorem dX10_withNext_16 : decode cX10_withNext 16 = .ok (.iload_n 3, 1) := by decide +kernel
theorem dX10_withNext_17 : decode cX10_withNext 17 = .ok (.ishr, 1) := by decide +kernel
theorem dX10_withNext_18 : decode cX10_withNext 18 = .ok (.iconst 1, 1) := by decide +kernel
theorem dX10_withNext_19 : decode cX10_withNext 19 = .ok (.iand, 1) := by decide +kernel
theorem dX10_withNext_20 : decode cX10_withNext 20 = .ok (.iconst 1, 1) := by decide +kernel
theorem dX10_withNext_21 : decode cX10_withNext 21 = .ok (.if_icmp .ne 12, 3) := by decide +kernel
theorem dX10_withNext_24 : decode cX10_withNext 24 = .ok (.iload_n 2, 1) := by decide +kernel
theorem dX10_withNext_25 : decode cX10_withNext 25 = .ok (.aload_n 0, 1) := by decide +kernel
theorem dX10_withNext_26 : decode cX10_withNext 26 = .ok (.getfield 9, 3) := by decide +kernel
theorem dX10_withNext_29 : decode cX10_withNext 29 = .ok (.iload_n 3, 1) := by decide +kernel
theorem dX10_withNext_30 : decode cX10_withNext 30 = .ok (.iaload, 1) := by decide +kernel
theorem dX10_withNext_31 : decode cX10_withNext 31 = .ok (.ior, 1) := by decide +kernel
theorem dX10_withNext_32 : decode cX10_withNext 32 = .ok (.istore_n 2, 1) := by decide +kernel
theorem dX10_withNext_33 : decode cX10_withNext 33 = .ok (.iinc 3 1, 3) := by decide +kernel
theorem dX10_withNext_36 : decode cX10_withNext 36 = .ok (.goto (-32), 3) := by decide +kernel
theorem dX10_withNext_39 : decode cX10_withNext 39 = .ok (.iload_n 2, 1) := by decide +kernel
theorem dX10_withNext_40 : decode cX10_withNext 40 = .ok (.ireturn, 1) := by decide +kernel
theorem dX10_steps_0 : decode cX10_steps 0 = .ok (.iconst 1, 1) := by decide +kernel
theorem dX10_steps_1 : decode cX10_steps 1 = .ok (.iload_n 1, 1) := by decide +kernel
theorem dX10_steps_2 : decode cX10_steps 2 = .ok (.ishl, 1) := by decide +kernel
theorem dX10_steps_3 : decode cX10_steps 3 = .ok (.istore_n 3, 1) := by decide +kernel
theorem dX10_steps_4 : decode cX10_steps 4 = .ok (.iconst 0, 1) := by decide +kernel
theorem dX10_steps_5 : decode cX10_steps 5 = .ok (.istore 4, 2) := by decide +kernel
theorem dX10_steps_7 : decode cX10_steps 7 = .ok (.iload 4, 2) := by decide +kernel
theorem dX10_steps_9 : decode cX10_steps 9 = .ok (.bipush 9, 2) := by decide +kernel
theorem dX10_steps_11 : decode cX10_steps 11 = .ok (.if_icmp .ge 27, 3) := by decide +kernel
theorem dX10_steps_14 : decode cX10_steps 14 = .ok (.iload_n 3, 1) := by decide +kernel
theorem dX10_steps_15 : decode cX10_steps 15 = .ok (.iload_n 2, 1) := by decide +kernel
theorem dX10_steps_16 : decode cX10_steps 16 = .ok (.ishr, 1) := by decide +kernel
theorem dX10_steps_17 : decode cX10_steps 17 = .ok (.iconst 1, 1) := by decide +kernel
theorem dX10_steps_18 : decode cX10_steps 18 = .ok (.iand, 1) := by decide +kernel
theorem dX10_steps_19 : decode cX10_steps 19 = .ok (.iconst 1, 1) := by decide +kernel
theorem dX10_steps_20 : decode cX10_steps 20 = .ok (.if_icmp .ne 6, 3) := by decide +kernel
theorem dX10_steps_23 : decode cX10_steps 23 = .ok (.iload 4, 2) := by decide +kernel
theorem dX10_steps_25 : decode cX10_steps 25 = .ok (.ireturn, 1) := by decide +kernel
theorem dX10_steps_26 : decode cX10_steps 26 = .ok (.aload_n 0, 1) := by decide +kernel
theorem dX10_steps_27 : decode cX10_steps 27 = .ok (.iload_n 3, 1) := by decide +kernel
theorem dX10_steps_28 : decode cX10_steps 28 = .ok (.invokevirtual 31, 3) := by decide +kernel
theorem dX10_steps_31 : decode cX10_steps 31 = .ok (.istore_n 3, 1) := by decide +kernel
theorem dX10_steps_32 : decode cX10_steps 32 = .ok (.iinc 4 1, 3) := by decide +kernel
theorem dX10_steps_35 : decode cX10_steps 35 = .ok (.goto (-28), 3) := by decide +kernel
theorem dX10_steps_38 : decode cX10_steps 38 = .ok (.iconst (-1), 1) := by decide +kernel
theorem dX10_steps_39 : decode cX10_steps 39 = .ok (.ireturn, 1) := by decide +kernel
theorem dX10_parts_0 : decode cX10_parts 0 = .ok (.iconst 0, 1) := by decide +kernel
theorem dX10_parts_1 : decode cX10_parts 1 = .ok (.istore_n 1, 1) := by decide +kernel
theorem dX10_parts_2 : decode cX10_parts 2 = .ok (.iconst 0, 1) := by decide +kernel
theorem dX10_parts_3 : decode cX10_parts 3 = .ok (.istore_n 2, 1) := by decide +kernel
theorem dX10_parts_4 : decode cX10_parts 4 = .ok (.iconst 0, 1) := by decide +kernel
theorem dX10_parts_5 : decode cX10_parts 5 = .ok (.istore_n 3, 1) := by decide +kernel
theorem dX10_parts_6 : decode cX10_parts 6 = .ok (.iload_n 3, 1) := by decide +kernel
theorem dX10_parts_7 : decode cX10_parts 7 = .ok (.aload_n 0, 1) := by decide +kernel
theorem dX10_parts_8 : decode cX10_parts 8 = .ok (.getfield 15, 3) := by decide +kernel
theorem dX10_parts_11 : decode cX10_parts 11 = .ok (.getfield 19, 3) := by decide +kernel
theorem dX10_parts_14 : decode cX10_parts 14 = .ok (.if_icmp .ge 28, 3) := by decide +kernel
theorem dX10_parts_17 : decode cX10_parts 17 = .ok (.iload_n 2, 1) := by decide +kernel
theorem dX10_parts_18 : decode cX10_parts 18 = .ok (.iload_n 3, 1) := by decide +kernel
theorem dX10_parts_19 : decode cX10_parts 19 = .ok (.ishr, 1) := by decide +kernel
theorem dX10_parts_20 : decode cX10_parts 20 = .ok (.iconst 1, 1) := by decide +kernel
theorem dX10_parts_21 : decode cX10_parts 21 = .ok (.iand, 1) := by decide +kernel
theorem dX10_parts_22 : decode cX10_parts 22 = .ok (.ifCond .ne 14, 3) := by decide +kernel
theorem dX10_parts_25 : decode cX10_parts 25 = .ok (.iinc 1 1, 3) := by decide +kernel
theorem dX10_parts_28 : decode cX10_parts 28 = .ok (.iload_n 2, 1) := by decide +kernel
theorem dX10_parts_29 : decode cX10_parts 29 = .ok (.aload_n 0, 1) := by decide +kernel
theorem dX10_parts_30 : decode cX10_parts 30 = .ok (.iload_n 3, 1) := by decide +kernel
theorem dX10_parts_31 : decode cX10_parts 31 = .ok (.invokevirtual 35, 3) := by decide +kernel
theorem dX10_parts_34 : decode cX10_parts 34 = .ok (.ior, 1) := by decide +kernel
theorem dX10_parts_35 : decode cX10_parts 35 = .ok (.istore_n 2, 1) := by decide +kernel
theorem dX10_parts_36 : decode cX10_parts 36 = .ok (.iinc 3 1, 3) := by decide +kernel
theorem dX10_parts_39 : decode cX10_parts 39 = .ok (.goto (-33), 3) := by decide +kernel
theorem dX10_parts_42 : decode cX10_parts 42 = .ok (.iload_n 1, 1) := by decide +kernel
theorem dX10_parts_43 : decode cX10_parts 43 = .ok (.ireturn, 1) := by decide +kernel
theorem dX10_partOf_0 : decode cX10_partOf 0 = .ok (.iconst 1, 1) := by decide +kernel
theorem dX10_partOf_1 : decode cX10_partOf 1 = .ok (.iload_n 1, 1) := by decide +kernel
theorem dX10_partOf_2 : decode cX10_partOf 2 = .ok (.ishl, 1) := by decide +kernel
theorem dX10_partOf_3 : decode cX10_partOf 3 = .ok (.istore_n 2, 1) := by decide +kernel
theorem dX10_partOf_4 : decode cX10_partOf 4 = .ok (.iconst 0, 1) := by decide +kernel
theorem dX10_partOf_5 : decode cX10_partOf 5 = .ok (.istore_n 3, 1) := by decide +kernel
theorem dX10_partOf_6 : decode cX10_partOf 6 = .ok (.iload_n 3, 1) := by decide +kernel
theorem dX10_partOf_7 : decode cX10_partOf 7 = .ok (.bipush 9, 2) := by decide +kernel
theorem dX10_partOf_9 : decode cX10_partOf 9 = .ok (.if_icmp .ge 15, 3) := by decide +kernel
theorem dX10_partOf_12 : decode cX10_partOf 12 = .ok (.aload_n 0, 1) := by decide +kernel
theorem dX10_partOf_13 : decode cX10_partOf 13 = .ok (.iload_n 2, 1) := by decide +kernel
theorem dX10_partOf_14 : decode cX10_partOf 14 = .ok (.invokevirtual 31, 3) := by decide +kernel
theorem dX10_partOf_17 : decode cX10_partOf 17 = .ok (.istore_n 2, 1) := by decide +kernel
theorem dX10_partOf_18 : decode cX10_partOf 18 = .ok (.iinc 3 1, 3) := by decide +kernel
theorem dX10_partOf_21 : decode cX10_partOf 21 = .ok (.goto (-15), 3) := by decide +kernel
theorem dX10_partOf_24 : decode cX10_partOf 24 = .ok (.iload_n 2, 1) := by decide +kernel
theorem dX10_partOf_25 : decode cX10_partOf 25 = .ok (.ireturn, 1) := by decide +kernel
theorem dX10_watch_0 : decode cX10_watch 0 = .ok (.aload_n 0, 1) := by decide +kernel
theorem dX10_watch_1 : decode cX10_watch 1 = .ok (.getfield 15, 3) := by decide +kernel
theorem dX10_watch_4 : decode cX10_watch 4 = .ok (.invokevirtual 38, 3) := by decide +kernel
theorem dX10_watch_7 : decode cX10_watch 7 = .ok (.istore_n 1, 1) := by decide +kernel
theorem dX10_watch_8 : decode cX10_watch 8 = .ok (.iconst 0, 1) := by decide +kernel
theorem dX10_watch_9 : decode cX10_watch 9 = .ok (.istore_n 2, 1) := by decide +kernel
theorem dX10_watch_10 : decode cX10_watch 10 = .ok (.iload_n 2, 1) := by decide +kernel
theorem dX10_watch_11 : decode cX10_watch 11 = .ok (.aload_n 0, 1) := by decide +kernel
theorem dX10_watch_12 : decode cX10_watch 12 = .ok (.getfield 15, 3) := by decide +kernel
theorem dX10_watch_15 : decode cX10_watch 15 = .ok (.getfield 19, 3) := by decide +kernel
theorem dX10_watch_18 : decode cX10_watch 18 = .ok (.if_icmp .gt 41, 3) := by decide +kernel
theorem dX10_watch_21 : decode cX10_watch 21 = .ok (.iconst 0, 1) := by decide +kernel
theorem dX10_watch_22 : decode cX10_watch 22 = .ok (.istore_n 3, 1) := by decide +kernel
theorem dX10_watch_23 : decode cX10_watch 23 = .ok (.iload_n 3, 1) := by decide +kernel
theorem dX10_watch_24 : decode cX10_watch 24 = .ok (.iload_n 1, 1) := by decide +kernel
theorem dX10_watch_25 : decode cX10_watch 25 = .ok (.if_icmp .gt 28, 3) := by decide +kernel
theorem dX10_watch_28 : decode cX10_watch 28 = .ok (.iload_n 3, 1) := by decide +kernel
theorem dX10_watch_29 : decode cX10_watch 29 = .ok (.invokestatic 42, 3) := by decide +kernel
theorem dX10_watch_32 : decode cX10_watch 32 = .ok (.iload_n 2, 1) := by decide +kernel
theorem dX10_watch_33 : decode cX10_watch 33 = .ok (.if_icmp .ne 14, 3) := by decide +kernel
theorem dX10_watch_36 : decode cX10_watch 36 = .ok (.aload_n 0, 1) := by decide +kernel
theorem dX10_watch_37 : decode cX10_watch 37 = .ok (.iload_n 3, 1) := by decide +kernel
theorem dX10_watch_38 : decode cX10_watch 38 = .ok (.invokevirtual 31, 3) := by decide +kernel
theorem dX10_watch_41 : decode cX10_watch 41 = .ok (.iload_n 1, 1) := by decide +kernel
theorem dX10_watch_42 : decode cX10_watch 42 = .ok (.if_icmp .ne 5, 3) := by decide +kernel
theorem dX10_watch_45 : decode cX10_watch 45 = .ok (.iload_n 3, 1) := by decide +kernel
theorem dX10_watch_46 : decode cX10_watch 46 = .ok (.ireturn, 1) := by decide +kernel
theorem dX10_watch_47 : decode cX10_watch 47 = .ok (.iinc 3 1, 3) := by decide +kernel
theorem dX10_watch_50 : decode cX10_watch 50 = .ok (.goto (-27), 3) := by decide +kernel
theorem dX10_watch_53 : decode cX10_watch 53 = .ok (.iinc 2 1, 3) := by decide +kernel
theorem dX10_watch_56 : decode cX10_watch 56 = .ok (.goto (-46), 3) := by decide +kernel
theorem dX10_watch_59 : decode cX10_watch 59 = .ok (.iload_n 1, 1) := by decide +kernel
theorem dX10_watch_60 : decode cX10_watch 60 = .ok (.ireturn, 1) := by decide +kernel
theorem dX10_stare_0 : decode cX10_stare 0 = .ok (.iconst 0, 1) := by decide +kernel
theorem dX10_stare_1 : decode cX10_stare 1 = .ok (.istore_n 1, 1) := by decide +kernel
theorem dX10_stare_2 : decode cX10_stare 2 = .ok (.iconst (-1), 1) := by decide +kernel
theorem dX10_stare_3 : decode cX10_stare 3 = .ok (.istore_n 2, 1) := by decide +kernel
theorem dX10_stare_4 : decode cX10_stare 4 = .ok (.iconst 0, 1) := by decide +kernel
theorem dX10_stare_5 : decode cX10_stare 5 = .ok (.istore_n 3, 1) := by decide +kernel
theorem dX10_stare_6 : decode cX10_stare 6 = .ok (.iload_n 3, 1) := by decide +kernel
theorem dX10_stare_7 : decode cX10_stare 7 = .ok (.aload_n 0, 1) := by decide +kernel
theorem dX10_stare_8 : decode cX10_stare 8 = .ok (.getfield 15, 3) := by decide +kernel
theorem dX10_stare_11 : decode cX10_stare 11 = .ok (.getfield 19, 3) := by decide +kernel
theorem dX10_stare_14 : decode cX10_stare 14 = .ok (.if_icmp .ge 80, 3) := by decide +kernel
theorem dX10_stare_17 : decode cX10_stare 17 = .ok (.iload_n 3, 1) := by decide +kernel
theorem dX10_stare_18 : decode cX10_stare 18 = .ok (.iconst 1, 1) := by decide +kernel
theorem dX10_stare_19 : decode cX10_stare 19 = .ok (.iadd, 1) := by decide +kernel
theorem dX10_stare_20 : decode cX10_stare 20 = .ok (.istore 4, 2) := by decide +kernel
theorem dX10_stare_22 : decode cX10_stare 22 = .ok (.iload 4, 2) := by decide +kernel
theorem dX10_stare_24 : decode cX10_stare 24 = .ok (.aload_n 0, 1) := by decide +kernel
theorem dX10_stare_25 : decode cX10_stare 25 = .ok (.getfield 15, 3) := by decide +kernel
theorem dX10_stare_28 : decode cX10_stare 28 = .ok (.getfield 19, 3) := by decide +kernel
theorem dX10_stare_31 : decode cX10_stare 31 = .ok (.if_icmp .ge 57, 3) := by decide +kernel
theorem dX10_stare_34 : decode cX10_stare 34 = .ok (.aload_n 0, 1) := by decide +kernel
theorem dX10_stare_35 : decode cX10_stare 35 = .ok (.getfield 9, 3) := by decide +kernel
theorem dX10_stare_38 : decode cX10_stare 38 = .ok (.iload_n 3, 1) := by decide +kernel
theorem dX10_stare_39 : decode cX10_stare 39 = .ok (.iaload, 1) := by decide +kernel
theorem dX10_stare_40 : decode cX10_stare 40 = .ok (.iload 4, 2) := by decide +kernel
theorem dX10_stare_42 : decode cX10_stare 42 = .ok (.ishr, 1) := by decide +kernel
theorem dX10_stare_43 : decode cX10_stare 43 = .ok (.iconst 1, 1) := by decide +kernel
theorem dX10_stare_44 : decode cX10_stare 44 = .ok (.iand, 1) := by decide +kernel
theorem dX10_stare_45 : decode cX10_stare 45 = .ok (.iconst 1, 1) := by decide +kernel
theorem dX10_stare_46 : decode cX10_stare 46 = .ok (.if_icmp .ne 36, 3) := by decide +kernel
theorem dX10_stare_49 : decode cX10_stare 49 = .ok (.aload_n 0, 1) := by decide +kernel
theorem dX10_stare_50 : decode cX10_stare 50 = .ok (.getfield 15, 3) := by decide +kernel
theorem dX10_stare_53 : decode cX10_stare 53 = .ok (.iload_n 3, 1) := by decide +kernel
theorem dX10_stare_54 : decode cX10_stare 54 = .ok (.iload 4, 2) := by decide +kernel
theorem dX10_stare_56 : decode cX10_stare 56 = .ok (.invokevirtual 47, 3) := by decide +kernel
theorem dX10_stare_59 : decode cX10_stare 59 = .ok (.iload_n 1, 1) := by decide +kernel
theorem dX10_stare_60 : decode cX10_stare 60 = .ok (.if_icmp .le 22, 3) := by decide +kernel
theorem dX10_stare_63 : decode cX10_stare 63 = .ok (.aload_n 0, 1) := by decide +kernel
theorem dX10_stare_64 : decode cX10_stare 64 = .ok (.getfield 15, 3) := by decide +kernel
theorem dX10_stare_67 : decode cX10_stare 67 = .ok (.iload_n 3, 1) := by decide +kernel
theorem dX10_stare_68 : decode cX10_stare 68 = .ok (.iload 4, 2) := by decide +kernel
theorem dX10_stare_70 : decode cX10_stare 70 = .ok (.invokevirtual 47, 3) := by decide +kernel
theorem dX10_stare_73 : decode cX10_stare 73 = .ok (.istore_n 1, 1) := by decide +kernel
theorem dX10_stare_74 : decode cX10_stare 74 = .ok (.bipush 10, 2) := by decide +kernel
theorem dX10_stare_76 : decode cX10_stare 76 = .ok (.iload_n 3, 1) := by decide +kernel
theorem dX10_stare_77 : decode cX10_stare 77 = .ok (.imul, 1) := by decide +kernel
theorem dX10_stare_78 : decode cX10_stare 78 = .ok (.iload 4, 2) := by decide +kernel
theorem dX10_stare_80 : decode cX10_stare 80 = .ok (.iadd, 1) := by decide +kernel
theorem dX10_stare_81 : decode cX10_stare 81 = .ok (.istore_n 2, 1) := by decide +kernel
theorem dX10_stare_82 : decode cX10_stare 82 = .ok (.iinc 4 1, 3) := by decide +kernel
theorem dX10_stare_85 : decode cX10_stare 85 = .ok (.goto (-63), 3) := by decide +kernel
theorem dX10_stare_88 : decode cX10_stare 88 = .ok (.iinc 3 1, 3) := by decide +kernel
theorem dX10_stare_91 : decode cX10_stare 91 = .ok (.goto (-85), 3) := by decide +kernel
theorem dX10_stare_94 : decode cX10_stare 94 = .ok (.iload_n 2, 1) := by decide +kernel
theorem dX10_stare_95 : decode cX10_stare 95 = .ok (.ireturn, 1) := by decide +kernel
theorem dX10_longestLine_0 : decode cX10_longestLine 0 = .ok (.iconst 0, 1) := by decide +kernel
theorem dX10_longestLine_1 : decode cX10_longestLine 1 = .ok (.istore_n 1, 1) := by decide +kernel
theorem dX10_longestLine_2 : decode cX10_longestLine 2 = .ok (.iconst 0, 1) := by decide +kernel
theorem dX10_longestLine_3 : decode cX10_longestLine 3 = .ok (.istore_n 2, 1) := by decide +kernel
theorem dX10_longestLine_4 : decode cX10_longestLine 4 = .ok (.iconst (-1), 1) := by decide +kernel
theorem dX10_longestLine_5 : decode cX10_longestLine 5 = .ok (.istore_n 3, 1) := by decide +kernel
theorem dX10_longestLine_6 : decode cX10_longestLine 6 = .ok (.iconst 0, 1) := by decide +kernel
theorem dX10_longestLine_7 : decode cX10_longestLine 7 = .ok (.istore 4, 2) := by decide +kernel
theorem dX10_longestLine_9 : decode cX10_longestLine 9 = .ok (.iload 4, 2) := by decide +kernel
theorem dX10_longestLine_11 : decode cX10_longestLine 11 = .ok (.aload_n 0, 1) := by decide +kernel
theorem dX10_longestLine_12 : decode cX10_longestLine 12 = .ok (.getfield 15, 3) := by decide +kernel
theorem dX10_longestLine_15 : decode cX10_longestLine 15 = .ok (.getfield 19, 3) := by decide +kernel
theorem dX10_longestLine_18 : decode cX10_longestLine 18 = .ok (.if_icmp .ge 61, 3) := by decide +kernel
theorem dX10_longestLine_21 : decode cX10_longestLine 21 = .ok (.aload_n 0, 1) := by decide +kernel
theorem dX10_longestLine_22 : decode cX10_longestLine 22 = .ok (.iload_n 3, 1) := by decide +kernel
theorem dX10_longestLine_23 : decode cX10_longestLine 23 = .ok (.invokevirtual 50, 3) := by decide +kernel
theorem dX10_longestLine_26 : decode cX10_longestLine 26 = .ok (.istore 5, 2) := by decide +kernel
theorem dX10_longestLine_28 : decode cX10_longestLine 28 = .ok (.iload 5, 2) := by decide +kernel
theorem dX10_longestLine_30 : decode cX10_longestLine 30 = .ok (.iconst (-1), 1) := by decide +kernel
theorem dX10_longestLine_31 : decode cX10_longestLine 31 = .ok (.if_icmp .ne 5, 3) := by decide +kernel
theorem dX10_longestLine_34 : decode cX10_longestLine 34 = .ok (.iload_n 1, 1) := by decide +kernel
theorem dX10_longestLine_35 : decode cX10_longestLine 35 = .ok (.ireturn, 1) := by decide +kernel
theorem dX10_longestLine_36 : decode cX10_longestLine 36 = .ok (.iload_n 3, 1) := by decide +kernel
theorem dX10_longestLine_37 : decode cX10_longestLine 37 = .ok (.iconst (-1), 1) := by decide +kernel
theorem dX10_longestLine_38 : decode cX10_longestLine 38 = .ok (.if_icmp .eq 24, 3) := by decide +kernel
theorem dX10_longestLine_41 : decode cX10_longestLine 41 = .ok (.aload_n 0, 1) := by decide +kernel
theorem dX10_longestLine_42 : decode cX10_longestLine 42 = .ok (.getfield 9, 3) := by decide +kernel
theorem dX10_longestLine_45 : decode cX10_longestLine 45 = .ok (.iload_n 3, 1) := by decide +kernel
theorem dX10_longestLine_46 : decode cX10_longestLine 46 = .ok (.iaload, 1) := by decide +kernel
theorem dX10_longestLine_47 : decode cX10_longestLine 47 = .ok (.iload 5, 2) := by decide +kernel
theorem dX10_longestLine_49 : decode cX10_longestLine 49 = .ok (.ishr, 1) := by decide +kernel
theorem dX10_longestLine_50 : decode cX10_longestLine 50 = .ok (.iconst 1, 1) := by decide +kernel
theorem dX10_longestLine_51 : decode cX10_longestLine 51 = .ok (.iand, 1) := by decide +kernel
theorem dX10_longestLine_52 : decode cX10_longestLine 52 = .ok (.iconst 1, 1) := by decide +kernel
theorem dX10_longestLine_53 : decode cX10_longestLine 53 = .ok (.if_icmp .ne 9, 3) := by decide +kernel
theorem dX10_longestLine_56 : decode cX10_longestLine 56 = .ok (.iload_n 2, 1) := by decide +kernel
theorem dX10_longestLine_57 : decode cX10_longestLine 57 = .ok (.iconst 1, 1) := by decide +kernel
theorem dX10_longestLine_58 : decode cX10_longestLine 58 = .ok (.iadd, 1) := by decide +kernel
theorem dX10_longestLine_59 : decode cX10_longestLine 59 = .ok (.goto 4, 3) := by decide +kernel
theorem dX10_longestLine_62 : decode cX10_longestLine 62 = .ok (.iconst 1, 1) := by decide +kernel
theorem dX10_longestLine_63 : decode cX10_longestLine 63 = .ok (.istore_n 2, 1) := by decide +kernel
theorem dX10_longestLine_64 : decode cX10_longestLine 64 = .ok (.iload_n 1, 1) := by decide +kernel
theorem dX10_longestLine_65 : decode cX10_longestLine 65 = .ok (.iload_n 2, 1) := by decide +kernel
theorem dX10_longestLine_66 : decode cX10_longestLine 66 = .ok (.invokestatic 53, 3) := by decide +kernel
theorem dX10_longestLine_69 : decode cX10_longestLine 69 = .ok (.istore_n 1, 1) := by decide +kernel
theorem dX10_longestLine_70 : decode cX10_longestLine 70 = .ok (.iload 5, 2) := by decide +kernel
theorem dX10_longestLine_72 : decode cX10_longestLine 72 = .ok (.istore_n 3, 1) := by decide +kernel
theorem dX10_longestLine_73 : decode cX10_longestLine 73 = .ok (.iinc 4 1, 3) := by decide +kernel
theorem dX10_longestLine_76 : decode cX10_longestLine 76 = .ok (.goto (-67), 3) := by decide +kernel
theorem dX10_longestLine_79 : decode cX10_longestLine 79 = .ok (.iload_n 1, 1) := by decide +kernel
theorem dX10_longestLine_80 : decode cX10_longestLine 80 = .ok (.ireturn, 1) := by decide +kernel
theorem dX10_rightOf_0 : decode cX10_rightOf 0 = .ok (.iload_n 1, 1) := by decide +kernel
theorem dX10_rightOf_1 : decode cX10_rightOf 1 = .ok (.iconst (-1), 1) := by decide +kernel
theorem dX10_rightOf_2 : decode cX10_rightOf 2 = .ok (.if_icmp .ne 7, 3) := by decide +kernel
theorem dX10_rightOf_5 : decode cX10_rightOf 5 = .ok (.iconst (-1), 1) := by decide +kernel
theorem dX10_rightOf_6 : decode cX10_rightOf 6 = .ok (.goto 12, 3) := by decide +kernel
theorem dX10_rightOf_9 : decode cX10_rightOf 9 = .ok (.aload_n 0, 1) := by decide +kernel
theorem dX10_rightOf_10 : decode cX10_rightOf 10 = .ok (.getfield 15, 3) := by decide +kernel
theorem dX10_rightOf_13 : decode cX10_rightOf 13 = .ok (.getfield 58, 3) := by decide +kernel
theorem dX10_rightOf_16 : decode cX10_rightOf 16 = .ok (.iload_n 1, 1) := by decide +kernel
theorem dX10_rightOf_17 : decode cX10_rightOf 17 = .ok (.iaload, 1) := by decide +kernel
theorem dX10_rightOf_18 : decode cX10_rightOf 18 = .ok (.istore_n 2, 1) := by decide +kernel
theorem dX10_rightOf_19 : decode cX10_rightOf 19 = .ok (.iconst (-1), 1) := by decide +kernel
theorem dX10_rightOf_20 : decode cX10_rightOf 20 = .ok (.istore_n 3, 1) := by decide +kernel
theorem dX10_rightOf_21 : decode cX10_rightOf 21 = .ok (.iconst 0, 1) := by decide +kernel
theorem dX10_rightOf_22 : decode cX10_rightOf 22 = .ok (.istore 4, 2) := by decide +kernel
theorem dX10_rightOf_24 : decode cX10_rightOf 24 = .ok (.iload 4, 2) := by decide +kernel
theorem dX10_rightOf_26 : decode cX10_rightOf 26 = .ok (.aload_n 0, 1) := by decide +kernel
theorem dX10_rightOf_27 : decode cX10_rightOf 27 = .ok (.getfield 15, 3) := by decide +kernel
theorem dX10_rightOf_30 : decode cX10_rightOf 30 = .ok (.getfield 19, 3) := by decide +kernel
theorem dX10_rightOf_33 : decode cX10_rightOf 33 = .ok (.if_icmp .ge 53, 3) := by decide +kernel
theorem dX10_rightOf_36 : decode cX10_rightOf 36 = .ok (.aload_n 0, 1) := by decide +kernel
theorem dX10_rightOf_37 : decode cX10_rightOf 37 = .ok (.getfield 15, 3) := by decide +kernel
theorem dX10_rightOf_40 : decode cX10_rightOf 40 = .ok (.getfield 58, 3) := by decide +kernel
theorem dX10_rightOf_43 : decode cX10_rightOf 43 = .ok (.iload 4, 2) := by decide +kernel
theorem dX10_rightOf_45 : decode cX10_rightOf 45 = .ok (.iaload, 1) := by decide +kernel
theorem dX10_rightOf_46 : decode cX10_rightOf 46 = .ok (.iload_n 2, 1) := by decide +kernel
theorem dX10_rightOf_47 : decode cX10_rightOf 47 = .ok (.if_icmp .le 33, 3) := by decide +kernel
theorem dX10_rightOf_50 : decode cX10_rightOf 50 = .ok (.iload_n 3, 1) := by decide +kernel
theorem dX10_rightOf_51 : decode cX10_rightOf 51 = .ok (.iconst (-1), 1) := by decide +kernel
theorem dX10_rightOf_52 : decode cX10_rightOf 52 = .ok (.if_icmp .eq 25, 3) := by decide +kernel
theorem dX10_rightOf_55 : decode cX10_rightOf 55 = .ok (.aload_n 0, 1) := by decide +kernel
theorem dX10_rightOf_56 : decode cX10_rightOf 56 = .ok (.getfield 15, 3) := by decide +kernel
theorem dX10_rightOf_59 : decode cX10_rightOf 59 = .ok (.getfield 58, 3) := by decide +kernel
theorem dX10_rightOf_62 : decode cX10_rightOf 62 = .ok (.iload 4, 2) := by decide +kernel
theorem dX10_rightOf_64 : decode cX10_rightOf 64 = .ok (.iaload, 1) := by decide +kernel
theorem dX10_rightOf_65 : decode cX10_rightOf 65 = .ok (.aload_n 0, 1) := by decide +kernel
theorem dX10_rightOf_66 : decode cX10_rightOf 66 = .ok (.getfield 15, 3) := by decide +kernel
theorem dX10_rightOf_69 : decode cX10_rightOf 69 = .ok (.getfield 58, 3) := by decide +kernel
theorem dX10_rightOf_72 : decode cX10_rightOf 72 = .ok (.iload_n 3, 1) := by decide +kernel
theorem dX10_rightOf_73 : decode cX10_rightOf 73 = .ok (.iaload, 1) := by decide +kernel
theorem dX10_rightOf_74 : decode cX10_rightOf 74 = .ok (.if_icmp .ge 6, 3) := by decide +kernel
theorem dX10_rightOf_77 : decode cX10_rightOf 77 = .ok (.iload 4, 2) := by decide +kernel
theorem dX10_rightOf_79 : decode cX10_rightOf 79 = .ok (.istore_n 3, 1) := by decide +kernel
theorem dX10_rightOf_80 : decode cX10_rightOf 80 = .ok (.iinc 4 1, 3) := by decide +kernel
theorem dX10_rightOf_83 : decode cX10_rightOf 83 = .ok (.goto (-59), 3) := by decide +kernel
theorem dX10_rightOf_86 : decode cX10_rightOf 86 = .ok (.iload_n 3, 1) := by decide +kernel
theorem dX10_rightOf_87 : decode cX10_rightOf 87 = .ok (.ireturn, 1) := by decide +kernel
theorem dX11_init_0 : decode cX11_init 0 = .ok (.aload_n 0, 1) := by decide +kernel
theorem dX11_init_1 : decode cX11_init 1 = .ok (.invokespecial 1, 3) := by decide +kernel
theorem dX11_init_4 : decode cX11_init 4 = .ok (.aload_n 0, 1) := by decide +kernel
theorem dX11_init_5 : decode cX11_init 5 = .ok (.sipush 700, 3) := by decide +kernel
theorem dX11_init_8 : decode cX11_init 8 = .ok (.newarray .byte, 2) := by decide +kernel
theorem dX11_init_10 : decode cX11_init 10 = .ok (.putfield 9, 3) := by decide +kernel
theorem dX11_init_13 : decode cX11_init 13 = .ok (.aload_n 0, 1) := by decide +kernel
theorem dX11_init_14 : decode cX11_init 14 = .ok (.iconst 0, 1) := by decide +kernel
theorem dX11_init_15 : decode cX11_init 15 = .ok (.putfield 13, 3) := by decide +kernel
theorem dX11_init_18 : decode cX11_init 18 = .ok (.aload_n 0, 1) := by decide +kernel
theorem dX11_init_19 : decode cX11_init 19 = .ok (.new 17, 3) := by decide +kernel
theorem dX11_init_22 : decode cX11_init 22 = .ok (.dup, 1) := by decide +kernel
theorem dX11_init_23 : decode cX11_init 23 = .ok (.aload_n 0, 1) := by decide +kernel
theorem dX11_init_24 : decode cX11_init 24 = .ok (.getfield 9, 3) := by decide +kernel
theorem dX11_init_27 : decode cX11_init 27 = .ok (.invokespecial 19, 3) := by decide +kernel
theorem dX11_init_30 : decode cX11_init 30 = .ok (.putfield 22, 3) := by decide +kernel
theorem dX11_init_33 : decode cX11_init 33 = .ok (.aload_n 0, 1) := by decide +kernel
theorem dX11_init_34 : decode cX11_init 34 = .ok (.new 26, 3) := by decide +kernel
theorem dX11_init_37 : decode cX11_init 37 = .ok (.dup, 1) := by decide +kernel
theorem dX11_init_38 : decode cX11_init 38 = .ok (.invokespecial 28, 3) := by decide +kernel
theorem dX11_init_41 : decode cX11_init 41 = .ok (.putfield 29, 3) := by decide +kernel
theorem dX11_init_44 : decode cX11_init 44 = .ok (.aload_n 0, 1) := by decide +kernel
theorem dX11_init_45 : decode cX11_init 45 = .ok (.new 33, 3) := by decide +kernel
theorem dX11_init_48 : decode cX11_init 48 = .ok (.dup, 1) := by decide +kernel
theorem dX11_init_49 : decode cX11_init 49 = .ok (.invokespecial 35, 3) := by decide +kernel
theorem dX11_init_52 : decode cX11_init 52 = .ok (.putfield 36, 3) := by decide +kernel
theorem dX11_init_55 : decode cX11_init 55 = .ok (.aload_n 0, 1) := by decide +kernel
theorem dX11_init_56 : decode cX11_init 56 = .ok (.new 33, 3) := by decide +kernel
theorem dX11_init_59 : decode cX11_init 59 = .ok (.dup, 1) := by decide +kernel
theorem dX11_init_60 : decode cX11_init 60 = .ok (.invokespecial 35, 3) := by decide +kernel
theorem dX11_init_63 : decode cX11_init 63 = .ok (.putfield 40, 3) := by decide +kernel
theorem dX11_init_66 : decode cX11_init 66 = .ok (.aload_n 0, 1) := by decide +kernel
theorem dX11_init_67 : decode cX11_init 67 = .ok (.iconst 0, 1) := by decide +kernel
theorem dX11_init_68 : decode cX11_init 68 = .ok (.putfield 43, 3) := by decide +kernel
theorem dX11_init_71 : decode cX11_init 71 = .ok (.aload_n 0, 1) := by decide +kernel
theorem dX11_init_72 : decode cX11_init 72 = .ok (.new 47, 3) := by decide +kernel
theorem dX11_init_75 : decode cX11_init 75 = .ok (.dup, 1) := by decide +kernel
theorem dX11_init_76 : decode cX11_init 76 = .ok (.aload_n 0, 1) := by decide +kernel
theorem dX11_init_77 : decode cX11_init 77 = .ok (.getfield 29, 3) := by decide +kernel
theorem dX11_init_80 : decode cX11_init 80 = .ok (.invokespecial 49, 3) := by decide +kernel
theorem dX11_init_83 : decode cX11_init 83 = .ok (.putfield 52, 3) := by decide +kernel
theorem dX11_init_86 : decode cX11_init 86 = .ok (.aload_n 0, 1) := by decide +kernel
theorem dX11_init_87 : decode cX11_init 87 = .ok (.new 47, 3) := by decide +kernel
theorem dX11_init_90 : decode cX11_init 90 = .ok (.dup, 1) := by decide +kernel
theorem dX11_init_91 : decode cX11_init 91 = .ok (.aload_n 0, 1) := by decide +kernel
theorem dX11_init_92 : decode cX11_init 92 = .ok (.getfield 29, 3) := by decide +kernel
theorem dX11_init_95 : decode cX11_init 95 = .ok (.invokespecial 49, 3) := by decide +kernel
theorem dX11_init_98 : decode cX11_init 98 = .ok (.putfield 56, 3) := by decide +kernel
theorem dX11_init_101 : decode cX11_init 101 = .ok (.aload_n 0, 1) := by decide +kernel
theorem dX11_init_102 : decode cX11_init 102 = .ok (.new 59, 3) := by decide +kernel
theorem dX11_init_105 : decode cX11_init 105 = .ok (.dup, 1) := by decide +kernel
theorem dX11_init_106 : decode cX11_init 106 = .ok (.aload_n 0, 1) := by decide +kernel
theorem dX11_init_107 : decode cX11_init 107 = .ok (.getfield 29, 3) := by decide +kernel
theorem dX11_init_110 : decode cX11_init 110 = .ok (.invokespecial 61, 3) := by decide +kernel
theorem dX11_init_113 : decode cX11_init 113 = .ok (.putfield 62, 3) := by decide +kernel
theorem dX11_init_116 : decode cX11_init 116 = .ok (.aload_n 0, 1) := by decide +kernel
theorem dX11_init_117 : decode cX11_init 117 = .ok (.new 66, 3) := by decide +kernel
theorem dX11_init_120 : decode cX11_init 120 = .ok (.dup, 1) := by decide +kernel
theorem dX11_init_121 : decode cX11_init 121 = .ok (.aload_n 0, 1) := by decide +kernel
theorem dX11_init_122 : decode cX11_init 122 = .ok (.getfield 29, 3) := by decide +kernel
theorem dX11_init_125 : decode cX11_init 125 = .ok (.aload_n 0, 1) := by decide +kernel
theorem dX11_init_126 : decode cX11_init 126 = .ok (.getfield 52, 3) := by decide +kernel
theorem dX11_init_129 : decode cX11_init 129 = .ok (.invokespecial 68, 3) := by decide +kernel
theorem dX11_init_132 : decode cX11_init 132 = .ok (.putfield 71, 3) := by decide +kernel
theorem dX11_init_135 : decode cX11_init 135 = .ok (.aload_n 0, 1) := by decide +kernel
theorem dX11_init_136 : decode cX11_init 136 = .ok (.sipush 200, 3) := by decide +kernel
theorem dX11_init_139 : decode cX11_init 139 = .ok (.newarray .int, 2) := by decide +kernel
theorem dX11_init_141 : decode cX11_init 141 = .ok (.putfield 75, 3) := by decide +kernel
theorem dX11_init_144 : decode cX11_init 144 = .ok (.aload_n 0, 1) := by decide +kernel
theorem dX11_init_145 : decode cX11_init 145 = .ok (.bipush 8, 2) := by decide +kernel
theorem dX11_init_147 : decode cX11_init 147 = .ok (.newarray .int, 2) := by decide +kernel
theorem dX11_init_149 : decode cX11_init 149 = .ok (.putfield 79, 3) := by decide +kernel
theorem dX11_init_152 : decode cX11_init 152 = .ok (.return_, 1) := by decide +kernel
theorem dX11_feed_0 : decode cX11_feed 0 = .ok (.aload_n 0, 1) := by decide +kernel
theorem dX11_feed_1 : decode cX11_feed 1 = .ok (.getfield 13, 3) := by decide +kernel
theorem dX11_feed_4 : decode cX11_feed 4 = .ok (.bipush 20, 2) := by decide +kernel
theorem dX11_feed_6 : decode cX11_feed 6 = .ok (.iadd, 1) := by decide +kernel
theorem dX11_feed_7 : decode cX11_feed 7 = .ok (.sipush 700, 3) := by decide +kernel
theorem dX11_feed_10 : decode cX11_feed 10 = .ok (.if_icmp .le 5, 3) := by decide +kernel
theorem dX11_feed_13 : decode cX11_feed 13 = .ok (.iconst (-1), 1) := by decide +kernel
theorem dX11_feed_14 : decode cX11_feed 14 = .ok (.ireturn, 1) := by decide +kernel
theorem dX11_feed_15 : decode cX11_feed 15 = .ok (.aload_n 0, 1) := by decide +kernel
theorem dX11_feed_16 : decode cX11_feed 16 = .ok (.iload_n 1, 1) := by decide +kernel
theorem dX11_feed_17 : decode cX11_feed 17 = .ok (.invokevirtual 82, 3) := by decide +kernel
theorem dX11_feed_20 : decode cX11_feed 20 = .ok (.aload_n 0, 1) := by decide +kernel
theorem dX11_feed_21 : decode cX11_feed 21 = .ok (.iload_n 2, 1) := by decide +kernel
theorem dX11_feed_22 : decode cX11_feed 22 = .ok (.invokevirtual 82, 3) := by decide +kernel
theorem dX11_feed_25 : decode cX11_feed 25 = .ok (.aload_n 0, 1) := by decide +kernel
theorem dX11_feed_26 : decode cX11_feed 26 = .ok (.iload_n 3, 1) := by decide +kernel
theorem dX11_feed_27 : decode cX11_feed 27 = .ok (.invokevirtual 82, 3) := by decide +kernel
theorem dX11_feed_30 : decode cX11_feed 30 = .ok (.aload_n 0, 1) := by decide +kernel
theorem dX11_feed_31 : decode cX11_feed 31 = .ok (.iload 4, 2) := by decide +kernel
theorem dX11_feed_33 : decode cX11_feed 33 = .ok (.invokevirtual 82, 3) := by decide +kernel
theorem dX11_feed_36 : decode cX11_feed 36 = .ok (.aload_n 0, 1) := by decide +kernel
theorem dX11_feed_37 : decode cX11_feed 37 = .ok (.iload 5, 2) := by decide +kernel
theorem dX11_feed_39 : decode cX11_feed 39 = .ok (.invokevirtual 82, 3) := by decide +kernel
theorem dX11_feed_42 : decode cX11_feed 42 = .ok (.aload_n 0, 1) := by decide +kernel
theorem dX11_feed_43 : decode cX11_feed 43 = .ok (.getfield 13, 3) := by decide +kernel
theorem dX11_feed_46 : decode cX11_feed 46 = .ok (.ireturn, 1) := by decide +kernel
theorem dX11_feedNumber_0 : decode cX11_feedNumber 0 = .ok (.bipush 24, 2) := by decide +kernel
theorem dX11_feedNumber_2 : decode cX11_feedNumber 2 = .ok (.istore_n 2, 1) := by decide +kernel
theorem dX11_feedNumber_3 : decode cX11_feedNumber 3 = .ok (.iload_n 2, 1) := by decide +kernel
theorem dX11_feedNumber_4 : decode cX11_feedNumber 4 = .ok (.ifCond .lt 44, 3) := by decide +kernel
theorem dX11_feedNumber_7 : decode cX11_feedNumber 7 = .ok (.aload_n 0, 1) := by decide +kernel
theorem dX11_feedNumber_8 : decode cX11_feedNumber 8 = .ok (.getfield 13, 3) := by decide +kernel
theorem dX11_feedNumber_11 : decode cX11_feedNumber 11 = .ok (.aload_n 0, 1) := by decide +kernel
theorem dX11_feedNumber_12 : decode cX11_feedNumber 12 = .ok (.getfield 9, 3) := by decide +kernel
theorem dX11_feedNumber_15 : decode cX11_feedNumber 15 = .ok (.arraylength, 1) := by decide +kernel
theorem dX11_feedNumber_16 : decode cX11_feedNumber 16 = .ok (.if_icmp .ge 32, 3) := by decide +kernel
theorem dX11_feedNumber_19 : decode cX11_feedNumber 19 = .ok (.aload_n 0, 1) := by decide +kernel
theorem dX11_feedNumber_20 : decode cX11_feedNumber 20 = .ok (.getfield 9, 3) := by decide +kernel
theorem dX11_feedNumber_23 : decode cX11_feedNumber 23 = .ok (.aload_n 0, 1) := by decide +kernel
theorem dX11_feedNumber_24 : decode cX11_feedNumber 24 = .ok (.getfield 13, 3) := by decide +kernel
theorem dX11_feedNumber_27 : decode cX11_feedNumber 27 = .ok (.iload_n 1, 1) := by decide +kernel
theorem dX11_feedNumber_28 : decode cX11_feedNumber 28 = .ok (.iload_n 2, 1) := by decide +kernel
theorem dX11_feedNumber_29 : decode cX11_feedNumber 29 = .ok (.iushr, 1) := by decide +kernel
theorem dX11_feedNumber_30 : decode cX11_feedNumber 30 = .ok (.i2b, 1) := by decide +kernel
theorem dX11_feedNumber_31 : decode cX11_feedNumber 31 = .ok (.bastore, 1) := by decide +kernel
theorem dX11_feedNumber_32 : decode cX11_feedNumber 32 = .ok (.aload_n 0, 1) := by decide +kernel
theorem dX11_feedNumber_33 : decode cX11_feedNumber 33 = .ok (.dup, 1) := by decide +kernel
theorem dX11_feedNumber_34 : decode cX11_feedNumber 34 = .ok (.getfield 13, 3) := by decide +kernel
theorem dX11_feedNumber_37 : decode cX11_feedNumber 37 = .ok (.iconst 1, 1) := by decide +kernel
theorem dX11_feedNumber_38 : decode cX11_feedNumber 38 = .ok (.iadd, 1) := by decide +kernel
theorem dX11_feedNumber_39 : decode cX11_feedNumber 39 = .ok (.putfield 13, 3) := by decide +kernel
theorem dX11_feedNumber_42 : decode cX11_feedNumber 42 = .ok (.iinc 2 (-8), 3) := by decide +kernel
theorem dX11_feedNumber_45 : decode cX11_feedNumber 45 = .ok (.goto (-42), 3) := by decide +kernel
theorem dX11_feedNumber_48 : decode cX11_feedNumber 48 = .ok (.return_, 1) := by decide +kernel
theorem dX11_upland_0 : decode cX11_upland 0 = .ok (.iload_n 1, 1) := by decide +kernel
theorem dX11_upland_1 : decode cX11_upland 1 = .ok (.ifCond .lt 11, 3) := by decide +kernel
theorem dX11_upland_4 : decode cX11_upland 4 = .ok (.iload_n 1, 1) := by decide +kernel
theorem dX11_upland_5 : decode cX11_upland 5 = .ok (.aload_n 0, 1) := by decide +kernel
theorem dX11_upland_6 : decode cX11_upland 6 = .ok (.getfield 13, 3) := by decide +kernel
theorem dX11_upland_9 : decode cX11_upland 9 = .ok (.if_icmp .le 13, 3) := by decide +kernel
theorem dX11_upland_12 : decode cX11_upland 12 = .ok (.new 86, 3) := by decide +kernel
theorem dX11_upland_15 : decode cX11_upland 15 = .ok (.dup, 1) := by decide +kernel
theorem dX11_upland_16 : decode cX11_upland 16 = .ok (.ldc 88, 2) := by decide +kernel
theorem dX11_upland_18 : decode cX11_upland 18 = .ok (.invokespecial 90, 3) := by decide +kernel
theorem dX11_upland_21 : decode cX11_upland 21 = .ok (.athrow, 1) := by decide +kernel
theorem dX11_upland_22 : decode cX11_upland 22 = .ok (.aload_n 0, 1) := by decide +kernel
theorem dX11_upland_23 : decode cX11_upland 23 = .ok (.iconst 0, 1) := by decide +kernel
theorem dX11_upland_24 : decode cX11_upland 24 = .ok (.putfield 13, 3) := by decide +kernel
theorem dX11_upland_27 : decode cX11_upland 27 = .ok (.aload_n 0, 1) := by decide +kernel
theorem dX11_upland_28 : decode cX11_upland 28 = .ok (.getfield 22, 3) := by decide +kernel
theorem dX11_upland_31 : decode cX11_upland 31 = .ok (.iload_n 1, 1) := by decide +kernel
theorem dX11_upland_32 : decode cX11_upland 32 = .ok (.invokevirtual 93, 3) := by decide +kernel
theorem dX11_upland_35 : decode cX11_upland 35 = .ok (.ifCond .ne 24, 3) := by decide +kernel
theorem dX11_upland_38 : decode cX11_upland 38 = .ok (.aload_n 0, 1) := by decide +kernel
theorem dX11_upland_39 : decode cX11_upland 39 = .ok (.getfield 36, 3) := by decide +kernel
theorem dX11_upland_42 : decode cX11_upland 42 = .ok (.getfield 97, 3) := by decide +kernel
theorem dX11_upland_45 : decode cX11_upland 45 = .ok (.iconst 0, 1) := by decide +kernel
theorem dX11_upland_46 : decode cX11_upland 46 = .ok (.dup2, 1) := by decide +kernel
theorem dX11_upland_47 : decode cX11_upland 47 = .ok (.iaload, 1) := by decide +kernel
theorem dX11_upland_48 : decode cX11_upland 48 = .ok (.iconst 1, 1) := by decide +kernel
theorem dX11_upland_49 : decode cX11_upland 49 = .ok (.iadd, 1) := by decide +kernel
theorem dX11_upland_50 : decode cX11_upland 50 = .ok (.iastore, 1) := by decide +kernel
theorem dX11_upland_51 : decode cX11_upland 51 = .ok (.aload_n 0, 1) := by decide +kernel
theorem dX11_upland_52 : decode cX11_upland 52 = .ok (.getfield 22, 3) := by decide +kernel
theorem dX11_upland_55 : decode cX11_upland 55 = .ok (.getfield 100, 3) := by decide +kernel
theorem dX11_upland_58 : decode cX11_upland 58 = .ok (.ireturn, 1) := by decide +kernel
theorem dX11_upland_59 : decode cX11_upland 59 = .ok (.aload_n 0, 1) := by decide +kernel
theorem dX11_upland_60 : decode cX11_upland 60 = .ok (.getfield 29, 3) := by decide +kernel
theorem dX11_upland_63 : decode cX11_upland 63 = .ok (.aload_n 0, 1) := by decide +kernel
theorem dX11_upland_64 : decode cX11_upland 64 = .ok (.getfield 22, 3) := by decide +kernel
theorem dX11_upland_67 : decode cX11_upland 67 = .ok (.getfield 103, 3) := by decide +kernel
theorem dX11_upland_70 : decode cX11_upland 70 = .ok (.invokevirtual 106, 3) := by decide +kernel
theorem dX11_upland_73 : decode cX11_upland 73 = .ok (.aload_n 0, 1) := by decide +kernel
theorem dX11_upland_74 : decode cX11_upland 74 = .ok (.getfield 36, 3) := by decide +kernel
theorem dX11_upland_77 : decode cX11_upland 77 = .ok (.getfield 109, 3) := by decide +kernel
theorem dX11_upland_80 : decode cX11_upland 80 = .ok (.aload_n 0, 1) := by decide +kernel
theorem dX11_upland_81 : decode cX11_upland 81 = .ok (.getfield 29, 3) := by decide +kernel
theorem dX11_upland_84 : decode cX11_upland 84 = .ok (.invokevirtual 113, 3) := by decide +kernel
theorem dX11_upland_87 : decode cX11_upland 87 = .ok (.aload_n 0, 1) := by decide +kernel
theorem dX11_upland_88 : decode cX11_upland 88 = .ok (.getfield 36, 3) := by decide +kernel
theorem dX11_upland_91 : decode cX11_upland 91 = .ok (.getfield 118, 3) := by decide +kernel
theorem dX11_upland_94 : decode cX11_upland 94 = .ok (.invokevirtual 122, 3) := by decide +kernel
theorem dX11_upland_97 : decode cX11_upland 97 = .ok (.aload_n 0, 1) := by decide +kernel
theorem dX11_upland_98 : decode cX11_upland 98 = .ok (.getfield 36, 3) := by decide +kernel
theorem dX11_upland_101 : decode cX11_upland 101 = .ok (.getfield 127, 3) := by decide +kernel
theorem dX11_upland_104 : decode cX11_upland 104 = .ok (.invokevirtual 131, 3) := by decide +kernel
theorem dX11_upland_107 : decode cX11_upland 107 = .ok (.aload_n 0, 1) := by decide +kernel
theorem dX11_upland_108 : decode cX11_upland 108 = .ok (.iconst 0, 1) := by decide +kernel
theorem dX11_upland_109 : decode cX11_upland 109 = .ok (.putfield 43, 3) := by decide +kernel
theorem dX11_upland_112 : decode cX11_upland 112 = .ok (.aload_n 0, 1) := by decide +kernel
theorem dX11_upland_113 : decode cX11_upland 113 = .ok (.getfield 52, 3) := by decide +kernel
theorem dX11_upland_116 : decode cX11_upland 116 = .ok (.aload_n 0, 1) := by decide +kernel
theorem dX11_upland_117 : decode cX11_upland 117 = .ok (.getfield 36, 3) := by decide +kernel
theorem dX11_upland_120 : decode cX11_upland 120 = .ok (.getfield 109, 3) := by decide +kernel
theorem dX11_upland_123 : decode cX11_upland 123 = .ok (.getfield 134, 3) := by decide +kernel
theorem dX11_upland_126 : decode cX11_upland 126 = .ok (.invokevirtual 137, 3) := by decide +kernel
theorem dX11_upland_129 : decode cX11_upland 129 = .ok (.iconst 0, 1) := by decide +kernel
theorem dX11_upland_130 : decode cX11_upland 130 = .ok (.ireturn, 1) := by decide +kernel
theorem dX11_fault_0 : decode cX11_fault 0 = .ok (.aload_n 0, 1) := by decide +kernel
theorem dX11_fault_1 : decode cX11_fault 1 = .ok (.getfield 22, 3) := by decide +kernel
theorem dX11_fault_4 : decode cX11_fault 4 = .ok (.getfield 141, 3) := by decide +kernel
theorem dX11_fault_7 : decode cX11_fault 7 = .ok (.ireturn, 1) := by decide +kernel
theorem dX11_count_0 : decode cX11_count 0 = .ok (.iload_n 1, 1) := by decide +kernel
theorem dX11_count_1 : decode cX11_count 1 = .ok (.tableswitch 222 0 15 #[79, 87, 98, 103, 111, 119, 130, 141, 149, 157, 165, 176, 187, 192, 202, 212], 79) := by decide +kernel
theorem dX11_count_80 : decode cX11_count 80 = .ok (.aload_n 0, 1) := by decide +kernel
theorem dX11_count_81 : decode cX11_count 81 = .ok (.getfield 29, 3) := by decide +kernel
theorem dX11_count_84 : decode cX11_count 84 = .ok (.getfield 144, 3) := by decide +kernel
theorem dX11_count_87 : decode cX11_count 87 = .ok (.ireturn, 1) := by decide +kernel
theorem dX11_count_88 : decode cX11_count 88 = .ok (.aload_n 0, 1) := by decide +kernel
theorem dX11_count_89 : decode cX11_count 89 = .ok (.getfield 36, 3) := by decide +kernel
theorem dX11_count_92 : decode cX11_count 92 = .ok (.getfield 109, 3) := by decide +kernel
theorem dX11_count_95 : decode cX11_count 95 = .ok (.getfield 147, 3) := by decide +kernel
theorem dX11_count_98 : decode cX11_count 98 = .ok (.ireturn, 1) := by decide +kernel
theorem dX11_count_99 : decode cX11_count 99 = .ok (.aload_n 0, 1) := by decide +kernel
theorem dX11_count_100 : decode cX11_count 100 = .ok (.invokevirtual 150, 3) := by decide +kernel
theorem dX11_count_103 : decode cX11_count 103 = .ok (.ireturn, 1) := by decide +kernel
theorem dX11_count_104 : decode cX11_count 104 = .ok (.aload_n 0, 1) := by decide +kernel
theorem dX11_count_105 : decode cX11_count 105 = .ok (.getfield 29, 3) := by decide +kernel
theorem dX11_count_108 : decode cX11_count 108 = .ok (.getfield 154, 3) := by decide +kernel
theorem dX11_count_111 : decode cX11_count 111 = .ok (.ireturn, 1) := by decide +kernel
theorem dX11_count_112 : decode cX11_count 112 = .ok (.aload_n 0, 1) := by decide +kernel
theorem dX11_count_113 : decode cX11_count 113 = .ok (.getfield 29, 3) := by decide +kernel
theorem dX11_count_116 : decode cX11_count 116 = .ok (.getfield 156, 3) := by decide +kernel
theorem dX11_count_119 : decode cX11_count 119 = .ok (.ireturn, 1) := by decide +kernel
theorem dX11_count_120 : decode cX11_count 120 = .ok (.aload_n 0, 1) := by decide +kernel
theorem dX11_count_121 : decode cX11_count 121 = .ok (.getfield 36, 3) := by decide +kernel
theorem dX11_count_124 : decode cX11_count 124 = .ok (.getfield 109, 3) := by decide +kernel
theorem dX11_count_127 : decode cX11_count 127 = .ok (.getfield 159, 3) := by decide +kernel
theorem dX11_count_130 : decode cX11_count 130 = .ok (.ireturn, 1) := by decide +kernel
theorem dX11_count_131 : decode cX11_count 131 = .ok (.aload_n 0, 1) := by decide +kernel
theorem dX11_count_132 : decode cX11_count 132 = .ok (.getfield 36, 3) := by decide +kernel
theorem dX11_count_135 : decode cX11_count 135 = .ok (.getfield 109, 3) := by decide +kernel
theorem dX11_count_138 : decode cX11_count 138 = .ok (.invokevirtual 162, 3) := by decide +kernel
theorem dX11_count_141 : decode cX11_count 141 = .ok (.ireturn, 1) := by decide +kernel
theorem dX11_count_142 : decode cX11_count 142 = .ok (.aload_n 0, 1) := by decide +kernel
theorem dX11_count_143 : decode cX11_count 143 = .ok (.invokevirtual 165, 3) := by decide +kernel
theorem dX11_count_146 : decode cX11_count 146 = .ok (.invokevirtual 169, 3) := by decide +kernel
theorem dX11_count_149 : decode cX11_count 149 = .ok (.ireturn, 1) := by decide +kernel
theorem dX11_count_150 : decode cX11_count 150 = .ok (.aload_n 0, 1) := by decide +kernel
theorem dX11_count_151 : decode cX11_count 151 = .ok (.invokevirtual 165, 3) := by decide +kernel
theorem dX11_count_154 : decode cX11_count 154 = .ok (.invokevirtual 172, 3) := by decide +kernel
theorem dX11_count_157 : decode cX11_count 157 = .ok (.ireturn, 1) := by decide +kernel
theorem dX11_count_158 : decode cX11_count 158 = .ok (.aload_n 0, 1) := by decide +kernel
theorem dX11_count_159 : decode cX11_count 159 = .ok (.invokevirtual 165, 3) := by decide +kernel
theorem dX11_count_162 : decode cX11_count 162 = .ok (.invokevirtual 175, 3) := by decide +kernel
theorem dX11_count_165 : decode cX11_count 165 = .ok (.ireturn, 1) := by decide +kernel
theorem dX11_count_166 : decode cX11_count 166 = .ok (.aload_n 0, 1) := by decide +kernel
theorem dX11_count_167 : decode cX11_count 167 = .ok (.getfield 36, 3) := by decide +kernel
theorem dX11_count_170 : decode cX11_count 170 = .ok (.getfield 118, 3) := by decide +kernel
theorem dX11_count_173 : decode cX11_count 173 = .ok (.getfield 178, 3) := by decide +kernel
theorem dX11_count_176 : decode cX11_count 176 = .ok (.ireturn, 1) := by decide +kernel
theorem dX11_count_177 : decode cX11_count 177 = .ok (.aload_n 0, 1) := by decide +kernel
theorem dX11_count_178 : decode cX11_count 178 = .ok (.getfield 36, 3) := by decide +kernel
theorem dX11_count_181 : decode cX11_count 181 = .ok (.getfield 127, 3) := by decide +kernel
theorem dX11_count_184 : decode cX11_count 184 = .ok (.getfield 181, 3) := by decide +kernel
theorem dX11_count_187 : decode cX11_count 187 = .ok (.ireturn, 1) := by decide +kernel
theorem dX11_count_188 : decode cX11_count 188 = .ok (.aload_n 0, 1) := by decide +kernel
theorem dX11_count_189 : decode cX11_count 189 = .ok (.getfield 13, 3) := by decide +kernel
theorem dX11_count_192 : decode cX11_count 192 = .ok (.ireturn, 1) := by decide +kernel
theorem dX11_count_193 : decode cX11_count 193 = .ok (.aload_n 0, 1) := by decide +kernel
theorem dX11_count_194 : decode cX11_count 194 = .ok (.getfield 36, 3) := by decide +kernel
theorem dX11_count_197 : decode cX11_count 197 = .ok (.getfield 97, 3) := by decide +kernel
theorem dX11_count_200 : decode cX11_count 200 = .ok (.iconst 0, 1) := by decide +kernel
theorem dX11_count_201 : decode cX11_count 201 = .ok (.iaload, 1) := by decide +kernel
theorem dX11_count_202 : decode cX11_count 202 = .ok (.ireturn, 1) := by decide +kernel
theorem dX11_count_203 : decode cX11_count 203 = .ok (.aload_n 0, 1) := by decide +kernel
theorem dX11_count_204 : decode cX11_count 204 = .ok (.getfield 36, 3) := by decide +kernel
theorem dX11_count_207 : decode cX11_count 207 = .ok (.getfield 97, 3) := by decide +kernel
theorem dX11_count_210 : decode cX11_count 210 = .ok (.iconst 1, 1) := by decide +kernel
theorem dX11_count_211 : decode cX11_count 211 = .ok (.iaload, 1) := by decide +kernel
theorem dX11_count_212 : decode cX11_count 212 = .ok (.ireturn, 1) := by decide +kernel
theorem dX11_count_213 : decode cX11_count 213 = .ok (.aload_n 0, 1) := by decide +kernel
theorem dX11_count_214 : decode cX11_count 214 = .ok (.getfield 36, 3) := by decide +kernel
theorem dX11_count_217 : decode cX11_count 217 = .ok (.getfield 97, 3) := by decide +kernel
theorem dX11_count_220 : decode cX11_count 220 = .ok (.iconst 2, 1) := by decide +kernel
theorem dX11_count_221 : decode cX11_count 221 = .ok (.iaload, 1) := by decide +kernel
theorem dX11_count_222 : decode cX11_count 222 = .ok (.ireturn, 1) := by decide +kernel
theorem dX11_count_223 : decode cX11_count 223 = .ok (.new 182, 3) := by decide +kernel
theorem dX11_count_226 : decode cX11_count 226 = .ok (.dup, 1) := by decide +kernel
theorem dX11_count_227 : decode cX11_count 227 = .ok (.ldc 184, 2) := by decide +kernel
theorem dX11_count_229 : decode cX11_count 229 = .ok (.invokespecial 186, 3) := by decide +kernel
theorem dX11_count_232 : decode cX11_count 232 = .ok (.athrow, 1) := by decide +kernel
theorem dX11_farm_0 : decode cX11_farm 0 = .ok (.aload_n 0, 1) := by decide +kernel
theorem dX11_farm_1 : decode cX11_farm 1 = .ok (.iload_n 1, 1) := by decide +kernel
theorem dX11_farm_2 : decode cX11_farm 2 = .ok (.invokevirtual 187, 3) := by decide +kernel
theorem dX11_farm_5 : decode cX11_farm 5 = .ok (.aload_n 0, 1) := by decide +kernel
theorem dX11_farm_6 : decode cX11_farm 6 = .ok (.getfield 36, 3) := by decide +kernel
theorem dX11_farm_9 : decode cX11_farm 9 = .ok (.getfield 109, 3) := by decide +kernel
theorem dX11_farm_12 : decode cX11_farm 12 = .ok (.astore_n 3, 1) := by decide +kernel
theorem dX11_farm_13 : decode cX11_farm 13 = .ok (.iload_n 2, 1) := by decide +kernel
theorem dX11_farm_14 : decode cX11_farm 14 = .ok (.tableswitch 146 0 9 #[54, 64, 74, 81, 91, 98, 105, 112, 121, 133], 54) := by decide +kernel
theorem dX11_farm_68 : decode cX11_farm 68 = .ok (.aload_n 0, 1) := by decide +kernel
theorem dX11_farm_69 : decode cX11_farm 69 = .ok (.getfield 29, 3) := by decide +kernel
theorem dX11_farm_72 : decode cX11_farm 72 = .ok (.getfield 190, 3) := by decide +kernel
theorem dX11_farm_75 : decode cX11_farm 75 = .ok (.iload_n 1, 1) := by decide +kernel
theorem dX11_farm_76 : decode cX11_farm 76 = .ok (.iaload, 1) := by decide +kernel
theorem dX11_farm_77 : decode cX11_farm 77 = .ok (.ireturn, 1) := by decide +kernel
theorem dX11_farm_78 : decode cX11_farm 78 = .ok (.aload_n 0, 1) := by decide +kernel
theorem dX11_farm_79 : decode cX11_farm 79 = .ok (.getfield 29, 3) := by decide +kernel
theorem dX11_farm_82 : decode cX11_farm 82 = .ok (.getfield 193, 3) := by decide +kernel
theorem dX11_farm_85 : decode cX11_farm 85 = .ok (.iload_n 1, 1) := by decide +kernel
theorem dX11_farm_86 : decode cX11_farm 86 = .ok (.iaload, 1) := by decide +kernel
theorem dX11_farm_87 : decode cX11_farm 87 = .ok (.ireturn, 1) := by decide +kernel
theorem dX11_farm_88 : decode cX11_farm 88 = .ok (.aload_n 3, 1) := by decide +kernel
theorem dX11_farm_89 : decode cX11_farm 89 = .ok (.getfield 134, 3) := by decide +kernel
theorem dX11_farm_92 : decode cX11_farm 92 = .ok (.iload_n 1, 1) := by decide +kernel
theorem dX11_farm_93 : decode cX11_farm 93 = .ok (.iaload, 1) := by decide +kernel
theorem dX11_farm_94 : decode cX11_farm 94 = .ok (.ireturn, 1) := by decide +kernel
theorem dX11_farm_95 : decode cX11_farm 95 = .ok (.aload_n 0, 1) := by decide +kernel
theorem dX11_farm_96 : decode cX11_farm 96 = .ok (.getfield 29, 3) := by decide +kernel
theorem dX11_farm_99 : decode cX11_farm 99 = .ok (.getfield 196, 3) := by decide +kernel
theorem dX11_farm_102 : decode cX11_farm 102 = .ok (.iload_n 1, 1) := by decide +kernel
theorem dX11_farm_103 : decode cX11_farm 103 = .ok (.iaload, 1) := by decide +kernel
theorem dX11_farm_104 : decode cX11_farm 104 = .ok (.ireturn, 1) := by decide +kernel
theorem dX11_farm_105 : decode cX11_farm 105 = .ok (.aload_n 3, 1) := by decide +kernel
theorem dX11_farm_106 : decode cX11_farm 106 = .ok (.getfield 199, 3) := by decide +kernel
theorem dX11_farm_109 : decode cX11_farm 109 = .ok (.iload_n 1, 1) := by decide +kernel
theorem dX11_farm_110 : decode cX11_farm 110 = .ok (.iaload, 1) := by decide +kernel
theorem dX11_farm_111 : decode cX11_farm 111 = .ok (.ireturn, 1) := by decide +kernel
theorem dX11_farm_112 : decode cX11_farm 112 = .ok (.aload_n 3, 1) := by decide +kernel
theorem dX11_farm_113 : decode cX11_farm 113 = .ok (.getfield 202, 3) := by decide +kernel
theorem dX11_farm_116 : decode cX11_farm 116 = .ok (.iload_n 1, 1) := by decide +kernel
theorem dX11_farm_117 : decode cX11_farm 117 = .ok (.iaload, 1) := by decide +kernel
theorem dX11_farm_118 : decode cX11_farm 118 = .ok (.ireturn, 1) := by decide +kernel
theorem dX11_farm_119 : decode cX11_farm 119 = .ok (.aload_n 3, 1) := by decide +kernel
theorem dX11_farm_120 : decode cX11_farm 120 = .ok (.getfield 205, 3) := by decide +kernel
theorem dX11_farm_123 : decode cX11_farm 123 = .ok (.iload_n 1, 1) := by decide +kernel
theorem dX11_farm_124 : decode cX11_farm 124 = .ok (.iaload, 1) := by decide +kernel
theorem dX11_farm_125 : decode cX11_farm 125 = .ok (.ireturn, 1) := by decide +kernel
theorem dX11_farm_126 : decode cX11_farm 126 = .ok (.aload_n 3, 1) := by decide +kernel
theorem dX11_farm_127 : decode cX11_farm 127 = .ok (.getfield 159, 3) := by decide +kernel
theorem dX11_farm_130 : decode cX11_farm 130 = .ok (.iload_n 1, 1) := by decide +kernel
theorem dX11_farm_131 : decode cX11_farm 131 = .ok (.ishr, 1) := by decide +kernel
theorem dX11_farm_132 : decode cX11_farm 132 = .ok (.iconst 1, 1) := by decide +kernel
theorem dX11_farm_133 : decode cX11_farm 133 = .ok (.iand, 1) := by decide +kernel
theorem dX11_farm_134 : decode cX11_farm 134 = .ok (.ireturn, 1) := by decide +kernel
theorem dX11_farm_135 : decode cX11_farm 135 = .ok (.aload_n 0, 1) := by decide +kernel
theorem dX11_farm_136 : decode cX11_farm 136 = .ok (.getfield 29, 3) := by decide +kernel
theorem dX11_farm_139 : decode cX11_farm 139 = .ok (.getfield 208, 3) := by decide +kernel
theorem dX11_farm_142 : decode cX11_farm 142 = .ok (.iload_n 1, 1) := by decide +kernel
theorem dX11_farm_143 : decode cX11_farm 143 = .ok (.ishr, 1) := by decide +kernel
theorem dX11_farm_144 : decode cX11_farm 144 = .ok (.iconst 1, 1) := by decide +kernel
theorem dX11_farm_145 : decode cX11_farm 145 = .ok (.iand, 1) := by decide +kernel
theorem dX11_farm_146 : decode cX11_farm 146 = .ok (.ireturn, 1) := by decide +kernel
theorem dX11_farm_147 : decode cX11_farm 147 = .ok (.aload_n 0, 1) := by decide +kernel
theorem dX11_farm_148 : decode cX11_farm 148 = .ok (.getfield 52, 3) := by decide +kernel
theorem dX11_farm_151 : decode cX11_farm 151 = .ok (.iload_n 1, 1) := by decide +kernel
theorem dX11_farm_152 : decode cX11_farm 152 = .ok (.aload_n 0, 1) := by decide +kernel
theorem dX11_farm_153 : decode cX11_farm 153 = .ok (.invokevirtual 150, 3) := by decide +kernel
theorem dX11_farm_156 : decode cX11_farm 156 = .ok (.invokevirtual 211, 3) := by decide +kernel
theorem dX11_farm_159 : decode cX11_farm 159 = .ok (.ireturn, 1) := by decide +kernel
theorem dX11_farm_160 : decode cX11_farm 160 = .ok (.new 182, 3) := by decide +kernel
theorem dX11_farm_163 : decode cX11_farm 163 = .ok (.dup, 1) := by decide +kernel
theorem dX11_farm_164 : decode cX11_farm 164 = .ok (.ldc 215, 2) := by decide +kernel
theorem dX11_farm_166 : decode cX11_farm 166 = .ok (.invokespecial 186, 3) := by decide +kernel
theorem dX11_farm_169 : decode cX11_farm 169 = .ok (.athrow, 1) := by decide +kernel
theorem dX11_mistNow_0 : decode cX11_mistNow 0 = .ok (.aload_n 0, 1) := by decide +kernel
theorem dX11_mistNow_1 : decode cX11_mistNow 1 = .ok (.getfield 29, 3) := by decide +kernel
theorem dX11_mistNow_4 : decode cX11_mistNow 4 = .ok (.aload_n 0, 1) := by decide +kernel
theorem dX11_mistNow_5 : decode cX11_mistNow 5 = .ok (.getfield 36, 3) := by decide +kernel
theorem dX11_mistNow_8 : decode cX11_mistNow 8 = .ok (.getfield 109, 3) := by decide +kernel
theorem dX11_mistNow_11 : decode cX11_mistNow 11 = .ok (.getfield 147, 3) := by decide +kernel
theorem dX11_mistNow_14 : decode cX11_mistNow 14 = .ok (.invokevirtual 217, 3) := by decide +kernel
theorem dX11_mistNow_17 : decode cX11_mistNow 17 = .ok (.ireturn, 1) := by decide +kernel
theorem dX11_viewsNow_0 : decode cX11_viewsNow 0 = .ok (.aload_n 0, 1) := by decide +kernel
theorem dX11_viewsNow_1 : decode cX11_viewsNow 1 = .ok (.getfield 62, 3) := by decide +kernel
theorem dX11_viewsNow_4 : decode cX11_viewsNow 4 = .ok (.aload_n 0, 1) := by decide +kernel
theorem dX11_viewsNow_5 : decode cX11_viewsNow 5 = .ok (.getfield 52, 3) := by decide +kernel
theorem dX11_viewsNow_8 : decode cX11_viewsNow 8 = .ok (.aload_n 0, 1) := by decide +kernel
theorem dX11_viewsNow_9 : decode cX11_viewsNow 9 = .ok (.invokevirtual 150, 3) := by decide +kernel
theorem dX11_viewsNow_12 : decode cX11_viewsNow 12 = .ok (.invokevirtual 221, 3) := by decide +kernel
theorem dX11_viewsNow_15 : decode cX11_viewsNow 15 = .ok (.aload_n 0, 1) := by decide +kernel
theorem dX11_viewsNow_16 : decode cX11_viewsNow 16 = .ok (.getfield 62, 3) := by decide +kernel
theorem dX11_viewsNow_19 : decode cX11_viewsNow 19 = .ok (.areturn, 1) := by decide +kernel
theorem dX11_needFarm_0 : decode cX11_needFarm 0 = .ok (.iload_n 1, 1) := by decide +kernel
theorem dX11_needFarm_1 : decode cX11_needFarm 1 = .ok (.ifCond .lt 20, 3) := by decide +kernel
theorem dX11_needFarm_4 : decode cX11_needFarm 4 = .ok (.iload_n 1, 1) := by decide +kernel
theorem dX11_needFarm_5 : decode cX11_needFarm 5 = .ok (.aload_n 0, 1) := by decide +kernel
theorem dX11_needFarm_6 : decode cX11_needFarm 6 = .ok (.getfield 29, 3) := by decide +kernel
theorem dX11_needFarm_9 : decode cX11_needFarm 9 = .ok (.getfield 144, 3) := by decide +kernel
theorem dX11_needFarm_12 : decode cX11_needFarm 12 = .ok (.if_icmp .ge 9, 3) := by decide +kernel
theorem dX11_needFarm_15 : decode cX11_needFarm 15 = .ok (.iload_n 1, 1) := by decide +kernel
theorem dX11_needFarm_16 : decode cX11_needFarm 16 = .ok (.bipush 9, 2) := by decide +kernel
theorem dX11_needFarm_18 : decode cX11_needFarm 18 = .ok (.if_icmp .lt 13, 3) := by decide +kernel
theorem dX11_needFarm_21 : decode cX11_needFarm 21 = .ok (.new 182, 3) := by decide +kernel
theorem dX11_needFarm_24 : decode cX11_needFarm 24 = .ok (.dup, 1) := by decide +kernel
theorem dX11_needFarm_25 : decode cX11_needFarm 25 = .ok (.ldc 225, 2) := by decide +kernel
theorem dX11_needFarm_27 : decode cX11_needFarm 27 = .ok (.invokespecial 186, 3) := by decide +kernel
theorem dX11_needFarm_30 : decode cX11_needFarm 30 = .ok (.athrow, 1) := by decide +kernel
theorem dX11_needFarm_31 : decode cX11_needFarm 31 = .ok (.return_, 1) := by decide +kernel
theorem dX11_needFarms_0 : decode cX11_needFarms 0 = .ok (.aload_n 0, 1) := by decide +kernel
theorem dX11_needFarms_1 : decode cX11_needFarms 1 = .ok (.iload_n 1, 1) := by decide +kernel
theorem dX11_needFarms_2 : decode cX11_needFarms 2 = .ok (.invokevirtual 187, 3) := by decide +kernel
theorem dX11_needFarms_5 : decode cX11_needFarms 5 = .ok (.aload_n 0, 1) := by decide +kernel
theorem dX11_needFarms_6 : decode cX11_needFarms 6 = .ok (.iload_n 2, 1) := by decide +kernel
theorem dX11_needFarms_7 : decode cX11_needFarms 7 = .ok (.invokevirtual 187, 3) := by decide +kernel
theorem dX11_needFarms_10 : decode cX11_needFarms 10 = .ok (.return_, 1) := by decide +kernel
theorem dX11_needWhat_0 : decode cX11_needWhat 0 = .ok (.iload_n 0, 1) := by decide +kernel
theorem dX11_needWhat_1 : decode cX11_needWhat 1 = .ok (.ifCond .lt 8, 3) := by decide +kernel
theorem dX11_needWhat_4 : decode cX11_needWhat 4 = .ok (.iload_n 0, 1) := by decide +kernel
theorem dX11_needWhat_5 : decode cX11_needWhat 5 = .ok (.iload_n 1, 1) := by decide +kernel
theorem dX11_needWhat_6 : decode cX11_needWhat 6 = .ok (.if_icmp .le 13, 3) := by decide +kernel
theorem dX11_needWhat_9 : decode cX11_needWhat 9 = .ok (.new 182, 3) := by decide +kernel
theorem dX11_needWhat_12 : decode cX11_needWhat 12 = .ok (.dup, 1) := by decide +kernel
theorem dX11_needWhat_13 : decode cX11_needWhat 13 = .ok (.ldc 227, 2) := by decide +kernel
theorem dX11_needWhat_15 : decode cX11_needWhat 15 = .ok (.invokespecial 186, 3) := by decide +kernel
theorem dX11_needWhat_18 : decode cX11_needWhat 18 = .ok (.athrow, 1) := by decide +kernel
theorem dX11_needWhat_19 : decode cX11_needWhat 19 = .ok (.return_, 1) := by decide +kernel
theorem dX11_needWithin_0 : decode cX11_needWithin 0 = .ok (.iload_n 0, 1) := by decide +kernel
theorem dX11_needWithin_1 : decode cX11_needWithin 1 = .ok (.iload_n 1, 1) := by decide +kernel
theorem dX11_needWithin_2 : decode cX11_needWithin 2 = .ok (.if_icmp .lt 8, 3) := by decide +kernel
theorem dX11_needWithin_5 : decode cX11_needWithin 5 = .ok (.iload_n 0, 1) := by decide +kernel
theorem dX11_needWithin_6 : decode cX11_needWithin 6 = .ok (.iload_n 2, 1) := by decide +kernel
theorem dX11_needWithin_7 : decode cX11_needWithin 7 = .ok (.if_icmp .le 13, 3) := by decide +kernel
theorem dX11_needWithin_10 : decode cX11_needWithin 10 = .ok (.new 86, 3) := by decide +kernel
theorem dX11_needWithin_13 : decode cX11_needWithin 13 = .ok (.dup, 1) := by decide +kernel
theorem dX11_needWithin_14 : decode cX11_needWithin 14 = .ok (.ldc 229, 2) := by decide +kernel
theorem dX11_needWithin_16 : decode cX11_needWithin 16 = .ok (.invokespecial 90, 3) := by decide +kernel
theorem dX11_needWithin_19 : decode cX11_needWithin 19 = .ok (.athrow, 1) := by decide +kernel
theorem dX11_needWithin_20 : decode cX11_needWithin 20 = .ok (.return_, 1) := by decide +kernel
theorem dX11_ticks_0 : decode cX11_ticks 0 = .ok (.iload_n 1, 1) := by decide +kernel
theorem dX11_ticks_1 : decode cX11_ticks 1 = .ok (.iconst 1, 1) := by decide +kernel
theorem dX11_ticks_2 : decode cX11_ticks 2 = .ok (.if_icmp .lt 27, 3) := by decide +kernel
theorem dX11_ticks_5 : decode cX11_ticks 5 = .ok (.iload_n 1, 1) := by decide +kernel
theorem dX11_ticks_6 : decode cX11_ticks 6 = .ok (.bipush 20, 2) := by decide +kernel
theorem dX11_ticks_8 : decode cX11_ticks 8 = .ok (.if_icmp .gt 21, 3) := by decide +kernel
theorem dX11_ticks_11 : decode cX11_ticks 11 = .ok (.aload_n 0, 1) := by decide +kernel
theorem dX11_ticks_12 : decode cX11_ticks 12 = .ok (.getfield 36, 3) := by decide +kernel
theorem dX11_ticks_15 : decode cX11_ticks 15 = .ok (.getfield 109, 3) := by decide +kernel
theorem dX11_ticks_18 : decode cX11_ticks 18 = .ok (.getfield 147, 3) := by decide +kernel
theorem dX11_ticks_21 : decode cX11_ticks 21 = .ok (.iload_n 1, 1) := by decide +kernel
theorem dX11_ticks_22 : decode cX11_ticks 22 = .ok (.iadd, 1) := by decide +kernel
theorem dX11_ticks_23 : decode cX11_ticks 23 = .ok (.sipush 999, 3) := by decide +kernel
theorem dX11_ticks_26 : decode cX11_ticks 26 = .ok (.if_icmp .le 8, 3) := by decide +kernel
theorem dX11_ticks_29 : decode cX11_ticks 29 = .ok (.aload_n 0, 1) := by decide +kernel
theorem dX11_ticks_30 : decode cX11_ticks 30 = .ok (.invokevirtual 231, 3) := by decide +kernel
theorem dX11_ticks_33 : decode cX11_ticks 33 = .ok (.ireturn, 1) := by decide +kernel
theorem dX11_ticks_34 : decode cX11_ticks 34 = .ok (.aload_n 0, 1) := by decide +kernel
theorem dX11_ticks_35 : decode cX11_ticks 35 = .ok (.getfield 36, 3) := by decide +kernel
theorem dX11_ticks_38 : decode cX11_ticks 38 = .ok (.getfield 118, 3) := by decide +kernel
theorem dX11_ticks_41 : decode cX11_ticks 41 = .ok (.aload_n 0, 1) := by decide +kernel
theorem dX11_ticks_42 : decode cX11_ticks 42 = .ok (.getfield 36, 3) := by decide +kernel
theorem dX11_ticks_45 : decode cX11_ticks 45 = .ok (.getfield 109, 3) := by decide +kernel
theorem dX11_ticks_48 : decode cX11_ticks 48 = .ok (.invokevirtual 234, 3) := by decide +kernel
theorem dX11_ticks_51 : decode cX11_ticks 51 = .ok (.aload_n 0, 1) := by decide +kernel
theorem dX11_ticks_52 : decode cX11_ticks 52 = .ok (.getfield 71, 3) := by decide +kernel
theorem dX11_ticks_55 : decode cX11_ticks 55 = .ok (.aload_n 0, 1) := by decide +kernel
theorem dX11_ticks_56 : decode cX11_ticks 56 = .ok (.getfield 36, 3) := by decide +kernel
theorem dX11_ticks_59 : decode cX11_ticks 59 = .ok (.getfield 109, 3) := by decide +kernel
theorem dX11_ticks_62 : decode cX11_ticks 62 = .ok (.invokevirtual 238, 3) := by decide +kernel
theorem dX11_ticks_65 : decode cX11_ticks 65 = .ok (.iconst 0, 1) := by decide +kernel
theorem dX11_ticks_66 : decode cX11_ticks 66 = .ok (.istore_n 2, 1) := by decide +kernel
theorem dX11_ticks_67 : decode cX11_ticks 67 = .ok (.iload_n 2, 1) := by decide +kernel
theorem dX11_ticks_68 : decode cX11_ticks 68 = .ok (.iload_n 1, 1) := by decide +kernel
theorem dX11_ticks_69 : decode cX11_ticks 69 = .ok (.if_icmp .ge 17, 3) := by decide +kernel
theorem dX11_ticks_72 : decode cX11_ticks 72 = .ok (.aload_n 0, 1) := by decide +kernel
theorem dX11_ticks_73 : decode cX11_ticks 73 = .ok (.getfield 71, 3) := by decide +kernel
theorem dX11_ticks_76 : decode cX11_ticks 76 = .ok (.invokevirtual 241, 3) := by decide +kernel
theorem dX11_ticks_79 : decode cX11_ticks 79 = .ok (.pop, 1) := by decide +kernel
theorem dX11_ticks_80 : decode cX11_ticks 80 = .ok (.iinc 2 1, 3) := by decide +kernel
theorem dX11_ticks_83 : decode cX11_ticks 83 = .ok (.goto (-16), 3) := by decide +kernel
theorem dX11_ticks_86 : decode cX11_ticks 86 = .ok (.aload_n 0, 1) := by decide +kernel
theorem dX11_ticks_87 : decode cX11_ticks 87 = .ok (.getfield 36, 3) := by decide +kernel
theorem dX11_ticks_90 : decode cX11_ticks 90 = .ok (.getfield 109, 3) := by decide +kernel
theorem dX11_ticks_93 : decode cX11_ticks 93 = .ok (.aload_n 0, 1) := by decide +kernel
theorem dX11_ticks_94 : decode cX11_ticks 94 = .ok (.getfield 71, 3) := by decide +kernel
theorem dX11_ticks_97 : decode cX11_ticks 97 = .ok (.getfield 244, 3) := by decide +kernel
theorem dX11_ticks_100 : decode cX11_ticks 100 = .ok (.invokevirtual 245, 3) := by decide +kernel
theorem dX11_ticks_103 : decode cX11_ticks 103 = .ok (.aload_n 0, 1) := by decide +kernel
theorem dX11_ticks_104 : decode cX11_ticks 104 = .ok (.getfield 36, 3) := by decide +kernel
theorem dX11_ticks_107 : decode cX11_ticks 107 = .ok (.getfield 109, 3) := by decide +kernel
theorem dX11_ticks_110 : decode cX11_ticks 110 = .ok (.getfield 147, 3) := by decide +kernel
theorem dX11_ticks_113 : decode cX11_ticks 113 = .ok (.ireturn, 1) := by decide +kernel
theorem dX11_begin_0 : decode cX11_begin 0 = .ok (.aload_n 0, 1) := by decide +kernel
theorem dX11_begin_1 : decode cX11_begin 1 = .ok (.iload_n 1, 1) := by decide +kernel
theorem dX11_begin_2 : decode cX11_begin 2 = .ok (.invokevirtual 187, 3) := by decide +kernel
theorem dX11_begin_5 : decode cX11_begin 5 = .ok (.aload_n 0, 1) := by decide +kernel
theorem dX11_begin_6 : decode cX11_begin 6 = .ok (.getfield 36, 3) := by decide +kernel
theorem dX11_begin_9 : decode cX11_begin 9 = .ok (.getfield 109, 3) := by decide +kernel
theorem dX11_begin_12 : decode cX11_begin 12 = .ok (.iload_n 1, 1) := by decide +kernel
theorem dX11_begin_13 : decode cX11_begin 13 = .ok (.invokevirtual 247, 3) := by decide +kernel
theorem dX11_begin_16 : decode cX11_begin 16 = .ok (.ifCond .eq 10, 3) := by decide +kernel
theorem dX11_begin_19 : decode cX11_begin 19 = .ok (.aload_n 0, 1) := by decide +kernel
theorem dX11_begin_20 : decode cX11_begin 20 = .ok (.invokevirtual 231, 3) := by decide +kernel
theorem dX11_begin_23 : decode cX11_begin 23 = .ok (.pop, 1) := by decide +kernel
theorem dX11_begin_24 : decode cX11_begin 24 = .ok (.iconst 0, 1) := by decide +kernel
theorem dX11_begin_25 : decode cX11_begin 25 = .ok (.ireturn, 1) := by decide +kernel
theorem dX11_begin_26 : decode cX11_begin 26 = .ok (.aload_n 0, 1) := by decide +kernel
theorem dX11_begin_27 : decode cX11_begin 27 = .ok (.getfield 36, 3) := by decide +kernel
theorem dX11_begin_30 : decode cX11_begin 30 = .ok (.getfield 118, 3) := by decide +kernel
theorem dX11_begin_33 : decode cX11_begin 33 = .ok (.aload_n 0, 1) := by decide +kernel
theorem dX11_begin_34 : decode cX11_begin 34 = .ok (.getfield 36, 3) := by decide +kernel
theorem dX11_begin_37 : decode cX11_begin 37 = .ok (.getfield 109, 3) := by decide +kernel
theorem dX11_begin_40 : decode cX11_begin 40 = .ok (.invokevirtual 234, 3) := by decide +kernel
theorem dX11_begin_43 : decode cX11_begin 43 = .ok (.aload_n 0, 1) := by decide +kernel
theorem dX11_begin_44 : decode cX11_begin 44 = .ok (.getfield 36, 3) := by decide +kernel
theorem dX11_begin_47 : decode cX11_begin 47 = .ok (.getfield 109, 3) := by decide +kernel
theorem dX11_begin_50 : decode cX11_begin 50 = .ok (.iload_n 1, 1) := by decide +kernel
theorem dX11_begin_51 : decode cX11_begin 51 = .ok (.invokevirtual 250, 3) := by decide +kernel
theorem dX11_begin_54 : decode cX11_begin 54 = .ok (.iconst 1, 1) := by decide +kernel
theorem dX11_begin_55 : decode cX11_begin 55 = .ok (.ireturn, 1) := by decide +kernel
theorem dX11_sleep_0 : decode cX11_sleep 0 = .ok (.aload_n 0, 1) := by decide +kernel
theorem dX11_sleep_1 : decode cX11_sleep 1 = .ok (.iload_n 1, 1) := by decide +kernel
theorem dX11_sleep_2 : decode cX11_sleep 2 = .ok (.invokevirtual 187, 3) := by decide +kernel
theorem dX11_sleep_5 : decode cX11_sleep 5 = .ok (.aload_n 0, 1) := by decide +kernel
theorem dX11_sleep_6 : decode cX11_sleep 6 = .ok (.getfield 36, 3) := by decide +kernel
theorem dX11_sleep_9 : decode cX11_sleep 9 = .ok (.getfield 109, 3) := by decide +kernel
theorem dX11_sleep_12 : decode cX11_sleep 12 = .ok (.iload_n 1, 1) := by decide +kernel
theorem dX11_sleep_13 : decode cX11_sleep 13 = .ok (.invokevirtual 247, 3) := by decide +kernel
theorem dX11_sleep_16 : decode cX11_sleep 16 = .ok (.iload_n 2, 1) := by decide +kernel
theorem dX11_sleep_17 : decode cX11_sleep 17 = .ok (.if_icmp .ne 10, 3) := by decide +kernel
theorem dX11_sleep_20 : decode cX11_sleep 20 = .ok (.aload_n 0, 1) := by decide +kernel
theorem dX11_sleep_21 : decode cX11_sleep 21 = .ok (.invokevirtual 231, 3) := by decide +kernel
theorem dX11_sleep_24 : decode cX11_sleep 24 = .ok (.pop, 1) := by decide +kernel
theorem dX11_sleep_25 : decode cX11_sleep 25 = .ok (.iconst 0, 1) := by decide +kernel
theorem dX11_sleep_26 : decode cX11_sleep 26 = .ok (.ireturn, 1) := by decide +kernel
theorem dX11_sleep_27 : decode cX11_sleep 27 = .ok (.aload_n 0, 1) := by decide +kernel
theorem dX11_sleep_28 : decode cX11_sleep 28 = .ok (.getfield 36, 3) := by decide +kernel
theorem dX11_sleep_31 : decode cX11_sleep 31 = .ok (.getfield 118, 3) := by decide +kernel
theorem dX11_sleep_34 : decode cX11_sleep 34 = .ok (.aload_n 0, 1) := by decide +kernel
theorem dX11_sleep_35 : decode cX11_sleep 35 = .ok (.getfield 36, 3) := by decide +kernel
theorem dX11_sleep_38 : decode cX11_sleep 38 = .ok (.getfield 109, 3) := by decide +kernel
theorem dX11_sleep_41 : decode cX11_sleep 41 = .ok (.invokevirtual 234, 3) := by decide +kernel
theorem dX11_sleep_44 : decode cX11_sleep 44 = .ok (.aload_n 0, 1) := by decide +kernel
theorem dX11_sleep_45 : decode cX11_sleep 45 = .ok (.getfield 36, 3) := by decide +kernel
theorem dX11_sleep_48 : decode cX11_sleep 48 = .ok (.getfield 109, 3) := by decide +kernel
theorem dX11_sleep_51 : decode cX11_sleep 51 = .ok (.iload_n 1, 1) := by decide +kernel
theorem dX11_sleep_52 : decode cX11_sleep 52 = .ok (.invokevirtual 253, 3) := by decide +kernel
theorem dX11_sleep_55 : decode cX11_sleep 55 = .ok (.iconst 1, 1) := by decide +kernel
theorem dX11_sleep_56 : decode cX11_sleep 56 = .ok (.ireturn, 1) := by decide +kernel
theorem dX11_hat_0 : decode cX11_hat 0 = .ok (.aload_n 0, 1) := by decide +kernel
theorem dX11_hat_1 : decode cX11_hat 1 = .ok (.iload_n 1, 1) := by decide +kernel
theorem dX11_hat_2 : decode cX11_hat 2 = .ok (.invokevirtual 187, 3) := by decide +kernel
theorem dX11_hat_5 : decode cX11_hat 5 = .ok (.iload_n 2, 1) := by decide +kernel
theorem dX11_hat_6 : decode cX11_hat 6 = .ok (.ifCond .lt 9, 3) := by decide +kernel
theorem dX11_hat_9 : decode cX11_hat 9 = .ok (.iload_n 2, 1) := by decide +kernel
theorem dX11_hat_10 : decode cX11_hat 10 = .ok (.bipush 20, 2) := by decide +kernel
theorem dX11_hat_12 : decode cX11_hat 12 = .ok (.if_icmp .le 8, 3) := by decide +kernel
theorem dX11_hat_15 : decode cX11_hat 15 = .ok (.aload_n 0, 1) := by decide +kernel
theorem dX11_hat_16 : decode cX11_hat 16 = .ok (.invokevirtual 231, 3) := by decide +kernel
theorem dX11_hat_19 : decode cX11_hat 19 = .ok (.ireturn, 1) := by decide +kernel
theorem dX11_hat_20 : decode cX11_hat 20 = .ok (.aload_n 0, 1) := by decide +kernel
theorem dX11_hat_21 : decode cX11_hat 21 = .ok (.getfield 36, 3) := by decide +kernel
theorem dX11_hat_24 : decode cX11_hat 24 = .ok (.getfield 118, 3) := by decide +kernel
theorem dX11_hat_27 : decode cX11_hat 27 = .ok (.aload_n 0, 1) := by decide +kernel
theorem dX11_hat_28 : decode cX11_hat 28 = .ok (.getfield 36, 3) := by decide +kernel
theorem dX11_hat_31 : decode cX11_hat 31 = .ok (.getfield 109, 3) := by decide +kernel
theorem dX11_hat_34 : decode cX11_hat 34 = .ok (.invokevirtual 234, 3) := by decide +kernel
theorem dX11_hat_37 : decode cX11_hat 37 = .ok (.aload_n 0, 1) := by decide +kernel
theorem dX11_hat_38 : decode cX11_hat 38 = .ok (.getfield 36, 3) := by decide +kernel
theorem dX11_hat_41 : decode cX11_hat 41 = .ok (.getfield 109, 3) := by decide +kernel
theorem dX11_hat_44 : decode cX11_hat 44 = .ok (.getfield 134, 3) := by decide +kernel
theorem dX11_hat_47 : decode cX11_hat 47 = .ok (.iload_n 1, 1) := by decide +kernel
theorem dX11_hat_48 : decode cX11_hat 48 = .ok (.iaload, 1) := by decide +kernel
theorem dX11_hat_49 : decode cX11_hat 49 = .ok (.istore_n 3, 1) := by decide +kernel
theorem dX11_hat_50 : decode cX11_hat 50 = .ok (.aload_n 0, 1) := by decide +kernel
theorem dX11_hat_51 : decode cX11_hat 51 = .ok (.getfield 36, 3) := by decide +kernel
theorem dX11_hat_54 : decode cX11_hat 54 = .ok (.getfield 109, 3) := by decide +kernel
theorem dX11_hat_57 : decode cX11_hat 57 = .ok (.getfield 134, 3) := by decide +kernel
theorem dX11_hat_60 : decode cX11_hat 60 = .ok (.iload_n 1, 1) := by decide +kernel
theorem dX11_hat_61 : decode cX11_hat 61 = .ok (.iload_n 2, 1) := by decide +kernel
theorem dX11_hat_62 : decode cX11_hat 62 = .ok (.iastore, 1) := by decide +kernel
theorem dX11_hat_63 : decode cX11_hat 63 = .ok (.aload_n 0, 1) := by decide +kernel
theorem dX11_hat_64 : decode cX11_hat 64 = .ok (.getfield 52, 3) := by decide +kernel
theorem dX11_hat_67 : decode cX11_hat 67 = .ok (.aload_n 0, 1) := by decide +kernel
theorem dX11_hat_68 : decode cX11_hat 68 = .ok (.getfield 36, 3) := by decide +kernel
theorem dX11_hat_71 : decode cX11_hat 71 = .ok (.getfield 109, 3) := by decide +kernel
theorem dX11_hat_74 : decode cX11_hat 74 = .ok (.getfield 134, 3) := by decide +kernel
theorem dX11_hat_77 : decode cX11_hat 77 = .ok (.invokevirtual 137, 3) := by decide +kernel
theorem dX11_hat_80 : decode cX11_hat 80 = .ok (.iload_n 3, 1) := by decide +kernel
theorem dX11_hat_81 : decode cX11_hat 81 = .ok (.ireturn, 1) := by decide +kernel
theorem dX11_hush_0 : decode cX11_hush 0 = .ok (.aload_n 0, 1) := by decide +kernel
theorem dX11_hush_1 : decode cX11_hush 1 = .ok (.getfield 36, 3) := by decide +kernel
theorem dX11_hush_4 : decode cX11_hush 4 = .ok (.getfield 109, 3) := by decide +kernel
theorem dX11_hush_7 : decode cX11_hush 7 = .ok (.invokevirtual 162, 3) := by decide +kernel
theorem dX11_hush_10 : decode cX11_hush 10 = .ok (.istore_n 1, 1) := by decide +kernel
theorem dX11_hush_11 : decode cX11_hush 11 = .ok (.iload_n 1, 1) := by decide +kernel
theorem dX11_hush_12 : decode cX11_hush 12 = .ok (.ifCond .ne 8, 3) := by decide +kernel
theorem dX11_hush_15 : decode cX11_hush 15 = .ok (.aload_n 0, 1) := by decide +kernel
theorem dX11_hush_16 : decode cX11_hush 16 = .ok (.invokevirtual 231, 3) := by decide +kernel
theorem dX11_hush_19 : decode cX11_hush 19 = .ok (.ireturn, 1) := by decide +kernel
theorem dX11_hush_20 : decode cX11_hush 20 = .ok (.aload_n 0, 1) := by decide +kernel
theorem dX11_hush_21 : decode cX11_hush 21 = .ok (.getfield 36, 3) := by decide +kernel
theorem dX11_hush_24 : decode cX11_hush 24 = .ok (.getfield 118, 3) := by decide +kernel
theorem dX11_hush_27 : decode cX11_hush 27 = .ok (.aload_n 0, 1) := by decide +kernel
theorem dX11_hush_28 : decode cX11_hush 28 = .ok (.getfield 36, 3) := by decide +kernel
theorem dX11_hush_31 : decode cX11_hush 31 = .ok (.getfield 109, 3) := by decide +kernel
theorem dX11_hush_34 : decode cX11_hush 34 = .ok (.invokevirtual 234, 3) := by decide +kernel
theorem dX11_hush_37 : decode cX11_hush 37 = .ok (.aload_n 0, 1) := by decide +kernel
theorem dX11_hush_38 : decode cX11_hush 38 = .ok (.getfield 36, 3) := by decide +kernel
theorem dX11_hush_41 : decode cX11_hush 41 = .ok (.getfield 109, 3) := by decide +kernel
theorem dX11_hush_44 : decode cX11_hush 44 = .ok (.invokevirtual 256, 3) := by decide +kernel
theorem dX11_hush_47 : decode cX11_hush 47 = .ok (.iload_n 1, 1) := by decide +kernel
theorem dX11_hush_48 : decode cX11_hush 48 = .ok (.ireturn, 1) := by decide +kernel
theorem dX11_undo_0 : decode cX11_undo 0 = .ok (.aload_n 0, 1) := by decide +kernel
theorem dX11_undo_1 : decode cX11_undo 1 = .ok (.getfield 36, 3) := by decide +kernel
theorem dX11_undo_4 : decode cX11_undo 4 = .ok (.getfield 118, 3) := by decide +kernel
theorem dX11_undo_7 : decode cX11_undo 7 = .ok (.aload_n 0, 1) := by decide +kernel
theorem dX11_undo_8 : decode cX11_undo 8 = .ok (.getfield 36, 3) := by decide +kernel
theorem dX11_undo_11 : decode cX11_undo 11 = .ok (.getfield 109, 3) := by decide +kernel
theorem dX11_undo_14 : decode cX11_undo 14 = .ok (.invokevirtual 259, 3) := by decide +kernel
theorem dX11_undo_17 : decode cX11_undo 17 = .ok (.ifCond .ne 5, 3) := by decide +kernel
theorem dX11_undo_20 : decode cX11_undo 20 = .ok (.iconst (-1), 1) := by decide +kernel
theorem dX11_undo_21 : decode cX11_undo 21 = .ok (.ireturn, 1) := by decide +kernel
theorem dX11_undo_22 : decode cX11_undo 22 = .ok (.aload_n 0, 1) := by decide +kernel
theorem dX11_undo_23 : decode cX11_undo 23 = .ok (.getfield 52, 3) := by decide +kernel
theorem dX11_undo_26 : decode cX11_undo 26 = .ok (.aload_n 0, 1) := by decide +kernel
theorem dX11_undo_27 : decode cX11_undo 27 = .ok (.getfield 36, 3) := by decide +kernel
theorem dX11_undo_30 : decode cX11_undo 30 = .ok (.getfield 109, 3) := by decide +kernel
theorem dX11_undo_33 : decode cX11_undo 33 = .ok (.getfield 134, 3) := by decide +kernel
theorem dX11_undo_36 : decode cX11_undo 36 = .ok (.invokevirtual 137, 3) := by decide +kernel
theorem dX11_undo_39 : decode cX11_undo 39 = .ok (.aload_n 0, 1) := by decide +kernel
theorem dX11_undo_40 : decode cX11_undo 40 = .ok (.getfield 36, 3) := by decide +kernel
theorem dX11_undo_43 : decode cX11_undo 43 = .ok (.getfield 118, 3) := by decide +kernel
theorem dX11_undo_46 : decode cX11_undo 46 = .ok (.getfield 178, 3) := by decide +kernel
theorem dX11_undo_49 : decode cX11_undo 49 = .ok (.ireturn, 1) := by decide +kernel
theorem dX11_refuseAct_0 : decode cX11_refuseAct 0 = .ok (.aload_n 0, 1) := by decide +kernel
theorem dX11_refuseAct_1 : decode cX11_refuseAct 1 = .ok (.getfield 36, 3) := by decide +kernel
theorem dX11_refuseAct_4 : decode cX11_refuseAct 4 = .ok (.getfield 97, 3) := by decide +kernel
theorem dX11_refuseAct_7 : decode cX11_refuseAct 7 = .ok (.iconst 1, 1) := by decide +kernel
theorem dX11_refuseAct_8 : decode cX11_refuseAct 8 = .ok (.dup2, 1) := by decide +kernel
theorem dX11_refuseAct_9 : decode cX11_refuseAct 9 = .ok (.iaload, 1) := by decide +kernel
theorem dX11_refuseAct_10 : decode cX11_refuseAct 10 = .ok (.iconst 1, 1) := by decide +kernel
theorem dX11_refuseAct_11 : decode cX11_refuseAct 11 = .ok (.iadd, 1) := by decide +kernel
theorem dX11_refuseAct_12 : decode cX11_refuseAct 12 = .ok (.iastore, 1) := by decide +kernel
theorem dX11_refuseAct_13 : decode cX11_refuseAct 13 = .ok (.iconst (-1), 1) := by decide +kernel
theorem dX11_refuseAct_14 : decode cX11_refuseAct 14 = .ok (.ireturn, 1) := by decide +kernel
theorem dX11_nodding_0 : decode cX11_nodding 0 = .ok (.iload_n 1, 1) := by decide +kernel
theorem dX11_nodding_1 : decode cX11_nodding 1 = .ok (.iconst 1, 1) := by decide +kernel
theorem dX11_nodding_2 : decode cX11_nodding 2 = .ok (.bipush 60, 2) := by decide +kernel
theorem dX11_nodding_4 : decode cX11_nodding 4 = .ok (.invokestatic 263, 3) := by decide +kernel
theorem dX11_nodding_7 : decode cX11_nodding 7 = .ok (.aload_n 0, 1) := by decide +kernel
theorem dX11_nodding_8 : decode cX11_nodding 8 = .ok (.getfield 71, 3) := by decide +kernel
theorem dX11_nodding_11 : decode cX11_nodding 11 = .ok (.aload_n 0, 1) := by decide +kernel
theorem dX11_nodding_12 : decode cX11_nodding 12 = .ok (.getfield 36, 3) := by decide +kernel
theorem dX11_nodding_15 : decode cX11_nodding 15 = .ok (.getfield 109, 3) := by decide +kernel
theorem dX11_nodding_18 : decode cX11_nodding 18 = .ok (.invokevirtual 238, 3) := by decide +kernel
theorem dX11_nodding_21 : decode cX11_nodding 21 = .ok (.iconst 0, 1) := by decide +kernel
theorem dX11_nodding_22 : decode cX11_nodding 22 = .ok (.istore_n 2, 1) := by decide +kernel
theorem dX11_nodding_23 : decode cX11_nodding 23 = .ok (.iconst 1, 1) := by decide +kernel
theorem dX11_nodding_24 : decode cX11_nodding 24 = .ok (.istore_n 3, 1) := by decide +kernel
theorem dX11_nodding_25 : decode cX11_nodding 25 = .ok (.iload_n 3, 1) := by decide +kernel
theorem dX11_nodding_26 : decode cX11_nodding 26 = .ok (.iload_n 1, 1) := by decide +kernel
theorem dX11_nodding_27 : decode cX11_nodding 27 = .ok (.if_icmp .gt 17, 3) := by decide +kernel
theorem dX11_nodding_30 : decode cX11_nodding 30 = .ok (.aload_n 0, 1) := by decide +kernel
theorem dX11_nodding_31 : decode cX11_nodding 31 = .ok (.getfield 71, 3) := by decide +kernel
theorem dX11_nodding_34 : decode cX11_nodding 34 = .ok (.invokevirtual 241, 3) := by decide +kernel
theorem dX11_nodding_37 : decode cX11_nodding 37 = .ok (.istore_n 2, 1) := by decide +kernel
theorem dX11_nodding_38 : decode cX11_nodding 38 = .ok (.iinc 3 1, 3) := by decide +kernel
theorem dX11_nodding_41 : decode cX11_nodding 41 = .ok (.goto (-16), 3) := by decide +kernel
theorem dX11_nodding_44 : decode cX11_nodding 44 = .ok (.iload_n 2, 1) := by decide +kernel
theorem dX11_nodding_45 : decode cX11_nodding 45 = .ok (.ireturn, 1) := by decide +kernel
theorem dX11_then_0 : decode cX11_then 0 = .ok (.aload_n 0, 1) := by decide +kernel
theorem dX11_then_1 : decode cX11_then 1 = .ok (.iload_n 1, 1) := by decide +kernel
theorem dX11_then_2 : decode cX11_then 2 = .ok (.invokevirtual 187, 3) := by decide +kernel
theorem dX11_then_5 : decode cX11_then 5 = .ok (.iload_n 3, 1) := by decide +kernel
theorem dX11_then_6 : decode cX11_then 6 = .ok (.iconst 1, 1) := by decide +kernel
theorem dX11_then_7 : decode cX11_then 7 = .ok (.invokestatic 267, 3) := by decide +kernel
theorem dX11_then_10 : decode cX11_then 10 = .ok (.iload_n 2, 1) := by decide +kernel
theorem dX11_then_11 : decode cX11_then 11 = .ok (.iconst 0, 1) := by decide +kernel
theorem dX11_then_12 : decode cX11_then 12 = .ok (.bipush 60, 2) := by decide +kernel
theorem dX11_then_14 : decode cX11_then 14 = .ok (.invokestatic 263, 3) := by decide +kernel
theorem dX11_then_17 : decode cX11_then 17 = .ok (.aload_n 0, 1) := by decide +kernel
theorem dX11_then_18 : decode cX11_then 18 = .ok (.getfield 71, 3) := by decide +kernel
theorem dX11_then_21 : decode cX11_then 21 = .ok (.aload_n 0, 1) := by decide +kernel
theorem dX11_then_22 : decode cX11_then 22 = .ok (.getfield 36, 3) := by decide +kernel
theorem dX11_then_25 : decode cX11_then 25 = .ok (.getfield 109, 3) := by decide +kernel
theorem dX11_then_28 : decode cX11_then 28 = .ok (.invokevirtual 238, 3) := by decide +kernel
theorem dX11_then_31 : decode cX11_then 31 = .ok (.iconst 1, 1) := by decide +kernel
theorem dX11_then_32 : decode cX11_then 32 = .ok (.istore 4, 2) := by decide +kernel
theorem dX11_then_34 : decode cX11_then 34 = .ok (.iload 4, 2) := by decide +kernel
theorem dX11_then_36 : decode cX11_then 36 = .ok (.iload_n 2, 1) := by decide +kernel
theorem dX11_then_37 : decode cX11_then 37 = .ok (.if_icmp .gt 17, 3) := by decide +kernel
theorem dX11_then_40 : decode cX11_then 40 = .ok (.aload_n 0, 1) := by decide +kernel
theorem dX11_then_41 : decode cX11_then 41 = .ok (.getfield 71, 3) := by decide +kernel
theorem dX11_then_44 : decode cX11_then 44 = .ok (.invokevirtual 241, 3) := by decide +kernel
theorem dX11_then_47 : decode cX11_then 47 = .ok (.pop, 1) := by decide +kernel
theorem dX11_then_48 : decode cX11_then 48 = .ok (.iinc 4 1, 3) := by decide +kernel
theorem dX11_then_51 : decode cX11_then 51 = .ok (.goto (-17), 3) := by decide +kernel
theorem dX11_then_54 : decode cX11_then 54 = .ok (.iload_n 3, 1) := by decide +kernel
theorem dX11_then_55 : decode cX11_then 55 = .ok (.ifCond .ne 18, 3) := by decide +kernel
theorem dX11_then_58 : decode cX11_then 58 = .ok (.aload_n 0, 1) := by decide +kernel
theorem dX11_then_59 : decode cX11_then 59 = .ok (.getfield 71, 3) := by decide +kernel
theorem dX11_then_62 : decode cX11_then 62 = .ok (.getfield 244, 3) := by decide +kernel
theorem dX11_then_65 : decode cX11_then 65 = .ok (.getfield 199, 3) := by decide +kernel
theorem dX11_then_68 : decode cX11_then 68 = .ok (.iload_n 1, 1) := by decide +kernel
theorem dX11_then_69 : decode cX11_then 69 = .ok (.iaload, 1) := by decide +kernel
theorem dX11_then_70 : decode cX11_then 70 = .ok (.goto 15, 3) := by decide +kernel
theorem dX11_then_73 : decode cX11_then 73 = .ok (.aload_n 0, 1) := by decide +kernel
theorem dX11_then_74 : decode cX11_then 74 = .ok (.getfield 71, 3) := by decide +kernel
theorem dX11_then_77 : decode cX11_then 77 = .ok (.getfield 244, 3) := by decide +kernel
theorem dX11_then_80 : decode cX11_then 80 = .ok (.getfield 205, 3) := by decide +kernel
theorem dX11_then_83 : decode cX11_then 83 = .ok (.iload_n 1, 1) := by decide +kernel
theorem dX11_then_84 : decode cX11_then 84 = .ok (.iaload, 1) := by decide +kernel
theorem dX11_then_85 : decode cX11_then 85 = .ok (.ireturn, 1) := by decide +kernel
theorem dX11_first_0 : decode cX11_first 0 = .ok (.aload_n 0, 1) := by decide +kernel
theorem dX11_first_1 : decode cX11_first 1 = .ok (.iload_n 1, 1) := by decide +kernel
theorem dX11_first_2 : decode cX11_first 2 = .ok (.invokevirtual 187, 3) := by decide +kernel
theorem dX11_first_5 : decode cX11_first 5 = .ok (.aload_n 0, 1) := by decide +kernel
theorem dX11_first_6 : decode cX11_first 6 = .ok (.getfield 71, 3) := by decide +kernel
theorem dX11_first_9 : decode cX11_first 9 = .ok (.aload_n 0, 1) := by decide +kernel
theorem dX11_first_10 : decode cX11_first 10 = .ok (.getfield 36, 3) := by decide +kernel
theorem dX11_first_13 : decode cX11_first 13 = .ok (.getfield 109, 3) := by decide +kernel
theorem dX11_first_16 : decode cX11_first 16 = .ok (.invokevirtual 238, 3) := by decide +kernel
theorem dX11_first_19 : decode cX11_first 19 = .ok (.aload_n 0, 1) := by decide +kernel
theorem dX11_first_20 : decode cX11_first 20 = .ok (.getfield 71, 3) := by decide +kernel
theorem dX11_first_23 : decode cX11_first 23 = .ok (.iload_n 1, 1) := by decide +kernel
theorem dX11_first_24 : decode cX11_first 24 = .ok (.invokevirtual 271, 3) := by decide +kernel
theorem dX11_first_27 : decode cX11_first 27 = .ok (.ireturn, 1) := by decide +kernel
theorem dX11_still_0 : decode cX11_still 0 = .ok (.aload_n 0, 1) := by decide +kernel
theorem dX11_still_1 : decode cX11_still 1 = .ok (.getfield 71, 3) := by decide +kernel
theorem dX11_still_4 : decode cX11_still 4 = .ok (.aload_n 0, 1) := by decide +kernel
theorem dX11_still_5 : decode cX11_still 5 = .ok (.getfield 36, 3) := by decide +kernel
theorem dX11_still_8 : decode cX11_still 8 = .ok (.getfield 109, 3) := by decide +kernel
theorem dX11_still_11 : decode cX11_still 11 = .ok (.invokevirtual 238, 3) := by decide +kernel
theorem dX11_still_14 : decode cX11_still 14 = .ok (.iconst 0, 1) := by decide +kernel
theorem dX11_still_15 : decode cX11_still 15 = .ok (.istore_n 1, 1) := by decide +kernel
theorem dX11_still_16 : decode cX11_still 16 = .ok (.iload_n 1, 1) := by decide +kernel
theorem dX11_still_17 : decode cX11_still 17 = .ok (.bipush 60, 2) := by decide +kernel
theorem dX11_still_19 : decode cX11_still 19 = .ok (.if_icmp .gt 32, 3) := by decide +kernel
theorem dX11_still_22 : decode cX11_still 22 = .ok (.aload_n 0, 1) := by decide +kernel
theorem dX11_still_23 : decode cX11_still 23 = .ok (.getfield 71, 3) := by decide +kernel
theorem dX11_still_26 : decode cX11_still 26 = .ok (.getfield 244, 3) := by decide +kernel
theorem dX11_still_29 : decode cX11_still 29 = .ok (.invokevirtual 162, 3) := by decide +kernel
theorem dX11_still_32 : decode cX11_still 32 = .ok (.ifCond .ne 5, 3) := by decide +kernel
theorem dX11_still_35 : decode cX11_still 35 = .ok (.iload_n 1, 1) := by decide +kernel
theorem dX11_still_36 : decode cX11_still 36 = .ok (.ireturn, 1) := by decide +kernel
theorem dX11_still_37 : decode cX11_still 37 = .ok (.aload_n 0, 1) := by decide +kernel
theorem dX11_still_38 : decode cX11_still 38 = .ok (.getfield 71, 3) := by decide +kernel
theorem dX11_still_41 : decode cX11_still 41 = .ok (.invokevirtual 241, 3) := by decide +kernel
theorem dX11_still_44 : decode cX11_still 44 = .ok (.pop, 1) := by decide +kernel
theorem dX11_still_45 : decode cX11_still 45 = .ok (.iinc 1 1, 3) := by decide +kernel
theorem dX11_still_48 : decode cX11_still 48 = .ok (.goto (-32), 3) := by decide +kernel
theorem dX11_still_51 : decode cX11_still 51 = .ok (.iconst (-1), 1) := by decide +kernel
theorem dX11_still_52 : decode cX11_still 52 = .ok (.ireturn, 1) := by decide +kernel
theorem dX11_loudest_0 : decode cX11_loudest 0 = .ok (.iload_n 1, 1) := by decide +kernel
theorem dX11_loudest_1 : decode cX11_loudest 1 = .ok (.iconst 1, 1) := by decide +kernel
theorem dX11_loudest_2 : decode cX11_loudest 2 = .ok (.bipush 60, 2) := by decide +kernel
theorem dX11_loudest_4 : decode cX11_loudest 4 = .ok (.invokestatic 263, 3) := by decide +kernel
theorem dX11_loudest_7 : decode cX11_loudest 7 = .ok (.aload_n 0, 1) := by decide +kernel
theorem dX11_loudest_8 : decode cX11_loudest 8 = .ok (.getfield 71, 3) := by decide +kernel
theorem dX11_loudest_11 : decode cX11_loudest 11 = .ok (.aload_n 0, 1) := by decide +kernel
theorem dX11_loudest_12 : decode cX11_loudest 12 = .ok (.getfield 36, 3) := by decide +kernel
theorem dX11_loudest_15 : decode cX11_loudest 15 = .ok (.getfield 109, 3) := by decide +kernel
theorem dX11_loudest_18 : decode cX11_loudest 18 = .ok (.invokevirtual 238, 3) := by decide +kernel
theorem dX11_loudest_21 : decode cX11_loudest 21 = .ok (.iconst (-1), 1) := by decide +kernel
theorem dX11_loudest_22 : decode cX11_loudest 22 = .ok (.istore_n 2, 1) := by decide +kernel
theorem dX11_loudest_23 : decode cX11_loudest 23 = .ok (.iconst (-1), 1) := by decide +kernel
theorem dX11_loudest_24 : decode cX11_loudest 24 = .ok (.istore_n 3, 1) := by decide +kernel
theorem dX11_loudest_25 : decode cX11_loudest 25 = .ok (.iconst 1, 1) := by decide +kernel
theorem dX11_loudest_26 : decode cX11_loudest 26 = .ok (.istore 4, 2) := by decide +kernel
theorem dX11_loudest_28 : decode cX11_loudest 28 = .ok (.iload 4, 2) := by decide +kernel
theorem dX11_loudest_30 : decode cX11_loudest 30 = .ok (.iload_n 1, 1) := by decide +kernel
theorem dX11_loudest_31 : decode cX11_loudest 31 = .ok (.if_icmp .gt 33, 3) := by decide +kernel
theorem dX11_loudest_34 : decode cX11_loudest 34 = .ok (.aload_n 0, 1) := by decide +kernel
theorem dX11_loudest_35 : decode cX11_loudest 35 = .ok (.getfield 71, 3) := by decide +kernel
theorem dX11_loudest_38 : decode cX11_loudest 38 = .ok (.invokevirtual 241, 3) := by decide +kernel
theorem dX11_loudest_41 : decode cX11_loudest 41 = .ok (.invokestatic 274, 3) := by decide +kernel
theorem dX11_loudest_44 : decode cX11_loudest 44 = .ok (.istore 5, 2) := by decide +kernel
theorem dX11_loudest_46 : decode cX11_loudest 46 = .ok (.iload 5, 2) := by decide +kernel
theorem dX11_loudest_48 : decode cX11_loudest 48 = .ok (.iload_n 2, 1) := by decide +kernel
theorem dX11_loudest_49 : decode cX11_loudest 49 = .ok (.if_icmp .le 9, 3) := by decide +kernel
theorem dX11_loudest_52 : decode cX11_loudest 52 = .ok (.iload 5, 2) := by decide +kernel
theorem dX11_loudest_54 : decode cX11_loudest 54 = .ok (.istore_n 2, 1) := by decide +kernel
theorem dX11_loudest_55 : decode cX11_loudest 55 = .ok (.iload 4, 2) := by decide +kernel
theorem dX11_loudest_57 : decode cX11_loudest 57 = .ok (.istore_n 3, 1) := by decide +kernel
theorem dX11_loudest_58 : decode cX11_loudest 58 = .ok (.iinc 4 1, 3) := by decide +kernel
theorem dX11_loudest_61 : decode cX11_loudest 61 = .ok (.goto (-33), 3) := by decide +kernel
theorem dX11_loudest_64 : decode cX11_loudest 64 = .ok (.iload_n 3, 1) := by decide +kernel
theorem dX11_loudest_65 : decode cX11_loudest 65 = .ok (.ireturn, 1) := by decide +kernel
theorem dX11_oftenest_0 : decode cX11_oftenest 0 = .ok (.iload_n 1, 1) := by decide +kernel
theorem dX11_oftenest_1 : decode cX11_oftenest 1 = .ok (.iconst 1, 1) := by decide +kernel
theorem dX11_oftenest_2 : decode cX11_oftenest 2 = .ok (.bipush 60, 2) := by decide +kernel
theorem dX11_oftenest_4 : decode cX11_oftenest 4 = .ok (.invokestatic 263, 3) := by decide +kernel
theorem dX11_oftenest_7 : decode cX11_oftenest 7 = .ok (.aload_n 0, 1) := by decide +kernel
theorem dX11_oftenest_8 : decode cX11_oftenest 8 = .ok (.getfield 71, 3) := by decide +kernel
theorem dX11_oftenest_11 : decode cX11_oftenest 11 = .ok (.aload_n 0, 1) := by decide +kernel
theorem dX11_oftenest_12 : decode cX11_oftenest 12 = .ok (.getfield 36, 3) := by decide +kernel
theorem dX11_oftenest_15 : decode cX11_oftenest 15 = .ok (.getfield 109, 3) := by decide +kernel
theorem dX11_oftenest_18 : decode cX11_oftenest 18 = .ok (.invokevirtual 238, 3) := by decide +kernel
theorem dX11_oftenest_21 : decode cX11_oftenest 21 = .ok (.iconst 1, 1) := by decide +kernel
theorem dX11_oftenest_22 : decode cX11_oftenest 22 = .ok (.istore_n 2, 1) := by decide +kernel
theorem dX11_oftenest_23 : decode cX11_oftenest 23 = .ok (.iload_n 2, 1) := by decide +kernel
theorem dX11_oftenest_24 : decode cX11_oftenest 24 = .ok (.iload_n 1, 1) := by decide +kernel
theorem dX11_oftenest_25 : decode cX11_oftenest 25 = .ok (.if_icmp .gt 17, 3) := by decide +kernel
theorem dX11_oftenest_28 : decode cX11_oftenest 28 = .ok (.aload_n 0, 1) := by decide +kernel
theorem dX11_oftenest_29 : decode cX11_oftenest 29 = .ok (.getfield 71, 3) := by decide +kernel
theorem dX11_oftenest_32 : decode cX11_oftenest 32 = .ok (.invokevirtual 241, 3) := by decide +kernel
theorem dX11_oftenest_35 : decode cX11_oftenest 35 = .ok (.pop, 1) := by decide +kernel
theorem dX11_oftenest_36 : decode cX11_oftenest 36 = .ok (.iinc 2 1, 3) := by decide +kernel
theorem dX11_oftenest_39 : decode cX11_oftenest 39 = .ok (.goto (-16), 3) := by decide +kernel
theorem dX11_oftenest_42 : decode cX11_oftenest 42 = .ok (.iconst (-1), 1) := by decide +kernel
theorem dX11_oftenest_43 : decode cX11_oftenest 43 = .ok (.istore_n 2, 1) := by decide +kernel
theorem dX11_oftenest_44 : decode cX11_oftenest 44 = .ok (.iconst (-1), 1) := by decide +kernel
theorem dX11_oftenest_45 : decode cX11_oftenest 45 = .ok (.istore_n 3, 1) := by decide +kernel
theorem dX11_oftenest_46 : decode cX11_oftenest 46 = .ok (.iconst 0, 1) := by decide +kernel
theorem dX11_oftenest_47 : decode cX11_oftenest 47 = .ok (.istore 4, 2) := by decide +kernel
theorem dX11_oftenest_49 : decode cX11_oftenest 49 = .ok (.iload 4, 2) := by decide +kernel
theorem dX11_oftenest_51 : decode cX11_oftenest 51 = .ok (.aload_n 0, 1) := by decide +kernel
theorem dX11_oftenest_52 : decode cX11_oftenest 52 = .ok (.getfield 29, 3) := by decide +kernel
theorem dX11_oftenest_55 : decode cX11_oftenest 55 = .ok (.getfield 144, 3) := by decide +kernel
theorem dX11_oftenest_58 : decode cX11_oftenest 58 = .ok (.if_icmp .ge 37, 3) := by decide +kernel
theorem dX11_oftenest_61 : decode cX11_oftenest 61 = .ok (.aload_n 0, 1) := by decide +kernel
theorem dX11_oftenest_62 : decode cX11_oftenest 62 = .ok (.getfield 71, 3) := by decide +kernel
theorem dX11_oftenest_65 : decode cX11_oftenest 65 = .ok (.getfield 279, 3) := by decide +kernel
theorem dX11_oftenest_68 : decode cX11_oftenest 68 = .ok (.iload 4, 2) := by decide +kernel
theorem dX11_oftenest_70 : decode cX11_oftenest 70 = .ok (.iaload, 1) := by decide +kernel
theorem dX11_oftenest_71 : decode cX11_oftenest 71 = .ok (.iload_n 2, 1) := by decide +kernel
theorem dX11_oftenest_72 : decode cX11_oftenest 72 = .ok (.if_icmp .le 17, 3) := by decide +kernel
theorem dX11_oftenest_75 : decode cX11_oftenest 75 = .ok (.aload_n 0, 1) := by decide +kernel
theorem dX11_oftenest_76 : decode cX11_oftenest 76 = .ok (.getfield 71, 3) := by decide +kernel
theorem dX11_oftenest_79 : decode cX11_oftenest 79 = .ok (.getfield 279, 3) := by decide +kernel
theorem dX11_oftenest_82 : decode cX11_oftenest 82 = .ok (.iload 4, 2) := by decide +kernel
theorem dX11_oftenest_84 : decode cX11_oftenest 84 = .ok (.iaload, 1) := by decide +kernel
theorem dX11_oftenest_85 : decode cX11_oftenest 85 = .ok (.istore_n 2, 1) := by decide +kernel
theorem dX11_oftenest_86 : decode cX11_oftenest 86 = .ok (.iload 4, 2) := by decide +kernel
theorem dX11_oftenest_88 : decode cX11_oftenest 88 = .ok (.istore_n 3, 1) := by decide +kernel
theorem dX11_oftenest_89 : decode cX11_oftenest 89 = .ok (.iinc 4 1, 3) := by decide +kernel
theorem dX11_oftenest_92 : decode cX11_oftenest 92 = .ok (.goto (-43), 3) := by decide +kernel
theorem dX11_oftenest_95 : decode cX11_oftenest 95 = .ok (.iload_n 3, 1) := by decide +kernel
theorem dX11_oftenest_96 : decode cX11_oftenest 96 = .ok (.ireturn, 1) := by decide +kernel
theorem dX11_crowd_0 : decode cX11_crowd 0 = .ok (.iload_n 2, 1) := by decide +kernel
theorem dX11_crowd_1 : decode cX11_crowd 1 = .ok (.iconst 1, 1) := by decide +kernel
theorem dX11_crowd_2 : decode cX11_crowd 2 = .ok (.invokestatic 267, 3) := by decide +kernel
theorem dX11_crowd_5 : decode cX11_crowd 5 = .ok (.iload_n 1, 1) := by decide +kernel
theorem dX11_crowd_6 : decode cX11_crowd 6 = .ok (.iconst 1, 1) := by decide +kernel
theorem dX11_crowd_7 : decode cX11_crowd 7 = .ok (.bipush 60, 2) := by decide +kernel
theorem dX11_crowd_9 : decode cX11_crowd 9 = .ok (.invokestatic 263, 3) := by decide +kernel
theorem dX11_crowd_12 : decode cX11_crowd 12 = .ok (.aload_n 0, 1) := by decide +kernel
theorem dX11_crowd_13 : decode cX11_crowd 13 = .ok (.getfield 71, 3) := by decide +kernel
theorem dX11_crowd_16 : decode cX11_crowd 16 = .ok (.aload_n 0, 1) := by decide +kernel
theorem dX11_crowd_17 : decode cX11_crowd 17 = .ok (.getfield 36, 3) := by decide +kernel
theorem dX11_crowd_20 : decode cX11_crowd 20 = .ok (.getfield 109, 3) := by decide +kernel
theorem dX11_crowd_23 : decode cX11_crowd 23 = .ok (.invokevirtual 238, 3) := by decide +kernel
theorem dX11_crowd_26 : decode cX11_crowd 26 = .ok (.iconst 0, 1) := by decide +kernel
theorem dX11_crowd_27 : decode cX11_crowd 27 = .ok (.istore_n 3, 1) := by decide +kernel
theorem dX11_crowd_28 : decode cX11_crowd 28 = .ok (.iconst 0, 1) := by decide +kernel
theorem dX11_crowd_29 : decode cX11_crowd 29 = .ok (.istore 4, 2) := by decide +kernel
theorem dX11_crowd_31 : decode cX11_crowd 31 = .ok (.iconst 1, 1) := by decide +kernel
theorem dX11_crowd_32 : decode cX11_crowd 32 = .ok (.istore 5, 2) := by decide +kernel
theorem dX11_crowd_34 : decode cX11_crowd 34 = .ok (.iload 5, 2) := by decide +kernel
theorem dX11_crowd_36 : decode cX11_crowd 36 = .ok (.iload_n 1, 1) := by decide +kernel
theorem dX11_crowd_37 : decode cX11_crowd 37 = .ok (.if_icmp .gt 43, 3) := by decide +kernel
theorem dX11_crowd_40 : decode cX11_crowd 40 = .ok (.aload_n 0, 1) := by decide +kernel
theorem dX11_crowd_41 : decode cX11_crowd 41 = .ok (.getfield 71, 3) := by decide +kernel
theorem dX11_crowd_44 : decode cX11_crowd 44 = .ok (.invokevirtual 241, 3) := by decide +kernel
theorem dX11_crowd_47 : decode cX11_crowd 47 = .ok (.invokestatic 274, 3) := by decide +kernel
theorem dX11_crowd_50 : decode cX11_crowd 50 = .ok (.istore 6, 2) := by decide +kernel
theorem dX11_crowd_52 : decode cX11_crowd 52 = .ok (.iload_n 3, 1) := by decide +kernel
theorem dX11_crowd_53 : decode cX11_crowd 53 = .ok (.iload 6, 2) := by decide +kernel
theorem dX11_crowd_55 : decode cX11_crowd 55 = .ok (.invokestatic 282, 3) := by decide +kernel
theorem dX11_crowd_58 : decode cX11_crowd 58 = .ok (.istore_n 3, 1) := by decide +kernel
theorem dX11_crowd_59 : decode cX11_crowd 59 = .ok (.iload 4, 2) := by decide +kernel
theorem dX11_crowd_61 : decode cX11_crowd 61 = .ok (.iload 6, 2) := by decide +kernel
theorem dX11_crowd_63 : decode cX11_crowd 63 = .ok (.ifCond .ne 7, 3) := by decide +kernel
theorem dX11_crowd_66 : decode cX11_crowd 66 = .ok (.iconst 1, 1) := by decide +kernel
theorem dX11_crowd_67 : decode cX11_crowd 67 = .ok (.goto 4, 3) := by decide +kernel
theorem dX11_crowd_70 : decode cX11_crowd 70 = .ok (.iconst 0, 1) := by decide +kernel
theorem dX11_crowd_71 : decode cX11_crowd 71 = .ok (.iadd, 1) := by decide +kernel
theorem dX11_crowd_72 : decode cX11_crowd 72 = .ok (.istore 4, 2) := by decide +kernel
theorem dX11_crowd_74 : decode cX11_crowd 74 = .ok (.iinc 5 1, 3) := by decide +kernel
theorem dX11_crowd_77 : decode cX11_crowd 77 = .ok (.goto (-43), 3) := by decide +kernel
theorem dX11_crowd_80 : decode cX11_crowd 80 = .ok (.iload_n 2, 1) := by decide +kernel
theorem dX11_crowd_81 : decode cX11_crowd 81 = .ok (.ifCond .ne 7, 3) := by decide +kernel
theorem dX11_crowd_84 : decode cX11_crowd 84 = .ok (.iload_n 3, 1) := by decide +kernel
theorem dX11_crowd_85 : decode cX11_crowd 85 = .ok (.goto 5, 3) := by decide +kernel
theorem dX11_crowd_88 : decode cX11_crowd 88 = .ok (.iload 4, 2) := by decide +kernel
theorem dX11_crowd_90 : decode cX11_crowd 90 = .ok (.ireturn, 1) := by decide +kernel
theorem dX11_reaches_0 : decode cX11_reaches 0 = .ok (.aload_n 0, 1) := by decide +kernel
theorem dX11_reaches_1 : decode cX11_reaches 1 = .ok (.iload_n 1, 1) := by decide +kernel
theorem dX11_reaches_2 : decode cX11_reaches 2 = .ok (.iload_n 2, 1) := by decide +kernel
theorem dX11_reaches_3 : decode cX11_reaches 3 = .ok (.invokevirtual 287, 3) := by decide +kernel
theorem dX11_reaches_6 : decode cX11_reaches 6 = .ok (.aload_n 0, 1) := by decide +kernel
theorem dX11_reaches_7 : decode cX11_reaches 7 = .ok (.getfield 71, 3) := by decide +kernel
theorem dX11_reaches_10 : decode cX11_reaches 10 = .ok (.aload_n 0, 1) := by decide +kernel
theorem dX11_reaches_11 : decode cX11_reaches 11 = .ok (.getfield 36, 3) := by decide +kernel
theorem dX11_reaches_14 : decode cX11_reaches 14 = .ok (.getfield 109, 3) := by decide +kernel
theorem dX11_reaches_17 : decode cX11_reaches 17 = .ok (.iconst 1, 1) := by decide +kernel
theorem dX11_reaches_18 : decode cX11_reaches 18 = .ok (.iload_n 1, 1) := by decide +kernel
theorem dX11_reaches_19 : decode cX11_reaches 19 = .ok (.ishl, 1) := by decide +kernel
theorem dX11_reaches_20 : decode cX11_reaches 20 = .ok (.invokevirtual 290, 3) := by decide +kernel
theorem dX11_reaches_23 : decode cX11_reaches 23 = .ok (.aload_n 0, 1) := by decide +kernel
theorem dX11_reaches_24 : decode cX11_reaches 24 = .ok (.getfield 71, 3) := by decide +kernel
theorem dX11_reaches_27 : decode cX11_reaches 27 = .ok (.iload_n 2, 1) := by decide +kernel
theorem dX11_reaches_28 : decode cX11_reaches 28 = .ok (.invokevirtual 271, 3) := by decide +kernel
theorem dX11_reaches_31 : decode cX11_reaches 31 = .ok (.ireturn, 1) := by decide +kernel
theorem dX11_reached_0 : decode cX11_reached 0 = .ok (.aload_n 0, 1) := by decide +kernel
theorem dX11_reached_1 : decode cX11_reached 1 = .ok (.iload_n 1, 1) := by decide +kernel
theorem dX11_reached_2 : decode cX11_reached 2 = .ok (.invokevirtual 187, 3) := by decide +kernel
theorem dX11_reached_5 : decode cX11_reached 5 = .ok (.iload_n 2, 1) := by decide +kernel
theorem dX11_reached_6 : decode cX11_reached 6 = .ok (.iconst 0, 1) := by decide +kernel
theorem dX11_reached_7 : decode cX11_reached 7 = .ok (.bipush 60, 2) := by decide +kernel
theorem dX11_reached_9 : decode cX11_reached 9 = .ok (.invokestatic 263, 3) := by decide +kernel
theorem dX11_reached_12 : decode cX11_reached 12 = .ok (.aload_n 0, 1) := by decide +kernel
theorem dX11_reached_13 : decode cX11_reached 13 = .ok (.iconst 1, 1) := by decide +kernel
theorem dX11_reached_14 : decode cX11_reached 14 = .ok (.iload_n 1, 1) := by decide +kernel
theorem dX11_reached_15 : decode cX11_reached 15 = .ok (.ishl, 1) := by decide +kernel
theorem dX11_reached_16 : decode cX11_reached 16 = .ok (.iload_n 2, 1) := by decide +kernel
theorem dX11_reached_17 : decode cX11_reached 17 = .ok (.invokevirtual 294, 3) := by decide +kernel
theorem dX11_reached_20 : decode cX11_reached 20 = .ok (.ireturn, 1) := by decide +kernel
theorem dX11_through_0 : decode cX11_through 0 = .ok (.aload_n 0, 1) := by decide +kernel
theorem dX11_through_1 : decode cX11_through 1 = .ok (.iload_n 1, 1) := by decide +kernel
theorem dX11_through_2 : decode cX11_through 2 = .ok (.iload_n 2, 1) := by decide +kernel
theorem dX11_through_3 : decode cX11_through 3 = .ok (.invokevirtual 287, 3) := by decide +kernel
theorem dX11_through_6 : decode cX11_through 6 = .ok (.aload_n 0, 1) := by decide +kernel
theorem dX11_through_7 : decode cX11_through 7 = .ok (.getfield 71, 3) := by decide +kernel
theorem dX11_through_10 : decode cX11_through 10 = .ok (.aload_n 0, 1) := by decide +kernel
theorem dX11_through_11 : decode cX11_through 11 = .ok (.getfield 36, 3) := by decide +kernel
theorem dX11_through_14 : decode cX11_through 14 = .ok (.getfield 109, 3) := by decide +kernel
theorem dX11_through_17 : decode cX11_through 17 = .ok (.iconst 1, 1) := by decide +kernel
theorem dX11_through_18 : decode cX11_through 18 = .ok (.iload_n 1, 1) := by decide +kernel
theorem dX11_through_19 : decode cX11_through 19 = .ok (.ishl, 1) := by decide +kernel
theorem dX11_through_20 : decode cX11_through 20 = .ok (.invokevirtual 290, 3) := by decide +kernel
theorem dX11_through_23 : decode cX11_through 23 = .ok (.aload_n 0, 1) := by decide +kernel
theorem dX11_through_24 : decode cX11_through 24 = .ok (.getfield 71, 3) := by decide +kernel
theorem dX11_through_27 : decode cX11_through 27 = .ok (.iload_n 2, 1) := by decide +kernel
theorem dX11_through_28 : decode cX11_through 28 = .ok (.invokevirtual 271, 3) := by decide +kernel
theorem dX11_through_31 : decode cX11_through 31 = .ok (.iconst (-1), 1) := by decide +kernel
theorem dX11_through_32 : decode cX11_through 32 = .ok (.if_icmp .ne 5, 3) := by decide +kernel
theorem dX11_through_35 : decode cX11_through 35 = .ok (.iconst 0, 1) := by decide +kernel
theorem dX11_through_36 : decode cX11_through 36 = .ok (.ireturn, 1) := by decide +kernel
theorem dX11_through_37 : decode cX11_through 37 = .ok (.iconst 0, 1) := by decide +kernel
theorem dX11_through_38 : decode cX11_through 38 = .ok (.istore_n 3, 1) := by decide +kernel
theorem dX11_through_39 : decode cX11_through 39 = .ok (.iconst 0, 1) := by decide +kernel
theorem dX11_through_40 : decode cX11_through 40 = .ok (.istore 4, 2) := by decide +kernel
theorem dX11_through_42 : decode cX11_through 42 = .ok (.iload 4, 2) := by decide +kernel
theorem dX11_through_44 : decode cX11_through 44 = .ok (.aload_n 0, 1) := by decide +kernel
theorem dX11_through_45 : decode cX11_through 45 = .ok (.getfield 29, 3) := by decide +kernel
theorem dX11_through_48 : decode cX11_through 48 = .ok (.getfield 144, 3) := by decide +kernel
theorem dX11_through_51 : decode cX11_through 51 = .ok (.if_icmp .ge 39, 3) := by decide +kernel
theorem dX11_through_54 : decode cX11_through 54 = .ok (.iload 4, 2) := by decide +kernel
theorem dX11_through_56 : decode cX11_through 56 = .ok (.iload_n 1, 1) := by decide +kernel
theorem dX11_through_57 : decode cX11_through 57 = .ok (.if_icmp .eq 27, 3) := by decide +kernel
theorem dX11_through_60 : decode cX11_through 60 = .ok (.iload 4, 2) := by decide +kernel
theorem dX11_through_62 : decode cX11_through 62 = .ok (.iload_n 2, 1) := by decide +kernel
theorem dX11_through_63 : decode cX11_through 63 = .ok (.if_icmp .eq 21, 3) := by decide +kernel
theorem dX11_through_66 : decode cX11_through 66 = .ok (.aload_n 0, 1) := by decide +kernel
theorem dX11_through_67 : decode cX11_through 67 = .ok (.iload_n 1, 1) := by decide +kernel
theorem dX11_through_68 : decode cX11_through 68 = .ok (.iload_n 2, 1) := by decide +kernel
theorem dX11_through_69 : decode cX11_through 69 = .ok (.iload 4, 2) := by decide +kernel
theorem dX11_through_71 : decode cX11_through 71 = .ok (.invokevirtual 297, 3) := by decide +kernel
theorem dX11_through_74 : decode cX11_through 74 = .ok (.ifCond .ne 10, 3) := by decide +kernel
theorem dX11_through_77 : decode cX11_through 77 = .ok (.iload_n 3, 1) := by decide +kernel
theorem dX11_through_78 : decode cX11_through 78 = .ok (.iconst 1, 1) := by decide +kernel
theorem dX11_through_79 : decode cX11_through 79 = .ok (.iload 4, 2) := by decide +kernel
theorem dX11_through_81 : decode cX11_through 81 = .ok (.ishl, 1) := by decide +kernel
theorem dX11_through_82 : decode cX11_through 82 = .ok (.ior, 1) := by decide +kernel
theorem dX11_through_83 : decode cX11_through 83 = .ok (.istore_n 3, 1) := by decide +kernel
theorem dX11_through_84 : decode cX11_through 84 = .ok (.iinc 4 1, 3) := by decide +kernel
theorem dX11_through_87 : decode cX11_through 87 = .ok (.goto (-45), 3) := by decide +kernel
theorem dX11_through_90 : decode cX11_through 90 = .ok (.iload_n 3, 1) := by decide +kernel
theorem dX11_through_91 : decode cX11_through 91 = .ok (.ireturn, 1) := by decide +kernel
theorem dX11_reachesWithout_0 : decode cX11_reachesWithout 0 = .ok (.aload_n 0, 1) := by decide +kernel
theorem dX11_reachesWithout_1 : decode cX11_reachesWithout 1 = .ok (.getfield 71, 3) := by decide +kernel
theorem dX11_reachesWithout_4 : decode cX11_reachesWithout 4 = .ok (.aload_n 0, 1) := by decide +kernel
theorem dX11_reachesWithout_5 : decode cX11_reachesWithout 5 = .ok (.getfield 36, 3) := by decide +kernel
theorem dX11_reachesWithout_8 : decode cX11_reachesWithout 8 = .ok (.getfield 109, 3) := by decide +kernel
theorem dX11_reachesWithout_11 : decode cX11_reachesWithout 11 = .ok (.iconst 1, 1) := by decide +kernel
theorem dX11_reachesWithout_12 : decode cX11_reachesWithout 12 = .ok (.iload_n 1, 1) := by decide +kernel
theorem dX11_reachesWithout_13 : decode cX11_reachesWithout 13 = .ok (.ishl, 1) := by decide +kernel
theorem dX11_reachesWithout_14 : decode cX11_reachesWithout 14 = .ok (.invokevirtual 290, 3) := by decide +kernel
theorem dX11_reachesWithout_17 : decode cX11_reachesWithout 17 = .ok (.aload_n 0, 1) := by decide +kernel
theorem dX11_reachesWithout_18 : decode cX11_reachesWithout 18 = .ok (.getfield 71, 3) := by decide +kernel
theorem dX11_reachesWithout_21 : decode cX11_reachesWithout 21 = .ok (.getfield 244, 3) := by decide +kernel
theorem dX11_reachesWithout_24 : decode cX11_reachesWithout 24 = .ok (.dup, 1) := by decide +kernel
theorem dX11_reachesWithout_25 : decode cX11_reachesWithout 25 = .ok (.getfield 159, 3) := by decide +kernel
theorem dX11_reachesWithout_28 : decode cX11_reachesWithout 28 = .ok (.iconst 1, 1) := by decide +kernel
theorem dX11_reachesWithout_29 : decode cX11_reachesWithout 29 = .ok (.iload_n 3, 1) := by decide +kernel
theorem dX11_reachesWithout_30 : decode cX11_reachesWithout 30 = .ok (.ishl, 1) := by decide +kernel
theorem dX11_reachesWithout_31 : decode cX11_reachesWithout 31 = .ok (.ior, 1) := by decide +kernel
theorem dX11_reachesWithout_32 : decode cX11_reachesWithout 32 = .ok (.putfield 159, 3) := by decide +kernel
theorem dX11_reachesWithout_35 : decode cX11_reachesWithout 35 = .ok (.aload_n 0, 1) := by decide +kernel
theorem dX11_reachesWithout_36 : decode cX11_reachesWithout 36 = .ok (.getfield 71, 3) := by decide +kernel
theorem dX11_reachesWithout_39 : decode cX11_reachesWithout 39 = .ok (.iload_n 2, 1) := by decide +kernel
theorem dX11_reachesWithout_40 : decode cX11_reachesWithout 40 = .ok (.invokevirtual 271, 3) := by decide +kernel
theorem dX11_reachesWithout_43 : decode cX11_reachesWithout 43 = .ok (.iconst (-1), 1) := by decide +kernel
theorem dX11_reachesWithout_44 : decode cX11_reachesWithout 44 = .ok (.if_icmp .eq 7, 3) := by decide +kernel
theorem dX11_reachesWithout_47 : decode cX11_reachesWithout 47 = .ok (.iconst 1, 1) := by decide +kernel
theorem dX11_reachesWithout_48 : decode cX11_reachesWithout 48 = .ok (.goto 4, 3) := by decide +kernel
theorem dX11_reachesWithout_51 : decode cX11_reachesWithout 51 = .ok (.iconst 0, 1) := by decide +kernel
theorem dX11_reachesWithout_52 : decode cX11_reachesWithout 52 = .ok (.ireturn, 1) := by decide +kernel
theorem dX11_best_0 : decode cX11_best 0 = .ok (.iload_n 1, 1) := by decide +kernel
theorem dX11_best_1 : decode cX11_best 1 = .ok (.iconst 1, 1) := by decide +kernel
theorem dX11_best_2 : decode cX11_best 2 = .ok (.bipush 60, 2) := by decide +kernel
theorem dX11_best_4 : decode cX11_best 4 = .ok (.invokestatic 263, 3) := by decide +kernel
theorem dX11_best_7 : decode cX11_best 7 = .ok (.iconst (-1), 1) := by decide +kernel
theorem dX11_best_8 : decode cX11_best 8 = .ok (.istore_n 2, 1) := by decide +kernel
theorem dX11_best_9 : decode cX11_best 9 = .ok (.iconst (-1), 1) := by decide +kernel
theorem dX11_best_10 : decode cX11_best 10 = .ok (.istore_n 3, 1) := by decide +kernel
theorem dX11_best_11 : decode cX11_best 11 = .ok (.iconst 0, 1) := by decide +kernel
theorem dX11_best_12 : decode cX11_best 12 = .ok (.istore 4, 2) := by decide +kernel
theorem dX11_best_14 : decode cX11_best 14 = .ok (.iload 4, 2) := by decide +kernel
theorem dX11_best_16 : decode cX11_best 16 = .ok (.aload_n 0, 1) := by decide +kernel
theorem dX11_best_17 : decode cX11_best 17 = .ok (.getfield 29, 3) := by decide +kernel
theorem dX11_best_20 : decode cX11_best 20 = .ok (.getfield 144, 3) := by decide +kernel
theorem dX11_best_23 : decode cX11_best 23 = .ok (.if_icmp .ge 35, 3) := by decide +kernel
theorem dX11_best_26 : decode cX11_best 26 = .ok (.aload_n 0, 1) := by decide +kernel
theorem dX11_best_27 : decode cX11_best 27 = .ok (.iconst 1, 1) := by decide +kernel
theorem dX11_best_28 : decode cX11_best 28 = .ok (.iload 4, 2) := by decide +kernel
theorem dX11_best_30 : decode cX11_best 30 = .ok (.ishl, 1) := by decide +kernel
theorem dX11_best_31 : decode cX11_best 31 = .ok (.iload_n 1, 1) := by decide +kernel
theorem dX11_best_32 : decode cX11_best 32 = .ok (.invokevirtual 294, 3) := by decide +kernel
theorem dX11_best_35 : decode cX11_best 35 = .ok (.invokestatic 274, 3) := by decide +kernel
theorem dX11_best_38 : decode cX11_best 38 = .ok (.istore 5, 2) := by decide +kernel
theorem dX11_best_40 : decode cX11_best 40 = .ok (.iload 5, 2) := by decide +kernel
theorem dX11_best_42 : decode cX11_best 42 = .ok (.iload_n 2, 1) := by decide +kernel
theorem dX11_best_43 : decode cX11_best 43 = .ok (.if_icmp .le 9, 3) := by decide +kernel
theorem dX11_best_46 : decode cX11_best 46 = .ok (.iload 5, 2) := by decide +kernel
theorem dX11_best_48 : decode cX11_best 48 = .ok (.istore_n 2, 1) := by decide +kernel
theorem dX11_best_49 : decode cX11_best 49 = .ok (.iload 4, 2) := by decide +kernel
theorem dX11_best_51 : decode cX11_best 51 = .ok (.istore_n 3, 1) := by decide +kernel
theorem dX11_best_52 : decode cX11_best 52 = .ok (.iinc 4 1, 3) := by decide +kernel
theorem dX11_best_55 : decode cX11_best 55 = .ok (.goto (-41), 3) := by decide +kernel
theorem dX11_best_58 : decode cX11_best 58 = .ok (.iload_n 3, 1) := by decide +kernel
theorem dX11_best_59 : decode cX11_best 59 = .ok (.ireturn, 1) := by decide +kernel
theorem dX11_toBegin_0 : decode cX11_toBegin 0 = .ok (.iload_n 1, 1) := by decide +kernel
theorem dX11_toBegin_1 : decode cX11_toBegin 1 = .ok (.iconst 1, 1) := by decide +kernel
theorem dX11_toBegin_2 : decode cX11_toBegin 2 = .ok (.bipush 60, 2) := by decide +kernel
theorem dX11_toBegin_4 : decode cX11_toBegin 4 = .ok (.invokestatic 263, 3) := by decide +kernel
theorem dX11_toBegin_7 : decode cX11_toBegin 7 = .ok (.aload_n 0, 1) := by decide +kernel
theorem dX11_toBegin_8 : decode cX11_toBegin 8 = .ok (.getfield 29, 3) := by decide +kernel
theorem dX11_toBegin_11 : decode cX11_toBegin 11 = .ok (.invokevirtual 301, 3) := by decide +kernel
theorem dX11_toBegin_14 : decode cX11_toBegin 14 = .ok (.aload_n 0, 1) := by decide +kernel
theorem dX11_toBegin_15 : decode cX11_toBegin 15 = .ok (.getfield 36, 3) := by decide +kernel
theorem dX11_toBegin_18 : decode cX11_toBegin 18 = .ok (.getfield 109, 3) := by decide +kernel
theorem dX11_toBegin_21 : decode cX11_toBegin 21 = .ok (.getfield 159, 3) := by decide +kernel
theorem dX11_toBegin_24 : decode cX11_toBegin 24 = .ok (.iconst (-1), 1) := by decide +kernel
theorem dX11_toBegin_25 : decode cX11_toBegin 25 = .ok (.ixor, 1) := by decide +kernel
theorem dX11_toBegin_26 : decode cX11_toBegin 26 = .ok (.iand, 1) := by decide +kernel
theorem dX11_toBegin_27 : decode cX11_toBegin 27 = .ok (.istore_n 2, 1) := by decide +kernel
theorem dX11_toBegin_28 : decode cX11_toBegin 28 = .ok (.iconst 0, 1) := by decide +kernel
theorem dX11_toBegin_29 : decode cX11_toBegin 29 = .ok (.istore_n 3, 1) := by decide +kernel
theorem dX11_toBegin_30 : decode cX11_toBegin 30 = .ok (.iload_n 3, 1) := by decide +kernel
theorem dX11_toBegin_31 : decode cX11_toBegin 31 = .ok (.aload_n 0, 1) := by decide +kernel
theorem dX11_toBegin_32 : decode cX11_toBegin 32 = .ok (.getfield 29, 3) := by decide +kernel
theorem dX11_toBegin_35 : decode cX11_toBegin 35 = .ok (.getfield 144, 3) := by decide +kernel
theorem dX11_toBegin_38 : decode cX11_toBegin 38 = .ok (.if_icmp .gt 56, 3) := by decide +kernel
theorem dX11_toBegin_41 : decode cX11_toBegin 41 = .ok (.iconst 0, 1) := by decide +kernel
theorem dX11_toBegin_42 : decode cX11_toBegin 42 = .ok (.istore 4, 2) := by decide +kernel
theorem dX11_toBegin_44 : decode cX11_toBegin 44 = .ok (.iload 4, 2) := by decide +kernel
theorem dX11_toBegin_46 : decode cX11_toBegin 46 = .ok (.iload_n 2, 1) := by decide +kernel
theorem dX11_toBegin_47 : decode cX11_toBegin 47 = .ok (.if_icmp .gt 41, 3) := by decide +kernel
theorem dX11_toBegin_50 : decode cX11_toBegin 50 = .ok (.iload 4, 2) := by decide +kernel
theorem dX11_toBegin_52 : decode cX11_toBegin 52 = .ok (.iload_n 2, 1) := by decide +kernel
theorem dX11_toBegin_53 : decode cX11_toBegin 53 = .ok (.iconst (-1), 1) := by decide +kernel
theorem dX11_toBegin_54 : decode cX11_toBegin 54 = .ok (.ixor, 1) := by decide +kernel
theorem dX11_toBegin_55 : decode cX11_toBegin 55 = .ok (.iand, 1) := by decide +kernel
theorem dX11_toBegin_56 : decode cX11_toBegin 56 = .ok (.ifCond .ne 26, 3) := by decide +kernel
theorem dX11_toBegin_59 : decode cX11_toBegin 59 = .ok (.iload 4, 2) := by decide +kernel
theorem dX11_toBegin_61 : decode cX11_toBegin 61 = .ok (.invokestatic 274, 3) := by decide +kernel
theorem dX11_toBegin_64 : decode cX11_toBegin 64 = .ok (.iload_n 3, 1) := by decide +kernel
theorem dX11_toBegin_65 : decode cX11_toBegin 65 = .ok (.if_icmp .ne 17, 3) := by decide +kernel
theorem dX11_toBegin_68 : decode cX11_toBegin 68 = .ok (.aload_n 0, 1) := by decide +kernel
theorem dX11_toBegin_69 : decode cX11_toBegin 69 = .ok (.iload 4, 2) := by decide +kernel
theorem dX11_toBegin_71 : decode cX11_toBegin 71 = .ok (.iload_n 1, 1) := by decide +kernel
theorem dX11_toBegin_72 : decode cX11_toBegin 72 = .ok (.invokevirtual 294, 3) := by decide +kernel
theorem dX11_toBegin_75 : decode cX11_toBegin 75 = .ok (.iload_n 2, 1) := by decide +kernel
theorem dX11_toBegin_76 : decode cX11_toBegin 76 = .ok (.if_icmp .ne 6, 3) := by decide +kernel
theorem dX11_toBegin_79 : decode cX11_toBegin 79 = .ok (.iload 4, 2) := by decide +kernel
theorem dX11_toBegin_81 : decode cX11_toBegin 81 = .ok (.ireturn, 1) := by decide +kernel
theorem dX11_toBegin_82 : decode cX11_toBegin 82 = .ok (.iinc 4 1, 3) := by decide +kernel
theorem dX11_toBegin_85 : decode cX11_toBegin 85 = .ok (.goto (-41), 3) := by decide +kernel
theorem dX11_toBegin_88 : decode cX11_toBegin 88 = .ok (.iinc 3 1, 3) := by decide +kernel
theorem dX11_toBegin_91 : decode cX11_toBegin 91 = .ok (.goto (-61), 3) := by decide +kernel
theorem dX11_toBegin_94 : decode cX11_toBegin 94 = .ok (.iconst (-1), 1) := by decide +kernel
theorem dX11_toBegin_95 : decode cX11_toBegin 95 = .ok (.ireturn, 1) := by decide +kernel
theorem dX11_reachedBy_0 : decode cX11_reachedBy 0 = .ok (.aload_n 0, 1) := by decide +kernel
theorem dX11_reachedBy_1 : decode cX11_reachedBy 1 = .ok (.getfield 71, 3) := by decide +kernel
theorem dX11_reachedBy_4 : decode cX11_reachedBy 4 = .ok (.aload_n 0, 1) := by decide +kernel
theorem dX11_reachedBy_5 : decode cX11_reachedBy 5 = .ok (.getfield 36, 3) := by decide +kernel
theorem dX11_reachedBy_8 : decode cX11_reachedBy 8 = .ok (.getfield 109, 3) := by decide +kernel
theorem dX11_reachedBy_11 : decode cX11_reachedBy 11 = .ok (.iload_n 1, 1) := by decide +kernel
theorem dX11_reachedBy_12 : decode cX11_reachedBy 12 = .ok (.invokevirtual 290, 3) := by decide +kernel
theorem dX11_reachedBy_15 : decode cX11_reachedBy 15 = .ok (.aload_n 0, 1) := by decide +kernel
theorem dX11_reachedBy_16 : decode cX11_reachedBy 16 = .ok (.getfield 71, 3) := by decide +kernel
theorem dX11_reachedBy_19 : decode cX11_reachedBy 19 = .ok (.iload_n 2, 1) := by decide +kernel
theorem dX11_reachedBy_20 : decode cX11_reachedBy 20 = .ok (.invokevirtual 304, 3) := by decide +kernel
theorem dX11_reachedBy_23 : decode cX11_reachedBy 23 = .ok (.ireturn, 1) := by decide +kernel
theorem dX11_way_0 : decode cX11_way 0 = .ok (.aload_n 0, 1) := by decide +kernel
theorem dX11_way_1 : decode cX11_way 1 = .ok (.iload_n 1, 1) := by decide +kernel
theorem dX11_way_2 : decode cX11_way 2 = .ok (.iload_n 2, 1) := by decide +kernel
theorem dX11_way_3 : decode cX11_way 3 = .ok (.invokevirtual 287, 3) := by decide +kernel
theorem dX11_way_6 : decode cX11_way 6 = .ok (.aload_n 0, 1) := by decide +kernel
theorem dX11_way_7 : decode cX11_way 7 = .ok (.invokevirtual 165, 3) := by decide +kernel
theorem dX11_way_10 : decode cX11_way 10 = .ok (.iload_n 1, 1) := by decide +kernel
theorem dX11_way_11 : decode cX11_way 11 = .ok (.iload_n 2, 1) := by decide +kernel
theorem dX11_way_12 : decode cX11_way 12 = .ok (.invokevirtual 307, 3) := by decide +kernel
theorem dX11_way_15 : decode cX11_way 15 = .ok (.ireturn, 1) := by decide +kernel
theorem dX11_toHat_0 : decode cX11_toHat 0 = .ok (.aload_n 0, 1) := by decide +kernel
theorem dX11_toHat_1 : decode cX11_toHat 1 = .ok (.iload_n 1, 1) := by decide +kernel
theorem dX11_toHat_2 : decode cX11_toHat 2 = .ok (.iload_n 2, 1) := by decide +kernel
theorem dX11_toHat_3 : decode cX11_toHat 3 = .ok (.invokevirtual 287, 3) := by decide +kernel
theorem dX11_toHat_6 : decode cX11_toHat 6 = .ok (.iload_n 1, 1) := by decide +kernel
theorem dX11_toHat_7 : decode cX11_toHat 7 = .ok (.iload_n 2, 1) := by decide +kernel
theorem dX11_toHat_8 : decode cX11_toHat 8 = .ok (.if_icmp .eq 19, 3) := by decide +kernel
theorem dX11_toHat_11 : decode cX11_toHat 11 = .ok (.aload_n 0, 1) := by decide +kernel
theorem dX11_toHat_12 : decode cX11_toHat 12 = .ok (.getfield 56, 3) := by decide +kernel
theorem dX11_toHat_15 : decode cX11_toHat 15 = .ok (.iload_n 1, 1) := by decide +kernel
theorem dX11_toHat_16 : decode cX11_toHat 16 = .ok (.iload_n 2, 1) := by decide +kernel
theorem dX11_toHat_17 : decode cX11_toHat 17 = .ok (.aload_n 0, 1) := by decide +kernel
theorem dX11_toHat_18 : decode cX11_toHat 18 = .ok (.invokevirtual 150, 3) := by decide +kernel
theorem dX11_toHat_21 : decode cX11_toHat 21 = .ok (.invokevirtual 310, 3) := by decide +kernel
theorem dX11_toHat_24 : decode cX11_toHat 24 = .ok (.ifCond .ne 5, 3) := by decide +kernel
theorem dX11_toHat_27 : decode cX11_toHat 27 = .ok (.iconst (-1), 1) := by decide +kernel
theorem dX11_toHat_28 : decode cX11_toHat 28 = .ok (.ireturn, 1) := by decide +kernel
theorem dX11_toHat_29 : decode cX11_toHat 29 = .ok (.aload_n 0, 1) := by decide +kernel
theorem dX11_toHat_30 : decode cX11_toHat 30 = .ok (.getfield 56, 3) := by decide +kernel
theorem dX11_toHat_33 : decode cX11_toHat 33 = .ok (.aload_n 0, 1) := by decide +kernel
theorem dX11_toHat_34 : decode cX11_toHat 34 = .ok (.getfield 36, 3) := by decide +kernel
theorem dX11_toHat_37 : decode cX11_toHat 37 = .ok (.getfield 109, 3) := by decide +kernel
theorem dX11_toHat_40 : decode cX11_toHat 40 = .ok (.getfield 134, 3) := by decide +kernel
theorem dX11_toHat_43 : decode cX11_toHat 43 = .ok (.invokevirtual 313, 3) := by decide +kernel
theorem dX11_toHat_46 : decode cX11_toHat 46 = .ok (.iconst 0, 1) := by decide +kernel
theorem dX11_toHat_47 : decode cX11_toHat 47 = .ok (.istore_n 3, 1) := by decide +kernel
theorem dX11_toHat_48 : decode cX11_toHat 48 = .ok (.iload_n 3, 1) := by decide +kernel
theorem dX11_toHat_49 : decode cX11_toHat 49 = .ok (.bipush 20, 2) := by decide +kernel
theorem dX11_toHat_51 : decode cX11_toHat 51 = .ok (.if_icmp .gt 43, 3) := by decide +kernel
theorem dX11_toHat_54 : decode cX11_toHat 54 = .ok (.aload_n 0, 1) := by decide +kernel
theorem dX11_toHat_55 : decode cX11_toHat 55 = .ok (.getfield 56, 3) := by decide +kernel
theorem dX11_toHat_58 : decode cX11_toHat 58 = .ok (.getfield 316, 3) := by decide +kernel
theorem dX11_toHat_61 : decode cX11_toHat 61 = .ok (.iload_n 1, 1) := by decide +kernel
theorem dX11_toHat_62 : decode cX11_toHat 62 = .ok (.aload_n 0, 1) := by decide +kernel
theorem dX11_toHat_63 : decode cX11_toHat 63 = .ok (.getfield 29, 3) := by decide +kernel
theorem dX11_toHat_66 : decode cX11_toHat 66 = .ok (.getfield 193, 3) := by decide +kernel
theorem dX11_toHat_69 : decode cX11_toHat 69 = .ok (.iload_n 1, 1) := by decide +kernel
theorem dX11_toHat_70 : decode cX11_toHat 70 = .ok (.iaload, 1) := by decide +kernel
theorem dX11_toHat_71 : decode cX11_toHat 71 = .ok (.iload_n 3, 1) := by decide +kernel
theorem dX11_toHat_72 : decode cX11_toHat 72 = .ok (.iadd, 1) := by decide +kernel
theorem dX11_toHat_73 : decode cX11_toHat 73 = .ok (.iastore, 1) := by decide +kernel
theorem dX11_toHat_74 : decode cX11_toHat 74 = .ok (.aload_n 0, 1) := by decide +kernel
theorem dX11_toHat_75 : decode cX11_toHat 75 = .ok (.getfield 56, 3) := by decide +kernel
theorem dX11_toHat_78 : decode cX11_toHat 78 = .ok (.iload_n 1, 1) := by decide +kernel
theorem dX11_toHat_79 : decode cX11_toHat 79 = .ok (.iload_n 2, 1) := by decide +kernel
theorem dX11_toHat_80 : decode cX11_toHat 80 = .ok (.invokevirtual 319, 3) := by decide +kernel
theorem dX11_toHat_83 : decode cX11_toHat 83 = .ok (.ifCond .ne 5, 3) := by decide +kernel
theorem dX11_toHat_86 : decode cX11_toHat 86 = .ok (.iload_n 3, 1) := by decide +kernel
theorem dX11_toHat_87 : decode cX11_toHat 87 = .ok (.ireturn, 1) := by decide +kernel
theorem dX11_toHat_88 : decode cX11_toHat 88 = .ok (.iinc 3 1, 3) := by decide +kernel
theorem dX11_toHat_91 : decode cX11_toHat 91 = .ok (.goto (-43), 3) := by decide +kernel
theorem dX11_toHat_94 : decode cX11_toHat 94 = .ok (.iconst (-1), 1) := by decide +kernel
theorem dX11_toHat_95 : decode cX11_toHat 95 = .ok (.ireturn, 1) := by decide +kernel
theorem dX11_between_0 : decode cX11_between 0 = .ok (.aload_n 0, 1) := by decide +kernel
theorem dX11_between_1 : decode cX11_between 1 = .ok (.iload_n 1, 1) := by decide +kernel
theorem dX11_between_2 : decode cX11_between 2 = .ok (.iload_n 2, 1) := by decide +kernel
theorem dX11_between_3 : decode cX11_between 3 = .ok (.invokevirtual 287, 3) := by decide +kernel
theorem dX11_between_6 : decode cX11_between 6 = .ok (.aload_n 0, 1) := by decide +kernel
theorem dX11_between_7 : decode cX11_between 7 = .ok (.getfield 52, 3) := by decide +kernel
theorem dX11_between_10 : decode cX11_between 10 = .ok (.iload_n 1, 1) := by decide +kernel
theorem dX11_between_11 : decode cX11_between 11 = .ok (.iload_n 2, 1) := by decide +kernel
theorem dX11_between_12 : decode cX11_between 12 = .ok (.invokevirtual 319, 3) := by decide +kernel
theorem dX11_between_15 : decode cX11_between 15 = .ok (.ireturn, 1) := by decide +kernel
theorem dX11_line_0 : decode cX11_line 0 = .ok (.aload_n 0, 1) := by decide +kernel
theorem dX11_line_1 : decode cX11_line 1 = .ok (.invokevirtual 165, 3) := by decide +kernel
theorem dX11_line_4 : decode cX11_line 4 = .ok (.invokevirtual 322, 3) := by decide +kernel
theorem dX11_line_7 : decode cX11_line 7 = .ok (.ireturn, 1) := by decide +kernel
theorem dX11_hidden_0 : decode cX11_hidden 0 = .ok (.aload_n 0, 1) := by decide +kernel
theorem dX11_hidden_1 : decode cX11_hidden 1 = .ok (.iload_n 1, 1) := by decide +kernel
theorem dX11_hidden_2 : decode cX11_hidden 2 = .ok (.invokevirtual 187, 3) := by decide +kernel
theorem dX11_hidden_5 : decode cX11_hidden 5 = .ok (.aload_n 0, 1) := by decide +kernel
theorem dX11_hidden_6 : decode cX11_hidden 6 = .ok (.getfield 29, 3) := by decide +kernel
theorem dX11_hidden_9 : decode cX11_hidden 9 = .ok (.invokevirtual 301, 3) := by decide +kernel
theorem dX11_hidden_12 : decode cX11_hidden 12 = .ok (.iconst 1, 1) := by decide +kernel
theorem dX11_hidden_13 : decode cX11_hidden 13 = .ok (.iload_n 1, 1) := by decide +kernel
theorem dX11_hidden_14 : decode cX11_hidden 14 = .ok (.ishl, 1) := by decide +kernel
theorem dX11_hidden_15 : decode cX11_hidden 15 = .ok (.iconst (-1), 1) := by decide +kernel
theorem dX11_hidden_16 : decode cX11_hidden 16 = .ok (.ixor, 1) := by decide +kernel
theorem dX11_hidden_17 : decode cX11_hidden 17 = .ok (.iand, 1) := by decide +kernel
theorem dX11_hidden_18 : decode cX11_hidden 18 = .ok (.aload_n 0, 1) := by decide +kernel
theorem dX11_hidden_19 : decode cX11_hidden 19 = .ok (.getfield 52, 3) := by decide +kernel
theorem dX11_hidden_22 : decode cX11_hidden 22 = .ok (.iload_n 1, 1) := by decide +kernel
theorem dX11_hidden_23 : decode cX11_hidden 23 = .ok (.aload_n 0, 1) := by decide +kernel
theorem dX11_hidden_24 : decode cX11_hidden 24 = .ok (.invokevirtual 150, 3) := by decide +kernel
theorem dX11_hidden_27 : decode cX11_hidden 27 = .ok (.invokevirtual 211, 3) := by decide +kernel
theorem dX11_hidden_30 : decode cX11_hidden 30 = .ok (.iconst (-1), 1) := by decide +kernel
theorem dX11_hidden_31 : decode cX11_hidden 31 = .ok (.ixor, 1) := by decide +kernel
theorem dX11_hidden_32 : decode cX11_hidden 32 = .ok (.iand, 1) := by decide +kernel
theorem dX11_hidden_33 : decode cX11_hidden 33 = .ok (.ireturn, 1) := by decide +kernel
theorem dX11_see_0 : decode cX11_see 0 = .ok (.aload_n 0, 1) := by decide +kernel
theorem dX11_see_1 : decode cX11_see 1 = .ok (.iload_n 1, 1) := by decide +kernel
theorem dX11_see_2 : decode cX11_see 2 = .ok (.invokevirtual 187, 3) := by decide +kernel
theorem dX11_see_5 : decode cX11_see 5 = .ok (.iload_n 2, 1) := by decide +kernel
theorem dX11_see_6 : decode cX11_see 6 = .ok (.iconst 1, 1) := by decide +kernel
theorem dX11_see_7 : decode cX11_see 7 = .ok (.if_icmp .lt 24, 3) := by decide +kernel
theorem dX11_see_10 : decode cX11_see 10 = .ok (.iload_n 2, 1) := by decide +kernel
theorem dX11_see_11 : decode cX11_see 11 = .ok (.bipush 20, 2) := by decide +kernel
theorem dX11_see_13 : decode cX11_see 13 = .ok (.if_icmp .gt 18, 3) := by decide +kernel
theorem dX11_see_16 : decode cX11_see 16 = .ok (.aload_n 0, 1) := by decide +kernel
theorem dX11_see_17 : decode cX11_see 17 = .ok (.getfield 36, 3) := by decide +kernel
theorem dX11_see_20 : decode cX11_see 20 = .ok (.getfield 127, 3) := by decide +kernel
theorem dX11_see_23 : decode cX11_see 23 = .ok (.getfield 181, 3) := by decide +kernel
theorem dX11_see_26 : decode cX11_see 26 = .ok (.bipush 8, 2) := by decide +kernel
theorem dX11_see_28 : decode cX11_see 28 = .ok (.if_icmp .lt 18, 3) := by decide +kernel
theorem dX11_see_31 : decode cX11_see 31 = .ok (.aload_n 0, 1) := by decide +kernel
theorem dX11_see_32 : decode cX11_see 32 = .ok (.getfield 36, 3) := by decide +kernel
theorem dX11_see_35 : decode cX11_see 35 = .ok (.getfield 97, 3) := by decide +kernel
theorem dX11_see_38 : decode cX11_see 38 = .ok (.iconst 2, 1) := by decide +kernel
theorem dX11_see_39 : decode cX11_see 39 = .ok (.dup2, 1) := by decide +kernel
theorem dX11_see_40 : decode cX11_see 40 = .ok (.iaload, 1) := by decide +kernel
theorem dX11_see_41 : decode cX11_see 41 = .ok (.iconst 1, 1) := by decide +kernel
theorem dX11_see_42 : decode cX11_see 42 = .ok (.iadd, 1) := by decide +kernel
theorem dX11_see_43 : decode cX11_see 43 = .ok (.iastore, 1) := by decide +kernel
theorem dX11_see_44 : decode cX11_see 44 = .ok (.iconst (-1), 1) := by decide +kernel
theorem dX11_see_45 : decode cX11_see 45 = .ok (.ireturn, 1) := by decide +kernel
theorem dX11_see_46 : decode cX11_see 46 = .ok (.aload_n 0, 1) := by decide +kernel
theorem dX11_see_47 : decode cX11_see 47 = .ok (.getfield 36, 3) := by decide +kernel
theorem dX11_see_50 : decode cX11_see 50 = .ok (.getfield 127, 3) := by decide +kernel
theorem dX11_see_53 : decode cX11_see 53 = .ok (.iload_n 1, 1) := by decide +kernel
theorem dX11_see_54 : decode cX11_see 54 = .ok (.iload_n 2, 1) := by decide +kernel
theorem dX11_see_55 : decode cX11_see 55 = .ok (.iload_n 3, 1) := by decide +kernel
theorem dX11_see_56 : decode cX11_see 56 = .ok (.invokevirtual 325, 3) := by decide +kernel
theorem dX11_see_59 : decode cX11_see 59 = .ok (.aload_n 0, 1) := by decide +kernel
theorem dX11_see_60 : decode cX11_see 60 = .ok (.getfield 36, 3) := by decide +kernel
theorem dX11_see_63 : decode cX11_see 63 = .ok (.getfield 127, 3) := by decide +kernel
theorem dX11_see_66 : decode cX11_see 66 = .ok (.getfield 181, 3) := by decide +kernel
theorem dX11_see_69 : decode cX11_see 69 = .ok (.ireturn, 1) := by decide +kernel
theorem dX11_begun_0 : decode cX11_begun 0 = .ok (.iload_n 1, 1) := by decide +kernel
theorem dX11_begun_1 : decode cX11_begun 1 = .ok (.iconst 2, 1) := by decide +kernel
theorem dX11_begun_2 : decode cX11_begun 2 = .ok (.invokestatic 267, 3) := by decide +kernel
theorem dX11_begun_5 : decode cX11_begun 5 = .ok (.iload_n 1, 1) := by decide +kernel
theorem dX11_begun_6 : decode cX11_begun 6 = .ok (.iconst 2, 1) := by decide +kernel
theorem dX11_begun_7 : decode cX11_begun 7 = .ok (.if_icmp .ne 18, 3) := by decide +kernel
theorem dX11_begun_10 : decode cX11_begun 10 = .ok (.aload_n 0, 1) := by decide +kernel
theorem dX11_begun_11 : decode cX11_begun 11 = .ok (.iconst (-1), 1) := by decide +kernel
theorem dX11_begun_12 : decode cX11_begun 12 = .ok (.iconst 0, 1) := by decide +kernel
theorem dX11_begun_13 : decode cX11_begun 13 = .ok (.invokevirtual 329, 3) := by decide +kernel
theorem dX11_begun_16 : decode cX11_begun 16 = .ok (.ifCond .eq 7, 3) := by decide +kernel
theorem dX11_begun_19 : decode cX11_begun 19 = .ok (.iconst 1, 1) := by decide +kernel
theorem dX11_begun_20 : decode cX11_begun 20 = .ok (.goto 4, 3) := by decide +kernel
theorem dX11_begun_23 : decode cX11_begun 23 = .ok (.iconst 0, 1) := by decide +kernel
theorem dX11_begun_24 : decode cX11_begun 24 = .ok (.ireturn, 1) := by decide +kernel
theorem dX11_begun_25 : decode cX11_begun 25 = .ok (.aload_n 0, 1) := by decide +kernel
theorem dX11_begun_26 : decode cX11_begun 26 = .ok (.invokevirtual 333, 3) := by decide +kernel
theorem dX11_begun_29 : decode cX11_begun 29 = .ok (.istore_n 2, 1) := by decide +kernel
theorem dX11_begun_30 : decode cX11_begun 30 = .ok (.iload_n 1, 1) := by decide +kernel
theorem dX11_begun_31 : decode cX11_begun 31 = .ok (.ifCond .ne 8, 3) := by decide +kernel
theorem dX11_begun_34 : decode cX11_begun 34 = .ok (.iload_n 2, 1) := by decide +kernel
theorem dX11_begun_35 : decode cX11_begun 35 = .ok (.invokestatic 274, 3) := by decide +kernel
theorem dX11_begun_38 : decode cX11_begun 38 = .ok (.ireturn, 1) := by decide +kernel
theorem dX11_begun_39 : decode cX11_begun 39 = .ok (.aload_n 0, 1) := by decide +kernel
theorem dX11_begun_40 : decode cX11_begun 40 = .ok (.iload_n 2, 1) := by decide +kernel
theorem dX11_begun_41 : decode cX11_begun 41 = .ok (.invokevirtual 336, 3) := by decide +kernel
theorem dX11_begun_44 : decode cX11_begun 44 = .ok (.ireturn, 1) := by decide +kernel
theorem dX11_look_0 : decode cX11_look 0 = .ok (.iload_n 1, 1) := by decide +kernel
theorem dX11_look_1 : decode cX11_look 1 = .ok (.iconst 1, 1) := by decide +kernel
theorem dX11_look_2 : decode cX11_look 2 = .ok (.invokestatic 267, 3) := by decide +kernel
theorem dX11_look_5 : decode cX11_look 5 = .ok (.aload_n 0, 1) := by decide +kernel
theorem dX11_look_6 : decode cX11_look 6 = .ok (.invokevirtual 333, 3) := by decide +kernel
theorem dX11_look_9 : decode cX11_look 9 = .ok (.istore_n 2, 1) := by decide +kernel
theorem dX11_look_10 : decode cX11_look 10 = .ok (.iconst 0, 1) := by decide +kernel
theorem dX11_look_11 : decode cX11_look 11 = .ok (.istore_n 3, 1) := by decide +kernel
theorem dX11_look_12 : decode cX11_look 12 = .ok (.iconst (-1), 1) := by decide +kernel
theorem dX11_look_13 : decode cX11_look 13 = .ok (.istore 4, 2) := by decide +kernel
theorem dX11_look_15 : decode cX11_look 15 = .ok (.iconst 1, 1) := by decide +kernel
theorem dX11_look_16 : decode cX11_look 16 = .ok (.istore 5, 2) := by decide +kernel
theorem dX11_look_18 : decode cX11_look 18 = .ok (.iload 5, 2) := by decide +kernel
theorem dX11_look_20 : decode cX11_look 20 = .ok (.bipush 20, 2) := by decide +kernel
theorem dX11_look_22 : decode cX11_look 22 = .ok (.if_icmp .gt 31, 3) := by decide +kernel
theorem dX11_look_25 : decode cX11_look 25 = .ok (.aload_n 0, 1) := by decide +kernel
theorem dX11_look_26 : decode cX11_look 26 = .ok (.iload_n 2, 1) := by decide +kernel
theorem dX11_look_27 : decode cX11_look 27 = .ok (.iload 5, 2) := by decide +kernel
theorem dX11_look_29 : decode cX11_look 29 = .ok (.invokevirtual 339, 3) := by decide +kernel
theorem dX11_look_32 : decode cX11_look 32 = .ok (.istore 6, 2) := by decide +kernel
theorem dX11_look_34 : decode cX11_look 34 = .ok (.iload 6, 2) := by decide +kernel
theorem dX11_look_36 : decode cX11_look 36 = .ok (.iload_n 3, 1) := by decide +kernel
theorem dX11_look_37 : decode cX11_look 37 = .ok (.if_icmp .le 10, 3) := by decide +kernel
theorem dX11_look_40 : decode cX11_look 40 = .ok (.iload 6, 2) := by decide +kernel
theorem dX11_look_42 : decode cX11_look 42 = .ok (.istore_n 3, 1) := by decide +kernel
theorem dX11_look_43 : decode cX11_look 43 = .ok (.iload 5, 2) := by decide +kernel
theorem dX11_look_45 : decode cX11_look 45 = .ok (.istore 4, 2) := by decide +kernel
theorem dX11_look_47 : decode cX11_look 47 = .ok (.iinc 5 1, 3) := by decide +kernel
theorem dX11_look_50 : decode cX11_look 50 = .ok (.goto (-32), 3) := by decide +kernel
theorem dX11_look_53 : decode cX11_look 53 = .ok (.iload_n 1, 1) := by decide +kernel
theorem dX11_look_54 : decode cX11_look 54 = .ok (.ifCond .ne 8, 3) := by decide +kernel
theorem dX11_look_57 : decode cX11_look 57 = .ok (.iload 4, 2) := by decide +kernel
theorem dX11_look_59 : decode cX11_look 59 = .ok (.goto 4, 3) := by decide +kernel
theorem dX11_look_62 : decode cX11_look 62 = .ok (.iload_n 3, 1) := by decide +kernel
theorem dX11_look_63 : decode cX11_look 63 = .ok (.ireturn, 1) := by decide +kernel
theorem dX11_forget_0 : decode cX11_forget 0 = .ok (.aload_n 0, 1) := by decide +kernel
theorem dX11_forget_1 : decode cX11_forget 1 = .ok (.getfield 36, 3) := by decide +kernel
theorem dX11_forget_4 : decode cX11_forget 4 = .ok (.getfield 127, 3) := by decide +kernel
theorem dX11_forget_7 : decode cX11_forget 7 = .ok (.invokevirtual 131, 3) := by decide +kernel
theorem dX11_forget_10 : decode cX11_forget 10 = .ok (.return_, 1) := by decide +kernel
theorem dX11_whoMayHaveBegun_0 : decode cX11_whoMayHaveBegun 0 = .ok (.iconst 0, 1) := by decide +kernel
theorem dX11_whoMayHaveBegun_1 : decode cX11_whoMayHaveBegun 1 = .ok (.istore_n 1, 1) := by decide +kernel
theorem dX11_whoMayHaveBegun_2 : decode cX11_whoMayHaveBegun 2 = .ok (.iconst 0, 1) := by decide +kernel
theorem dX11_whoMayHaveBegun_3 : decode cX11_whoMayHaveBegun 3 = .ok (.istore_n 2, 1) := by decide +kernel
theorem dX11_whoMayHaveBegun_4 : decode cX11_whoMayHaveBegun 4 = .ok (.iload_n 2, 1) := by decide +kernel
theorem dX11_whoMayHaveBegun_5 : decode cX11_whoMayHaveBegun 5 = .ok (.aload_n 0, 1) := by decide +kernel
theorem dX11_whoMayHaveBegun_6 : decode cX11_whoMayHaveBegun 6 = .ok (.getfield 29, 3) := by decide +kernel
theorem dX11_whoMayHaveBegun_9 : decode cX11_whoMayHaveBegun 9 = .ok (.getfield 144, 3) := by decide +kernel
theorem dX11_whoMayHaveBegun_12 : decode cX11_whoMayHaveBegun 12 = .ok (.if_icmp .ge 41, 3) := by decide +kernel
theorem dX11_whoMayHaveBegun_15 : decode cX11_whoMayHaveBegun 15 = .ok (.aload_n 0, 1) := by decide +kernel
theorem dX11_whoMayHaveBegun_16 : decode cX11_whoMayHaveBegun 16 = .ok (.getfield 36, 3) := by decide +kernel
theorem dX11_whoMayHaveBegun_19 : decode cX11_whoMayHaveBegun 19 = .ok (.getfield 109, 3) := by decide +kernel
theorem dX11_whoMayHaveBegun_22 : decode cX11_whoMayHaveBegun 22 = .ok (.iload_n 2, 1) := by decide +kernel
theorem dX11_whoMayHaveBegun_23 : decode cX11_whoMayHaveBegun 23 = .ok (.invokevirtual 247, 3) := by decide +kernel
theorem dX11_whoMayHaveBegun_26 : decode cX11_whoMayHaveBegun 26 = .ok (.ifCond .ne 21, 3) := by decide +kernel
theorem dX11_whoMayHaveBegun_29 : decode cX11_whoMayHaveBegun 29 = .ok (.aload_n 0, 1) := by decide +kernel
theorem dX11_whoMayHaveBegun_30 : decode cX11_whoMayHaveBegun 30 = .ok (.iload_n 2, 1) := by decide +kernel
theorem dX11_whoMayHaveBegun_31 : decode cX11_whoMayHaveBegun 31 = .ok (.iload_n 2, 1) := by decide +kernel
theorem dX11_whoMayHaveBegun_32 : decode cX11_whoMayHaveBegun 32 = .ok (.bipush 20, 2) := by decide +kernel
theorem dX11_whoMayHaveBegun_34 : decode cX11_whoMayHaveBegun 34 = .ok (.imul, 1) := by decide +kernel
theorem dX11_whoMayHaveBegun_35 : decode cX11_whoMayHaveBegun 35 = .ok (.invokevirtual 329, 3) := by decide +kernel
theorem dX11_whoMayHaveBegun_38 : decode cX11_whoMayHaveBegun 38 = .ok (.ifCond .eq 9, 3) := by decide +kernel
theorem dX11_whoMayHaveBegun_41 : decode cX11_whoMayHaveBegun 41 = .ok (.iload_n 1, 1) := by decide +kernel
theorem dX11_whoMayHaveBegun_42 : decode cX11_whoMayHaveBegun 42 = .ok (.iconst 1, 1) := by decide +kernel
theorem dX11_whoMayHaveBegun_43 : decode cX11_whoMayHaveBegun 43 = .ok (.iload_n 2, 1) := by decide +kernel
theorem dX11_whoMayHaveBegun_44 : decode cX11_whoMayHaveBegun 44 = .ok (.ishl, 1) := by decide +kernel
theorem dX11_whoMayHaveBegun_45 : decode cX11_whoMayHaveBegun 45 = .ok (.ior, 1) := by decide +kernel
theorem dX11_whoMayHaveBegun_46 : decode cX11_whoMayHaveBegun 46 = .ok (.istore_n 1, 1) := by decide +kernel
theorem dX11_whoMayHaveBegun_47 : decode cX11_whoMayHaveBegun 47 = .ok (.iinc 2 1, 3) := by decide +kernel
theorem dX11_whoMayHaveBegun_50 : decode cX11_whoMayHaveBegun 50 = .ok (.goto (-46), 3) := by decide +kernel
theorem dX11_whoMayHaveBegun_53 : decode cX11_whoMayHaveBegun 53 = .ok (.iload_n 1, 1) := by decide +kernel
theorem dX11_whoMayHaveBegun_54 : decode cX11_whoMayHaveBegun 54 = .ok (.ireturn, 1) := by decide +kernel
theorem dX11_leastOf_0 : decode cX11_leastOf 0 = .ok (.iconst 0, 1) := by decide +kernel
theorem dX11_leastOf_1 : decode cX11_leastOf 1 = .ok (.istore_n 2, 1) := by decide +kernel
theorem dX11_leastOf_2 : decode cX11_leastOf 2 = .ok (.iload_n 2, 1) := by decide +kernel
theorem dX11_leastOf_3 : decode cX11_leastOf 3 = .ok (.aload_n 0, 1) := by decide +kernel
theorem dX11_leastOf_4 : decode cX11_leastOf 4 = .ok (.getfield 29, 3) := by decide +kernel
theorem dX11_leastOf_7 : decode cX11_leastOf 7 = .ok (.getfield 144, 3) := by decide +kernel
theorem dX11_leastOf_10 : decode cX11_leastOf 10 = .ok (.if_icmp .ge 20, 3) := by decide +kernel
theorem dX11_leastOf_13 : decode cX11_leastOf 13 = .ok (.iload_n 1, 1) := by decide +kernel
theorem dX11_leastOf_14 : decode cX11_leastOf 14 = .ok (.iload_n 2, 1) := by decide +kernel
theorem dX11_leastOf_15 : decode cX11_leastOf 15 = .ok (.ishr, 1) := by decide +kernel
theorem dX11_leastOf_16 : decode cX11_leastOf 16 = .ok (.iconst 1, 1) := by decide +kernel
theorem dX11_leastOf_17 : decode cX11_leastOf 17 = .ok (.iand, 1) := by decide +kernel
theorem dX11_leastOf_18 : decode cX11_leastOf 18 = .ok (.iconst 1, 1) := by decide +kernel
theorem dX11_leastOf_19 : decode cX11_leastOf 19 = .ok (.if_icmp .ne 5, 3) := by decide +kernel
theorem dX11_leastOf_22 : decode cX11_leastOf 22 = .ok (.iload_n 2, 1) := by decide +kernel
theorem dX11_leastOf_23 : decode cX11_leastOf 23 = .ok (.ireturn, 1) := by decide +kernel
theorem dX11_leastOf_24 : decode cX11_leastOf 24 = .ok (.iinc 2 1, 3) := by decide +kernel
theorem dX11_leastOf_27 : decode cX11_leastOf 27 = .ok (.goto (-25), 3) := by decide +kernel
theorem dX11_leastOf_30 : decode cX11_leastOf 30 = .ok (.iconst (-1), 1) := by decide +kernel
theorem dX11_leastOf_31 : decode cX11_leastOf 31 = .ok (.ireturn, 1) := by decide +kernel
theorem dX11_isSoBy_0 : decode cX11_isSoBy 0 = .ok (.aload_n 0, 1) := by decide +kernel
theorem dX11_isSoBy_1 : decode cX11_isSoBy 1 = .ok (.getfield 71, 3) := by decide +kernel
theorem dX11_isSoBy_4 : decode cX11_isSoBy 4 = .ok (.aload_n 0, 1) := by decide +kernel
theorem dX11_isSoBy_5 : decode cX11_isSoBy 5 = .ok (.getfield 36, 3) := by decide +kernel
theorem dX11_isSoBy_8 : decode cX11_isSoBy 8 = .ok (.getfield 109, 3) := by decide +kernel
theorem dX11_isSoBy_11 : decode cX11_isSoBy 11 = .ok (.invokevirtual 238, 3) := by decide +kernel
theorem dX11_isSoBy_14 : decode cX11_isSoBy 14 = .ok (.iload_n 1, 1) := by decide +kernel
theorem dX11_isSoBy_15 : decode cX11_isSoBy 15 = .ok (.iconst (-1), 1) := by decide +kernel
theorem dX11_isSoBy_16 : decode cX11_isSoBy 16 = .ok (.if_icmp .eq 14, 3) := by decide +kernel
theorem dX11_isSoBy_19 : decode cX11_isSoBy 19 = .ok (.aload_n 0, 1) := by decide +kernel
theorem dX11_isSoBy_20 : decode cX11_isSoBy 20 = .ok (.getfield 71, 3) := by decide +kernel
theorem dX11_isSoBy_23 : decode cX11_isSoBy 23 = .ok (.getfield 244, 3) := by decide +kernel
theorem dX11_isSoBy_26 : decode cX11_isSoBy 26 = .ok (.iload_n 1, 1) := by decide +kernel
theorem dX11_isSoBy_27 : decode cX11_isSoBy 27 = .ok (.invokevirtual 250, 3) := by decide +kernel
theorem dX11_isSoBy_30 : decode cX11_isSoBy 30 = .ok (.iconst 0, 1) := by decide +kernel
theorem dX11_isSoBy_31 : decode cX11_isSoBy 31 = .ok (.istore_n 3, 1) := by decide +kernel
theorem dX11_isSoBy_32 : decode cX11_isSoBy 32 = .ok (.iload_n 3, 1) := by decide +kernel
theorem dX11_isSoBy_33 : decode cX11_isSoBy 33 = .ok (.bipush 20, 2) := by decide +kernel
theorem dX11_isSoBy_35 : decode cX11_isSoBy 35 = .ok (.if_icmp .ge 35, 3) := by decide +kernel
theorem dX11_isSoBy_38 : decode cX11_isSoBy 38 = .ok (.iload_n 2, 1) := by decide +kernel
theorem dX11_isSoBy_39 : decode cX11_isSoBy 39 = .ok (.iload_n 3, 1) := by decide +kernel
theorem dX11_isSoBy_40 : decode cX11_isSoBy 40 = .ok (.iadd, 1) := by decide +kernel
theorem dX11_isSoBy_41 : decode cX11_isSoBy 41 = .ok (.aload_n 0, 1) := by decide +kernel
theorem dX11_isSoBy_42 : decode cX11_isSoBy 42 = .ok (.getfield 75, 3) := by decide +kernel
theorem dX11_isSoBy_45 : decode cX11_isSoBy 45 = .ok (.arraylength, 1) := by decide +kernel
theorem dX11_isSoBy_46 : decode cX11_isSoBy 46 = .ok (.if_icmp .ge 24, 3) := by decide +kernel
theorem dX11_isSoBy_49 : decode cX11_isSoBy 49 = .ok (.aload_n 0, 1) := by decide +kernel
theorem dX11_isSoBy_50 : decode cX11_isSoBy 50 = .ok (.getfield 75, 3) := by decide +kernel
theorem dX11_isSoBy_53 : decode cX11_isSoBy 53 = .ok (.iload_n 2, 1) := by decide +kernel
theorem dX11_isSoBy_54 : decode cX11_isSoBy 54 = .ok (.iload_n 3, 1) := by decide +kernel
theorem dX11_isSoBy_55 : decode cX11_isSoBy 55 = .ok (.iadd, 1) := by decide +kernel
theorem dX11_isSoBy_56 : decode cX11_isSoBy 56 = .ok (.aload_n 0, 1) := by decide +kernel
theorem dX11_isSoBy_57 : decode cX11_isSoBy 57 = .ok (.getfield 71, 3) := by decide +kernel
theorem dX11_isSoBy_60 : decode cX11_isSoBy 60 = .ok (.invokevirtual 241, 3) := by decide +kernel
theorem dX11_isSoBy_63 : decode cX11_isSoBy 63 = .ok (.iastore, 1) := by decide +kernel
theorem dX11_isSoBy_64 : decode cX11_isSoBy 64 = .ok (.iinc 3 1, 3) := by decide +kernel
theorem dX11_isSoBy_67 : decode cX11_isSoBy 67 = .ok (.goto (-35), 3) := by decide +kernel
theorem dX11_isSoBy_70 : decode cX11_isSoBy 70 = .ok (.aload_n 0, 1) := by decide +kernel
theorem dX11_isSoBy_71 : decode cX11_isSoBy 71 = .ok (.getfield 36, 3) := by decide +kernel
theorem dX11_isSoBy_74 : decode cX11_isSoBy 74 = .ok (.getfield 127, 3) := by decide +kernel
theorem dX11_isSoBy_77 : decode cX11_isSoBy 77 = .ok (.aload_n 0, 1) := by decide +kernel
theorem dX11_isSoBy_78 : decode cX11_isSoBy 78 = .ok (.getfield 75, 3) := by decide +kernel
theorem dX11_isSoBy_81 : decode cX11_isSoBy 81 = .ok (.iload_n 2, 1) := by decide +kernel
theorem dX11_isSoBy_82 : decode cX11_isSoBy 82 = .ok (.invokevirtual 342, 3) := by decide +kernel
theorem dX11_isSoBy_85 : decode cX11_isSoBy 85 = .ok (.ireturn, 1) := by decide +kernel
theorem dX11_howManyUnlike_0 : decode cX11_howManyUnlike 0 = .ok (.iconst 0, 1) := by decide +kernel
theorem dX11_howManyUnlike_1 : decode cX11_howManyUnlike 1 = .ok (.istore_n 3, 1) := by decide +kernel
theorem dX11_howManyUnlike_2 : decode cX11_howManyUnlike 2 = .ok (.iconst 0, 1) := by decide +kernel
theorem dX11_howManyUnlike_3 : decode cX11_howManyUnlike 3 = .ok (.istore 4, 2) := by decide +kernel
theorem dX11_howManyUnlike_5 : decode cX11_howManyUnlike 5 = .ok (.iload 4, 2) := by decide +kernel
theorem dX11_howManyUnlike_7 : decode cX11_howManyUnlike 7 = .ok (.aload_n 0, 1) := by decide +kernel
theorem dX11_howManyUnlike_8 : decode cX11_howManyUnlike 8 = .ok (.getfield 29, 3) := by decide +kernel
theorem dX11_howManyUnlike_11 : decode cX11_howManyUnlike 11 = .ok (.getfield 144, 3) := by decide +kernel
theorem dX11_howManyUnlike_14 : decode cX11_howManyUnlike 14 = .ok (.if_icmp .ge 33, 3) := by decide +kernel
theorem dX11_howManyUnlike_17 : decode cX11_howManyUnlike 17 = .ok (.iload_n 1, 1) := by decide +kernel
theorem dX11_howManyUnlike_18 : decode cX11_howManyUnlike 18 = .ok (.iload 4, 2) := by decide +kernel
theorem dX11_howManyUnlike_20 : decode cX11_howManyUnlike 20 = .ok (.ishr, 1) := by decide +kernel
theorem dX11_howManyUnlike_21 : decode cX11_howManyUnlike 21 = .ok (.iconst 1, 1) := by decide +kernel
theorem dX11_howManyUnlike_22 : decode cX11_howManyUnlike 22 = .ok (.iand, 1) := by decide +kernel
theorem dX11_howManyUnlike_23 : decode cX11_howManyUnlike 23 = .ok (.iconst 1, 1) := by decide +kernel
theorem dX11_howManyUnlike_24 : decode cX11_howManyUnlike 24 = .ok (.if_icmp .ne 17, 3) := by decide +kernel
theorem dX11_howManyUnlike_27 : decode cX11_howManyUnlike 27 = .ok (.aload_n 0, 1) := by decide +kernel
theorem dX11_howManyUnlike_28 : decode cX11_howManyUnlike 28 = .ok (.iload_n 1, 1) := by decide +kernel
theorem dX11_howManyUnlike_29 : decode cX11_howManyUnlike 29 = .ok (.iload 4, 2) := by decide +kernel
theorem dX11_howManyUnlike_31 : decode cX11_howManyUnlike 31 = .ok (.iload_n 2, 1) := by decide +kernel
theorem dX11_howManyUnlike_32 : decode cX11_howManyUnlike 32 = .ok (.invokevirtual 346, 3) := by decide +kernel
theorem dX11_howManyUnlike_35 : decode cX11_howManyUnlike 35 = .ok (.ifCond .ne 6, 3) := by decide +kernel
theorem dX11_howManyUnlike_38 : decode cX11_howManyUnlike 38 = .ok (.iinc 3 1, 3) := by decide +kernel
theorem dX11_howManyUnlike_41 : decode cX11_howManyUnlike 41 = .ok (.iinc 4 1, 3) := by decide +kernel
theorem dX11_howManyUnlike_44 : decode cX11_howManyUnlike 44 = .ok (.goto (-39), 3) := by decide +kernel
theorem dX11_howManyUnlike_47 : decode cX11_howManyUnlike 47 = .ok (.iload_n 3, 1) := by decide +kernel
theorem dX11_howManyUnlike_48 : decode cX11_howManyUnlike 48 = .ok (.ireturn, 1) := by decide +kernel
theorem dX11_isForeseenBefore_0 : decode cX11_isForeseenBefore 0 = .ok (.aload_n 0, 1) := by decide +kernel
theorem dX11_isForeseenBefore_1 : decode cX11_isForeseenBefore 1 = .ok (.getfield 75, 3) := by decide +kernel
theorem dX11_isForeseenBefore_4 : decode cX11_isForeseenBefore 4 = .ok (.iload_n 2, 1) := by decide +kernel
theorem dX11_isForeseenBefore_5 : decode cX11_isForeseenBefore 5 = .ok (.bipush 20, 2) := by decide +kernel
theorem dX11_isForeseenBefore_7 : decode cX11_isForeseenBefore 7 = .ok (.imul, 1) := by decide +kernel
theorem dX11_isForeseenBefore_8 : decode cX11_isForeseenBefore 8 = .ok (.iload_n 3, 1) := by decide +kernel
theorem dX11_isForeseenBefore_9 : decode cX11_isForeseenBefore 9 = .ok (.iadd, 1) := by decide +kernel
theorem dX11_isForeseenBefore_10 : decode cX11_isForeseenBefore 10 = .ok (.iconst 1, 1) := by decide +kernel
theorem dX11_isForeseenBefore_11 : decode cX11_isForeseenBefore 11 = .ok (.isub, 1) := by decide +kernel
theorem dX11_isForeseenBefore_12 : decode cX11_isForeseenBefore 12 = .ok (.iaload, 1) := by decide +kernel
theorem dX11_isForeseenBefore_13 : decode cX11_isForeseenBefore 13 = .ok (.istore 4, 2) := by decide +kernel
theorem dX11_isForeseenBefore_15 : decode cX11_isForeseenBefore 15 = .ok (.iconst 0, 1) := by decide +kernel
theorem dX11_isForeseenBefore_16 : decode cX11_isForeseenBefore 16 = .ok (.istore 5, 2) := by decide +kernel
theorem dX11_isForeseenBefore_18 : decode cX11_isForeseenBefore 18 = .ok (.iload 5, 2) := by decide +kernel
theorem dX11_isForeseenBefore_20 : decode cX11_isForeseenBefore 20 = .ok (.iload_n 2, 1) := by decide +kernel
theorem dX11_isForeseenBefore_21 : decode cX11_isForeseenBefore 21 = .ok (.if_icmp .ge 40, 3) := by decide +kernel
theorem dX11_isForeseenBefore_24 : decode cX11_isForeseenBefore 24 = .ok (.iload_n 1, 1) := by decide +kernel
theorem dX11_isForeseenBefore_25 : decode cX11_isForeseenBefore 25 = .ok (.iload 5, 2) := by decide +kernel
theorem dX11_isForeseenBefore_27 : decode cX11_isForeseenBefore 27 = .ok (.ishr, 1) := by decide +kernel
theorem dX11_isForeseenBefore_28 : decode cX11_isForeseenBefore 28 = .ok (.iconst 1, 1) := by decide +kernel
theorem dX11_isForeseenBefore_29 : decode cX11_isForeseenBefore 29 = .ok (.iand, 1) := by decide +kernel
theorem dX11_isForeseenBefore_30 : decode cX11_isForeseenBefore 30 = .ok (.iconst 1, 1) := by decide +kernel
theorem dX11_isForeseenBefore_31 : decode cX11_isForeseenBefore 31 = .ok (.if_icmp .ne 24, 3) := by decide +kernel
theorem dX11_isForeseenBefore_34 : decode cX11_isForeseenBefore 34 = .ok (.aload_n 0, 1) := by decide +kernel
theorem dX11_isForeseenBefore_35 : decode cX11_isForeseenBefore 35 = .ok (.getfield 75, 3) := by decide +kernel
theorem dX11_isForeseenBefore_38 : decode cX11_isForeseenBefore 38 = .ok (.iload 5, 2) := by decide +kernel
theorem dX11_isForeseenBefore_40 : decode cX11_isForeseenBefore 40 = .ok (.bipush 20, 2) := by decide +kernel
theorem dX11_isForeseenBefore_42 : decode cX11_isForeseenBefore 42 = .ok (.imul, 1) := by decide +kernel
theorem dX11_isForeseenBefore_43 : decode cX11_isForeseenBefore 43 = .ok (.iload_n 3, 1) := by decide +kernel
theorem dX11_isForeseenBefore_44 : decode cX11_isForeseenBefore 44 = .ok (.iadd, 1) := by decide +kernel
theorem dX11_isForeseenBefore_45 : decode cX11_isForeseenBefore 45 = .ok (.iconst 1, 1) := by decide +kernel
theorem dX11_isForeseenBefore_46 : decode cX11_isForeseenBefore 46 = .ok (.isub, 1) := by decide +kernel
theorem dX11_isForeseenBefore_47 : decode cX11_isForeseenBefore 47 = .ok (.iaload, 1) := by decide +kernel
theorem dX11_isForeseenBefore_48 : decode cX11_isForeseenBefore 48 = .ok (.iload 4, 2) := by decide +kernel
theorem dX11_isForeseenBefore_50 : decode cX11_isForeseenBefore 50 = .ok (.if_icmp .ne 5, 3) := by decide +kernel
theorem dX11_isForeseenBefore_53 : decode cX11_isForeseenBefore 53 = .ok (.iconst 1, 1) := by decide +kernel
theorem dX11_isForeseenBefore_54 : decode cX11_isForeseenBefore 54 = .ok (.ireturn, 1) := by decide +kernel
theorem dX11_isForeseenBefore_55 : decode cX11_isForeseenBefore 55 = .ok (.iinc 5 1, 3) := by decide +kernel
theorem dX11_isForeseenBefore_58 : decode cX11_isForeseenBefore 58 = .ok (.goto (-40), 3) := by decide +kernel
theorem dX11_isForeseenBefore_61 : decode cX11_isForeseenBefore 61 = .ok (.iconst 0, 1) := by decide +kernel
theorem dX11_isForeseenBefore_62 : decode cX11_isForeseenBefore 62 = .ok (.ireturn, 1) := by decide +kernel
theorem dX11_byMist_0 : decode cX11_byMist 0 = .ok (.aload_n 0, 1) := by decide +kernel
theorem dX11_byMist_1 : decode cX11_byMist 1 = .ok (.iload_n 1, 1) := by decide +kernel
theorem dX11_byMist_2 : decode cX11_byMist 2 = .ok (.invokevirtual 187, 3) := by decide +kernel
theorem dX11_byMist_5 : decode cX11_byMist 5 = .ok (.iload_n 2, 1) := by decide +kernel
theorem dX11_byMist_6 : decode cX11_byMist 6 = .ok (.iconst 1, 1) := by decide +kernel
theorem dX11_byMist_7 : decode cX11_byMist 7 = .ok (.iconst 5, 1) := by decide +kernel
theorem dX11_byMist_8 : decode cX11_byMist 8 = .ok (.invokestatic 263, 3) := by decide +kernel
theorem dX11_byMist_11 : decode cX11_byMist 11 = .ok (.iload_n 3, 1) := by decide +kernel
theorem dX11_byMist_12 : decode cX11_byMist 12 = .ok (.iconst 0, 1) := by decide +kernel
theorem dX11_byMist_13 : decode cX11_byMist 13 = .ok (.bipush 10, 2) := by decide +kernel
theorem dX11_byMist_15 : decode cX11_byMist 15 = .ok (.invokestatic 263, 3) := by decide +kernel
theorem dX11_byMist_18 : decode cX11_byMist 18 = .ok (.iconst 0, 1) := by decide +kernel
theorem dX11_byMist_19 : decode cX11_byMist 19 = .ok (.istore 4, 2) := by decide +kernel
theorem dX11_byMist_21 : decode cX11_byMist 21 = .ok (.iconst 0, 1) := by decide +kernel
theorem dX11_byMist_22 : decode cX11_byMist 22 = .ok (.istore 5, 2) := by decide +kernel
theorem dX11_byMist_24 : decode cX11_byMist 24 = .ok (.iload 5, 2) := by decide +kernel
theorem dX11_byMist_26 : decode cX11_byMist 26 = .ok (.iconst 1, 1) := by decide +kernel
theorem dX11_byMist_27 : decode cX11_byMist 27 = .ok (.iload_n 2, 1) := by decide +kernel
theorem dX11_byMist_28 : decode cX11_byMist 28 = .ok (.ishl, 1) := by decide +kernel
theorem dX11_byMist_29 : decode cX11_byMist 29 = .ok (.if_icmp .ge 134, 3) := by decide +kernel
theorem dX11_byMist_32 : decode cX11_byMist 32 = .ok (.aload_n 0, 1) := by decide +kernel
theorem dX11_byMist_33 : decode cX11_byMist 33 = .ok (.getfield 71, 3) := by decide +kernel
theorem dX11_byMist_36 : decode cX11_byMist 36 = .ok (.aload_n 0, 1) := by decide +kernel
theorem dX11_byMist_37 : decode cX11_byMist 37 = .ok (.getfield 36, 3) := by decide +kernel
theorem dX11_byMist_40 : decode cX11_byMist 40 = .ok (.getfield 109, 3) := by decide +kernel
theorem dX11_byMist_43 : decode cX11_byMist 43 = .ok (.invokevirtual 238, 3) := by decide +kernel
theorem dX11_byMist_46 : decode cX11_byMist 46 = .ok (.iconst 1, 1) := by decide +kernel
theorem dX11_byMist_47 : decode cX11_byMist 47 = .ok (.istore 6, 2) := by decide +kernel
theorem dX11_byMist_49 : decode cX11_byMist 49 = .ok (.iconst 0, 1) := by decide +kernel
theorem dX11_byMist_50 : decode cX11_byMist 50 = .ok (.istore 7, 2) := by decide +kernel
theorem dX11_byMist_52 : decode cX11_byMist 52 = .ok (.iload 7, 2) := by decide +kernel
theorem dX11_byMist_54 : decode cX11_byMist 54 = .ok (.iload_n 2, 1) := by decide +kernel
theorem dX11_byMist_55 : decode cX11_byMist 55 = .ok (.if_icmp .ge 68, 3) := by decide +kernel
theorem dX11_byMist_58 : decode cX11_byMist 58 = .ok (.iload 5, 2) := by decide +kernel
theorem dX11_byMist_60 : decode cX11_byMist 60 = .ok (.iload 7, 2) := by decide +kernel
theorem dX11_byMist_62 : decode cX11_byMist 62 = .ok (.ishr, 1) := by decide +kernel
theorem dX11_byMist_63 : decode cX11_byMist 63 = .ok (.iconst 1, 1) := by decide +kernel
theorem dX11_byMist_64 : decode cX11_byMist 64 = .ok (.iand, 1) := by decide +kernel
theorem dX11_byMist_65 : decode cX11_byMist 65 = .ok (.iconst 1, 1) := by decide +kernel
theorem dX11_byMist_66 : decode cX11_byMist 66 = .ok (.if_icmp .ne 7, 3) := by decide +kernel
theorem dX11_byMist_69 : decode cX11_byMist 69 = .ok (.iconst 1, 1) := by decide +kernel
theorem dX11_byMist_70 : decode cX11_byMist 70 = .ok (.goto 4, 3) := by decide +kernel
theorem dX11_byMist_73 : decode cX11_byMist 73 = .ok (.iconst 0, 1) := by decide +kernel
theorem dX11_byMist_74 : decode cX11_byMist 74 = .ok (.istore 8, 2) := by decide +kernel
theorem dX11_byMist_76 : decode cX11_byMist 76 = .ok (.iload 6, 2) := by decide +kernel
theorem dX11_byMist_78 : decode cX11_byMist 78 = .ok (.iload 8, 2) := by decide +kernel
theorem dX11_byMist_80 : decode cX11_byMist 80 = .ok (.ifCond .eq 7, 3) := by decide +kernel
theorem dX11_byMist_83 : decode cX11_byMist 83 = .ok (.iload_n 3, 1) := by decide +kernel
theorem dX11_byMist_84 : decode cX11_byMist 84 = .ok (.goto 7, 3) := by decide +kernel
theorem dX11_byMist_87 : decode cX11_byMist 87 = .ok (.bipush 10, 2) := by decide +kernel
theorem dX11_byMist_89 : decode cX11_byMist 89 = .ok (.iload_n 3, 1) := by decide +kernel
theorem dX11_byMist_90 : decode cX11_byMist 90 = .ok (.isub, 1) := by decide +kernel
theorem dX11_byMist_91 : decode cX11_byMist 91 = .ok (.imul, 1) := by decide +kernel
theorem dX11_byMist_92 : decode cX11_byMist 92 = .ok (.istore 6, 2) := by decide +kernel
theorem dX11_byMist_94 : decode cX11_byMist 94 = .ok (.aload_n 0, 1) := by decide +kernel
theorem dX11_byMist_95 : decode cX11_byMist 95 = .ok (.getfield 71, 3) := by decide +kernel
theorem dX11_byMist_98 : decode cX11_byMist 98 = .ok (.aload_n 0, 1) := by decide +kernel
theorem dX11_byMist_99 : decode cX11_byMist 99 = .ok (.getfield 52, 3) := by decide +kernel
theorem dX11_byMist_102 : decode cX11_byMist 102 = .ok (.iload 8, 2) := by decide +kernel
theorem dX11_byMist_104 : decode cX11_byMist 104 = .ok (.ifCond .eq 8, 3) := by decide +kernel
theorem dX11_byMist_107 : decode cX11_byMist 107 = .ok (.bipush 9, 2) := by decide +kernel
theorem dX11_byMist_109 : decode cX11_byMist 109 = .ok (.goto 4, 3) := by decide +kernel
theorem dX11_byMist_112 : decode cX11_byMist 112 = .ok (.iconst 0, 1) := by decide +kernel
theorem dX11_byMist_113 : decode cX11_byMist 113 = .ok (.invokevirtual 349, 3) := by decide +kernel
theorem dX11_byMist_116 : decode cX11_byMist 116 = .ok (.pop, 1) := by decide +kernel
theorem dX11_byMist_117 : decode cX11_byMist 117 = .ok (.iinc 7 1, 3) := by decide +kernel
theorem dX11_byMist_120 : decode cX11_byMist 120 = .ok (.goto (-68), 3) := by decide +kernel
theorem dX11_byMist_123 : decode cX11_byMist 123 = .ok (.aload_n 0, 1) := by decide +kernel
theorem dX11_byMist_124 : decode cX11_byMist 124 = .ok (.getfield 71, 3) := by decide +kernel
theorem dX11_byMist_127 : decode cX11_byMist 127 = .ok (.getfield 244, 3) := by decide +kernel
theorem dX11_byMist_130 : decode cX11_byMist 130 = .ok (.getfield 205, 3) := by decide +kernel
theorem dX11_byMist_133 : decode cX11_byMist 133 = .ok (.iload_n 1, 1) := by decide +kernel
theorem dX11_byMist_134 : decode cX11_byMist 134 = .ok (.iaload, 1) := by decide +kernel
theorem dX11_byMist_135 : decode cX11_byMist 135 = .ok (.aload_n 0, 1) := by decide +kernel
theorem dX11_byMist_136 : decode cX11_byMist 136 = .ok (.getfield 36, 3) := by decide +kernel
theorem dX11_byMist_139 : decode cX11_byMist 139 = .ok (.getfield 109, 3) := by decide +kernel
theorem dX11_byMist_142 : decode cX11_byMist 142 = .ok (.getfield 205, 3) := by decide +kernel
theorem dX11_byMist_145 : decode cX11_byMist 145 = .ok (.iload_n 1, 1) := by decide +kernel
theorem dX11_byMist_146 : decode cX11_byMist 146 = .ok (.iaload, 1) := by decide +kernel
theorem dX11_byMist_147 : decode cX11_byMist 147 = .ok (.if_icmp .le 10, 3) := by decide +kernel
theorem dX11_byMist_150 : decode cX11_byMist 150 = .ok (.iload 4, 2) := by decide +kernel
theorem dX11_byMist_152 : decode cX11_byMist 152 = .ok (.iload 6, 2) := by decide +kernel
theorem dX11_byMist_154 : decode cX11_byMist 154 = .ok (.iadd, 1) := by decide +kernel
theorem dX11_byMist_155 : decode cX11_byMist 155 = .ok (.istore 4, 2) := by decide +kernel
theorem dX11_byMist_157 : decode cX11_byMist 157 = .ok (.iinc 5 1, 3) := by decide +kernel
theorem dX11_byMist_160 : decode cX11_byMist 160 = .ok (.goto (-136), 3) := by decide +kernel
theorem dX11_byMist_163 : decode cX11_byMist 163 = .ok (.iload 4, 2) := by decide +kernel
theorem dX11_byMist_165 : decode cX11_byMist 165 = .ok (.ireturn, 1) := by decide +kernel
theorem dX11_game_0 : decode cX11_game 0 = .ok (.aload_n 0, 1) := by decide +kernel
theorem dX11_game_1 : decode cX11_game 1 = .ok (.iload_n 1, 1) := by decide +kernel
theorem dX11_game_2 : decode cX11_game 2 = .ok (.iload_n 2, 1) := by decide +kernel
theorem dX11_game_3 : decode cX11_game 3 = .ok (.invokevirtual 287, 3) := by decide +kernel
theorem dX11_game_6 : decode cX11_game 6 = .ok (.iload_n 3, 1) := by decide +kernel
theorem dX11_game_7 : decode cX11_game 7 = .ok (.iconst 1, 1) := by decide +kernel
theorem dX11_game_8 : decode cX11_game 8 = .ok (.invokestatic 267, 3) := by decide +kernel
theorem dX11_game_11 : decode cX11_game 11 = .ok (.iload_n 1, 1) := by decide +kernel
theorem dX11_game_12 : decode cX11_game 12 = .ok (.iload_n 2, 1) := by decide +kernel
theorem dX11_game_13 : decode cX11_game 13 = .ok (.if_icmp .ne 14, 3) := by decide +kernel
theorem dX11_game_16 : decode cX11_game 16 = .ok (.new 86, 3) := by decide +kernel
theorem dX11_game_19 : decode cX11_game 19 = .ok (.dup, 1) := by decide +kernel
theorem dX11_game_20 : decode cX11_game 20 = .ok (.ldc_w 353, 3) := by decide +kernel
theorem dX11_game_23 : decode cX11_game 23 = .ok (.invokespecial 90, 3) := by decide +kernel
theorem dX11_game_26 : decode cX11_game 26 = .ok (.athrow, 1) := by decide +kernel
theorem dX11_game_27 : decode cX11_game 27 = .ok (.aload_n 0, 1) := by decide +kernel
theorem dX11_game_28 : decode cX11_game 28 = .ok (.getfield 36, 3) := by decide +kernel
theorem dX11_game_31 : decode cX11_game 31 = .ok (.getfield 109, 3) := by decide +kernel
theorem dX11_game_34 : decode cX11_game 34 = .ok (.iload_n 1, 1) := by decide +kernel
theorem dX11_game_35 : decode cX11_game 35 = .ok (.invokevirtual 247, 3) := by decide +kernel
theorem dX11_game_38 : decode cX11_game 38 = .ok (.ifCond .ne 17, 3) := by decide +kernel
theorem dX11_game_41 : decode cX11_game 41 = .ok (.aload_n 0, 1) := by decide +kernel
theorem dX11_game_42 : decode cX11_game 42 = .ok (.getfield 36, 3) := by decide +kernel
theorem dX11_game_45 : decode cX11_game 45 = .ok (.getfield 109, 3) := by decide +kernel
theorem dX11_game_48 : decode cX11_game 48 = .ok (.iload_n 2, 1) := by decide +kernel
theorem dX11_game_49 : decode cX11_game 49 = .ok (.invokevirtual 247, 3) := by decide +kernel
theorem dX11_game_52 : decode cX11_game 52 = .ok (.ifCond .eq 5, 3) := by decide +kernel
theorem dX11_game_55 : decode cX11_game 55 = .ok (.iconst (-1), 1) := by decide +kernel
theorem dX11_game_56 : decode cX11_game 56 = .ok (.ireturn, 1) := by decide +kernel
theorem dX11_game_57 : decode cX11_game 57 = .ok (.aload_n 0, 1) := by decide +kernel
theorem dX11_game_58 : decode cX11_game 58 = .ok (.iload_n 1, 1) := by decide +kernel
theorem dX11_game_59 : decode cX11_game 59 = .ok (.iload_n 2, 1) := by decide +kernel
theorem dX11_game_60 : decode cX11_game 60 = .ok (.invokevirtual 355, 3) := by decide +kernel
theorem dX11_game_63 : decode cX11_game 63 = .ok (.iconst 0, 1) := by decide +kernel
theorem dX11_game_64 : decode cX11_game 64 = .ok (.istore 4, 2) := by decide +kernel
theorem dX11_game_66 : decode cX11_game 66 = .ok (.iconst (-1), 1) := by decide +kernel
theorem dX11_game_67 : decode cX11_game 67 = .ok (.istore 5, 2) := by decide +kernel
theorem dX11_game_69 : decode cX11_game 69 = .ok (.iconst 3, 1) := by decide +kernel
theorem dX11_game_70 : decode cX11_game 70 = .ok (.istore 6, 2) := by decide +kernel
theorem dX11_game_72 : decode cX11_game 72 = .ok (.iload 6, 2) := by decide +kernel
theorem dX11_game_74 : decode cX11_game 74 = .ok (.ifCond .lt 68, 3) := by decide +kernel
theorem dX11_game_77 : decode cX11_game 77 = .ok (.aload_n 0, 1) := by decide +kernel
theorem dX11_game_78 : decode cX11_game 78 = .ok (.getfield 79, 3) := by decide +kernel
theorem dX11_game_81 : decode cX11_game 81 = .ok (.iload 6, 2) := by decide +kernel
theorem dX11_game_83 : decode cX11_game 83 = .ok (.iaload, 1) := by decide +kernel
theorem dX11_game_84 : decode cX11_game 84 = .ok (.aload_n 0, 1) := by decide +kernel
theorem dX11_game_85 : decode cX11_game 85 = .ok (.getfield 79, 3) := by decide +kernel
theorem dX11_game_88 : decode cX11_game 88 = .ok (.iload 6, 2) := by decide +kernel
theorem dX11_game_90 : decode cX11_game 90 = .ok (.iconst 2, 1) := by decide +kernel
theorem dX11_game_91 : decode cX11_game 91 = .ok (.ixor, 1) := by decide +kernel
theorem dX11_game_92 : decode cX11_game 92 = .ok (.iaload, 1) := by decide +kernel
theorem dX11_game_93 : decode cX11_game 93 = .ok (.if_icmp .lt 43, 3) := by decide +kernel
theorem dX11_game_96 : decode cX11_game 96 = .ok (.aload_n 0, 1) := by decide +kernel
theorem dX11_game_97 : decode cX11_game 97 = .ok (.getfield 79, 3) := by decide +kernel
theorem dX11_game_100 : decode cX11_game 100 = .ok (.iconst 4, 1) := by decide +kernel
theorem dX11_game_101 : decode cX11_game 101 = .ok (.iload 6, 2) := by decide +kernel
theorem dX11_game_103 : decode cX11_game 103 = .ok (.iadd, 1) := by decide +kernel
theorem dX11_game_104 : decode cX11_game 104 = .ok (.iaload, 1) := by decide +kernel
theorem dX11_game_105 : decode cX11_game 105 = .ok (.aload_n 0, 1) := by decide +kernel
theorem dX11_game_106 : decode cX11_game 106 = .ok (.getfield 79, 3) := by decide +kernel
theorem dX11_game_109 : decode cX11_game 109 = .ok (.iconst 4, 1) := by decide +kernel
theorem dX11_game_110 : decode cX11_game 110 = .ok (.iload 6, 2) := by decide +kernel
theorem dX11_game_112 : decode cX11_game 112 = .ok (.iconst 1, 1) := by decide +kernel
theorem dX11_game_113 : decode cX11_game 113 = .ok (.ixor, 1) := by decide +kernel
theorem dX11_game_114 : decode cX11_game 114 = .ok (.iadd, 1) := by decide +kernel
theorem dX11_game_115 : decode cX11_game 115 = .ok (.iaload, 1) := by decide +kernel
theorem dX11_game_116 : decode cX11_game 116 = .ok (.if_icmp .lt 20, 3) := by decide +kernel
theorem dX11_game_119 : decode cX11_game 119 = .ok (.iinc 4 1, 3) := by decide +kernel
theorem dX11_game_122 : decode cX11_game 122 = .ok (.bipush 10, 2) := by decide +kernel
theorem dX11_game_124 : decode cX11_game 124 = .ok (.iload 6, 2) := by decide +kernel
theorem dX11_game_126 : decode cX11_game 126 = .ok (.iconst 1, 1) := by decide +kernel
theorem dX11_game_127 : decode cX11_game 127 = .ok (.ishr, 1) := by decide +kernel
theorem dX11_game_128 : decode cX11_game 128 = .ok (.imul, 1) := by decide +kernel
theorem dX11_game_129 : decode cX11_game 129 = .ok (.iload 6, 2) := by decide +kernel
theorem dX11_game_131 : decode cX11_game 131 = .ok (.iconst 1, 1) := by decide +kernel
theorem dX11_game_132 : decode cX11_game 132 = .ok (.iand, 1) := by decide +kernel
theorem dX11_game_133 : decode cX11_game 133 = .ok (.iadd, 1) := by decide +kernel
theorem dX11_game_134 : decode cX11_game 134 = .ok (.istore 5, 2) := by decide +kernel
theorem dX11_game_136 : decode cX11_game 136 = .ok (.iinc 6 (-1), 3) := by decide +kernel
theorem dX11_game_139 : decode cX11_game 139 = .ok (.goto (-67), 3) := by decide +kernel
theorem dX11_game_142 : decode cX11_game 142 = .ok (.iload_n 3, 1) := by decide +kernel
theorem dX11_game_143 : decode cX11_game 143 = .ok (.ifCond .ne 8, 3) := by decide +kernel
theorem dX11_game_146 : decode cX11_game 146 = .ok (.iload 4, 2) := by decide +kernel
theorem dX11_game_148 : decode cX11_game 148 = .ok (.goto 5, 3) := by decide +kernel
theorem dX11_game_151 : decode cX11_game 151 = .ok (.iload 5, 2) := by decide +kernel
theorem dX11_game_153 : decode cX11_game 153 = .ok (.ireturn, 1) := by decide +kernel
theorem dX11_playAll_0 : decode cX11_playAll 0 = .ok (.iconst 0, 1) := by decide +kernel
theorem dX11_playAll_1 : decode cX11_playAll 1 = .ok (.istore_n 3, 1) := by decide +kernel
theorem dX11_playAll_2 : decode cX11_playAll 2 = .ok (.iload_n 3, 1) := by decide +kernel
theorem dX11_playAll_3 : decode cX11_playAll 3 = .ok (.iconst 4, 1) := by decide +kernel
theorem dX11_playAll_4 : decode cX11_playAll 4 = .ok (.if_icmp .ge 124, 3) := by decide +kernel
theorem dX11_playAll_7 : decode cX11_playAll 7 = .ok (.aload_n 0, 1) := by decide +kernel
theorem dX11_playAll_8 : decode cX11_playAll 8 = .ok (.getfield 71, 3) := by decide +kernel
theorem dX11_playAll_11 : decode cX11_playAll 11 = .ok (.aload_n 0, 1) := by decide +kernel
theorem dX11_playAll_12 : decode cX11_playAll 12 = .ok (.getfield 36, 3) := by decide +kernel
theorem dX11_playAll_15 : decode cX11_playAll 15 = .ok (.getfield 109, 3) := by decide +kernel
theorem dX11_playAll_18 : decode cX11_playAll 18 = .ok (.invokevirtual 238, 3) := by decide +kernel
theorem dX11_playAll_21 : decode cX11_playAll 21 = .ok (.iload_n 3, 1) := by decide +kernel
theorem dX11_playAll_22 : decode cX11_playAll 22 = .ok (.iconst 1, 1) := by decide +kernel
theorem dX11_playAll_23 : decode cX11_playAll 23 = .ok (.ishr, 1) := by decide +kernel
theorem dX11_playAll_24 : decode cX11_playAll 24 = .ok (.iconst 1, 1) := by decide +kernel
theorem dX11_playAll_25 : decode cX11_playAll 25 = .ok (.if_icmp .ne 14, 3) := by decide +kernel
theorem dX11_playAll_28 : decode cX11_playAll 28 = .ok (.aload_n 0, 1) := by decide +kernel
theorem dX11_playAll_29 : decode cX11_playAll 29 = .ok (.getfield 71, 3) := by decide +kernel
theorem dX11_playAll_32 : decode cX11_playAll 32 = .ok (.getfield 244, 3) := by decide +kernel
theorem dX11_playAll_35 : decode cX11_playAll 35 = .ok (.iload_n 1, 1) := by decide +kernel
theorem dX11_playAll_36 : decode cX11_playAll 36 = .ok (.invokevirtual 250, 3) := by decide +kernel
theorem dX11_playAll_39 : decode cX11_playAll 39 = .ok (.iload_n 3, 1) := by decide +kernel
theorem dX11_playAll_40 : decode cX11_playAll 40 = .ok (.iconst 1, 1) := by decide +kernel
theorem dX11_playAll_41 : decode cX11_playAll 41 = .ok (.iand, 1) := by decide +kernel
theorem dX11_playAll_42 : decode cX11_playAll 42 = .ok (.iconst 1, 1) := by decide +kernel
theorem dX11_playAll_43 : decode cX11_playAll 43 = .ok (.if_icmp .ne 14, 3) := by decide +kernel
theorem dX11_playAll_46 : decode cX11_playAll 46 = .ok (.aload_n 0, 1) := by decide +kernel
theorem dX11_playAll_47 : decode cX11_playAll 47 = .ok (.getfield 71, 3) := by decide +kernel
theorem dX11_playAll_50 : decode cX11_playAll 50 = .ok (.getfield 244, 3) := by decide +kernel
theorem dX11_playAll_53 : decode cX11_playAll 53 = .ok (.iload_n 2, 1) := by decide +kernel
theorem dX11_playAll_54 : decode cX11_playAll 54 = .ok (.invokevirtual 250, 3) := by decide +kernel
theorem dX11_playAll_57 : decode cX11_playAll 57 = .ok (.iconst 0, 1) := by decide +kernel
theorem dX11_playAll_58 : decode cX11_playAll 58 = .ok (.istore 4, 2) := by decide +kernel
theorem dX11_playAll_60 : decode cX11_playAll 60 = .ok (.iconst 0, 1) := by decide +kernel
theorem dX11_playAll_61 : decode cX11_playAll 61 = .ok (.istore 5, 2) := by decide +kernel
theorem dX11_playAll_63 : decode cX11_playAll 63 = .ok (.iload 5, 2) := by decide +kernel
theorem dX11_playAll_65 : decode cX11_playAll 65 = .ok (.bipush 9, 2) := by decide +kernel
theorem dX11_playAll_67 : decode cX11_playAll 67 = .ok (.if_icmp .ge 21, 3) := by decide +kernel
theorem dX11_playAll_70 : decode cX11_playAll 70 = .ok (.iload 4, 2) := by decide +kernel
theorem dX11_playAll_72 : decode cX11_playAll 72 = .ok (.aload_n 0, 1) := by decide +kernel
theorem dX11_playAll_73 : decode cX11_playAll 73 = .ok (.getfield 71, 3) := by decide +kernel
theorem dX11_playAll_76 : decode cX11_playAll 76 = .ok (.invokevirtual 241, 3) := by decide +kernel
theorem dX11_playAll_79 : decode cX11_playAll 79 = .ok (.ior, 1) := by decide +kernel
theorem dX11_playAll_80 : decode cX11_playAll 80 = .ok (.istore 4, 2) := by decide +kernel
theorem dX11_playAll_82 : decode cX11_playAll 82 = .ok (.iinc 5 1, 3) := by decide +kernel
theorem dX11_playAll_85 : decode cX11_playAll 85 = .ok (.goto (-22), 3) := by decide +kernel
theorem dX11_playAll_88 : decode cX11_playAll 88 = .ok (.aload_n 0, 1) := by decide +kernel
theorem dX11_playAll_89 : decode cX11_playAll 89 = .ok (.getfield 79, 3) := by decide +kernel
theorem dX11_playAll_92 : decode cX11_playAll 92 = .ok (.iload_n 3, 1) := by decide +kernel
theorem dX11_playAll_93 : decode cX11_playAll 93 = .ok (.aload_n 0, 1) := by decide +kernel
theorem dX11_playAll_94 : decode cX11_playAll 94 = .ok (.iload_n 1, 1) := by decide +kernel
theorem dX11_playAll_95 : decode cX11_playAll 95 = .ok (.iload 4, 2) := by decide +kernel
theorem dX11_playAll_97 : decode cX11_playAll 97 = .ok (.iload_n 3, 1) := by decide +kernel
theorem dX11_playAll_98 : decode cX11_playAll 98 = .ok (.iconst 1, 1) := by decide +kernel
theorem dX11_playAll_99 : decode cX11_playAll 99 = .ok (.ishr, 1) := by decide +kernel
theorem dX11_playAll_100 : decode cX11_playAll 100 = .ok (.invokevirtual 358, 3) := by decide +kernel
theorem dX11_playAll_103 : decode cX11_playAll 103 = .ok (.iastore, 1) := by decide +kernel
theorem dX11_playAll_104 : decode cX11_playAll 104 = .ok (.aload_n 0, 1) := by decide +kernel
theorem dX11_playAll_105 : decode cX11_playAll 105 = .ok (.getfield 79, 3) := by decide +kernel
theorem dX11_playAll_108 : decode cX11_playAll 108 = .ok (.iconst 4, 1) := by decide +kernel
theorem dX11_playAll_109 : decode cX11_playAll 109 = .ok (.iload_n 3, 1) := by decide +kernel
theorem dX11_playAll_110 : decode cX11_playAll 110 = .ok (.iadd, 1) := by decide +kernel
theorem dX11_playAll_111 : decode cX11_playAll 111 = .ok (.aload_n 0, 1) := by decide +kernel
theorem dX11_playAll_112 : decode cX11_playAll 112 = .ok (.iload_n 2, 1) := by decide +kernel
theorem dX11_playAll_113 : decode cX11_playAll 113 = .ok (.iload 4, 2) := by decide +kernel
theorem dX11_playAll_115 : decode cX11_playAll 115 = .ok (.iload_n 3, 1) := by decide +kernel
theorem dX11_playAll_116 : decode cX11_playAll 116 = .ok (.iconst 1, 1) := by decide +kernel
theorem dX11_playAll_117 : decode cX11_playAll 117 = .ok (.iand, 1) := by decide +kernel
theorem dX11_playAll_118 : decode cX11_playAll 118 = .ok (.invokevirtual 358, 3) := by decide +kernel
theorem dX11_playAll_121 : decode cX11_playAll 121 = .ok (.iastore, 1) := by decide +kernel
theorem dX11_playAll_122 : decode cX11_playAll 122 = .ok (.iinc 3 1, 3) := by decide +kernel
theorem dX11_playAll_125 : decode cX11_playAll 125 = .ok (.goto (-123), 3) := by decide +kernel
theorem dX11_playAll_128 : decode cX11_playAll 128 = .ok (.return_, 1) := by decide +kernel
theorem dX11_gain_0 : decode cX11_gain 0 = .ok (.iload_n 2, 1) := by decide +kernel
theorem dX11_gain_1 : decode cX11_gain 1 = .ok (.iconst 1, 1) := by decide +kernel
theorem dX11_gain_2 : decode cX11_gain 2 = .ok (.iload_n 1, 1) := by decide +kernel
theorem dX11_gain_3 : decode cX11_gain 3 = .ok (.ishl, 1) := by decide +kernel
theorem dX11_gain_4 : decode cX11_gain 4 = .ok (.iconst (-1), 1) := by decide +kernel
theorem dX11_gain_5 : decode cX11_gain 5 = .ok (.ixor, 1) := by decide +kernel
theorem dX11_gain_6 : decode cX11_gain 6 = .ok (.iand, 1) := by decide +kernel
theorem dX11_gain_7 : decode cX11_gain 7 = .ok (.invokestatic 274, 3) := by decide +kernel
theorem dX11_gain_10 : decode cX11_gain 10 = .ok (.iconst 2, 1) := by decide +kernel
theorem dX11_gain_11 : decode cX11_gain 11 = .ok (.iload_n 3, 1) := by decide +kernel
theorem dX11_gain_12 : decode cX11_gain 12 = .ok (.imul, 1) := by decide +kernel
theorem dX11_gain_13 : decode cX11_gain 13 = .ok (.isub, 1) := by decide +kernel
theorem dX11_gain_14 : decode cX11_gain 14 = .ok (.aload_n 0, 1) := by decide +kernel
theorem dX11_gain_15 : decode cX11_gain 15 = .ok (.getfield 71, 3) := by decide +kernel
theorem dX11_gain_18 : decode cX11_gain 18 = .ok (.getfield 279, 3) := by decide +kernel
theorem dX11_gain_21 : decode cX11_gain 21 = .ok (.iload_n 1, 1) := by decide +kernel
theorem dX11_gain_22 : decode cX11_gain 22 = .ok (.iaload, 1) := by decide +kernel
theorem dX11_gain_23 : decode cX11_gain 23 = .ok (.isub, 1) := by decide +kernel
theorem dX11_gain_24 : decode cX11_gain 24 = .ok (.ireturn, 1) := by decide +kernel
theorem dX11_years_0 : decode cX11_years 0 = .ok (.iload_n 3, 1) := by decide +kernel
theorem dX11_years_1 : decode cX11_years 1 = .ok (.iconst 2, 1) := by decide +kernel
theorem dX11_years_2 : decode cX11_years 2 = .ok (.invokestatic 267, 3) := by decide +kernel
theorem dX11_years_5 : decode cX11_years 5 = .ok (.iload_n 2, 1) := by decide +kernel
theorem dX11_years_6 : decode cX11_years 6 = .ok (.iconst 0, 1) := by decide +kernel
theorem dX11_years_7 : decode cX11_years 7 = .ok (.bipush 60, 2) := by decide +kernel
theorem dX11_years_9 : decode cX11_years 9 = .ok (.invokestatic 263, 3) := by decide +kernel
theorem dX11_years_12 : decode cX11_years 12 = .ok (.aload_n 0, 1) := by decide +kernel
theorem dX11_years_13 : decode cX11_years 13 = .ok (.getfield 71, 3) := by decide +kernel
theorem dX11_years_16 : decode cX11_years 16 = .ok (.aload_n 0, 1) := by decide +kernel
theorem dX11_years_17 : decode cX11_years 17 = .ok (.getfield 36, 3) := by decide +kernel
theorem dX11_years_20 : decode cX11_years 20 = .ok (.getfield 109, 3) := by decide +kernel
theorem dX11_years_23 : decode cX11_years 23 = .ok (.invokevirtual 238, 3) := by decide +kernel
theorem dX11_years_26 : decode cX11_years 26 = .ok (.aload_n 0, 1) := by decide +kernel
theorem dX11_years_27 : decode cX11_years 27 = .ok (.getfield 71, 3) := by decide +kernel
theorem dX11_years_30 : decode cX11_years 30 = .ok (.iload_n 1, 1) := by decide +kernel
theorem dX11_years_31 : decode cX11_years 31 = .ok (.putfield 362, 3) := by decide +kernel
theorem dX11_years_34 : decode cX11_years 34 = .ok (.aload_n 0, 1) := by decide +kernel
theorem dX11_years_35 : decode cX11_years 35 = .ok (.getfield 56, 3) := by decide +kernel
theorem dX11_years_38 : decode cX11_years 38 = .ok (.aload_n 0, 1) := by decide +kernel
theorem dX11_years_39 : decode cX11_years 39 = .ok (.getfield 36, 3) := by decide +kernel
theorem dX11_years_42 : decode cX11_years 42 = .ok (.getfield 109, 3) := by decide +kernel
theorem dX11_years_45 : decode cX11_years 45 = .ok (.getfield 134, 3) := by decide +kernel
theorem dX11_years_48 : decode cX11_years 48 = .ok (.invokevirtual 137, 3) := by decide +kernel
theorem dX11_years_51 : decode cX11_years 51 = .ok (.iconst 0, 1) := by decide +kernel
theorem dX11_years_52 : decode cX11_years 52 = .ok (.istore 4, 2) := by decide +kernel
theorem dX11_years_54 : decode cX11_years 54 = .ok (.iconst 0, 1) := by decide +kernel
theorem dX11_years_55 : decode cX11_years 55 = .ok (.istore 5, 2) := by decide +kernel
theorem dX11_years_57 : decode cX11_years 57 = .ok (.iconst 0, 1) := by decide +kernel
theorem dX11_years_58 : decode cX11_years 58 = .ok (.istore 6, 2) := by decide +kernel
theorem dX11_years_60 : decode cX11_years 60 = .ok (.iload 6, 2) := by decide +kernel
theorem dX11_years_62 : decode cX11_years 62 = .ok (.iload_n 2, 1) := by decide +kernel
theorem dX11_years_63 : decode cX11_years 63 = .ok (.if_icmp .ge 52, 3) := by decide +kernel
theorem dX11_years_66 : decode cX11_years 66 = .ok (.aload_n 0, 1) := by decide +kernel
theorem dX11_years_67 : decode cX11_years 67 = .ok (.invokevirtual 365, 3) := by decide +kernel
theorem dX11_years_70 : decode cX11_years 70 = .ok (.aload_n 0, 1) := by decide +kernel
theorem dX11_years_71 : decode cX11_years 71 = .ok (.getfield 71, 3) := by decide +kernel
theorem dX11_years_74 : decode cX11_years 74 = .ok (.aload_n 0, 1) := by decide +kernel
theorem dX11_years_75 : decode cX11_years 75 = .ok (.getfield 56, 3) := by decide +kernel
theorem dX11_years_78 : decode cX11_years 78 = .ok (.aload_n 0, 1) := by decide +kernel
theorem dX11_years_79 : decode cX11_years 79 = .ok (.getfield 71, 3) := by decide +kernel
theorem dX11_years_82 : decode cX11_years 82 = .ok (.bipush 10, 2) := by decide +kernel
theorem dX11_years_84 : decode cX11_years 84 = .ok (.invokevirtual 368, 3) := by decide +kernel
theorem dX11_years_87 : decode cX11_years 87 = .ok (.invokevirtual 349, 3) := by decide +kernel
theorem dX11_years_90 : decode cX11_years 90 = .ok (.istore 7, 2) := by decide +kernel
theorem dX11_years_92 : decode cX11_years 92 = .ok (.iload 4, 2) := by decide +kernel
theorem dX11_years_94 : decode cX11_years 94 = .ok (.iload 7, 2) := by decide +kernel
theorem dX11_years_96 : decode cX11_years 96 = .ok (.ior, 1) := by decide +kernel
theorem dX11_years_97 : decode cX11_years 97 = .ok (.istore 4, 2) := by decide +kernel
theorem dX11_years_99 : decode cX11_years 99 = .ok (.iload 5, 2) := by decide +kernel
theorem dX11_years_101 : decode cX11_years 101 = .ok (.iload 7, 2) := by decide +kernel
theorem dX11_years_103 : decode cX11_years 103 = .ok (.invokestatic 274, 3) := by decide +kernel
theorem dX11_years_106 : decode cX11_years 106 = .ok (.iadd, 1) := by decide +kernel
theorem dX11_years_107 : decode cX11_years 107 = .ok (.istore 5, 2) := by decide +kernel
theorem dX11_years_109 : decode cX11_years 109 = .ok (.iinc 6 1, 3) := by decide +kernel
theorem dX11_years_112 : decode cX11_years 112 = .ok (.goto (-52), 3) := by decide +kernel
theorem dX11_years_115 : decode cX11_years 115 = .ok (.iload_n 3, 1) := by decide +kernel
theorem dX11_years_116 : decode cX11_years 116 = .ok (.ifCond .ne 6, 3) := by decide +kernel
theorem dX11_years_119 : decode cX11_years 119 = .ok (.iload 5, 2) := by decide +kernel
theorem dX11_years_121 : decode cX11_years 121 = .ok (.ireturn, 1) := by decide +kernel
theorem dX11_years_122 : decode cX11_years 122 = .ok (.iload_n 3, 1) := by decide +kernel
theorem dX11_years_123 : decode cX11_years 123 = .ok (.iconst 1, 1) := by decide +kernel
theorem dX11_years_124 : decode cX11_years 124 = .ok (.if_icmp .ne 16, 3) := by decide +kernel
theorem dX11_years_127 : decode cX11_years 127 = .ok (.aload_n 0, 1) := by decide +kernel
theorem dX11_years_128 : decode cX11_years 128 = .ok (.getfield 71, 3) := by decide +kernel
theorem dX11_years_131 : decode cX11_years 131 = .ok (.getfield 244, 3) := by decide +kernel
theorem dX11_years_134 : decode cX11_years 134 = .ok (.getfield 159, 3) := by decide +kernel
theorem dX11_years_137 : decode cX11_years 137 = .ok (.goto 16, 3) := by decide +kernel
theorem dX11_years_140 : decode cX11_years 140 = .ok (.aload_n 0, 1) := by decide +kernel
theorem dX11_years_141 : decode cX11_years 141 = .ok (.getfield 29, 3) := by decide +kernel
theorem dX11_years_144 : decode cX11_years 144 = .ok (.getfield 144, 3) := by decide +kernel
theorem dX11_years_147 : decode cX11_years 147 = .ok (.iload 4, 2) := by decide +kernel
theorem dX11_years_149 : decode cX11_years 149 = .ok (.invokestatic 274, 3) := by decide +kernel
theorem dX11_years_152 : decode cX11_years 152 = .ok (.isub, 1) := by decide +kernel
theorem dX11_years_153 : decode cX11_years 153 = .ok (.ireturn, 1) := by decide +kernel
theorem dX11_happen_0 : decode cX11_happen 0 = .ok (.aload_n 0, 1) := by decide +kernel
theorem dX11_happen_1 : decode cX11_happen 1 = .ok (.getfield 71, 3) := by decide +kernel
theorem dX11_happen_4 : decode cX11_happen 4 = .ok (.bipush 6, 2) := by decide +kernel
theorem dX11_happen_6 : decode cX11_happen 6 = .ok (.invokevirtual 368, 3) := by decide +kernel
theorem dX11_happen_9 : decode cX11_happen 9 = .ok (.istore_n 1, 1) := by decide +kernel
theorem dX11_happen_10 : decode cX11_happen 10 = .ok (.iload_n 1, 1) := by decide +kernel
theorem dX11_happen_11 : decode cX11_happen 11 = .ok (.iconst 2, 1) := by decide +kernel
theorem dX11_happen_12 : decode cX11_happen 12 = .ok (.if_icmp .gt 13, 3) := by decide +kernel
theorem dX11_happen_15 : decode cX11_happen 15 = .ok (.aload_n 0, 1) := by decide +kernel
theorem dX11_happen_16 : decode cX11_happen 16 = .ok (.getfield 29, 3) := by decide +kernel
theorem dX11_happen_19 : decode cX11_happen 19 = .ok (.getfield 144, 3) := by decide +kernel
theorem dX11_happen_22 : decode cX11_happen 22 = .ok (.ifCond .ne 4, 3) := by decide +kernel
theorem dX11_happen_25 : decode cX11_happen 25 = .ok (.return_, 1) := by decide +kernel
theorem dX11_happen_26 : decode cX11_happen 26 = .ok (.aload_n 0, 1) := by decide +kernel
theorem dX11_happen_27 : decode cX11_happen 27 = .ok (.getfield 71, 3) := by decide +kernel
theorem dX11_happen_30 : decode cX11_happen 30 = .ok (.aload_n 0, 1) := by decide +kernel
theorem dX11_happen_31 : decode cX11_happen 31 = .ok (.getfield 29, 3) := by decide +kernel
theorem dX11_happen_34 : decode cX11_happen 34 = .ok (.getfield 144, 3) := by decide +kernel
theorem dX11_happen_37 : decode cX11_happen 37 = .ok (.invokevirtual 368, 3) := by decide +kernel
theorem dX11_happen_40 : decode cX11_happen 40 = .ok (.istore_n 2, 1) := by decide +kernel
theorem dX11_happen_41 : decode cX11_happen 41 = .ok (.iload_n 2, 1) := by decide +kernel
theorem dX11_happen_42 : decode cX11_happen 42 = .ok (.bipush 9, 2) := by decide +kernel
theorem dX11_happen_44 : decode cX11_happen 44 = .ok (.if_icmp .lt 4, 3) := by decide +kernel
theorem dX11_happen_47 : decode cX11_happen 47 = .ok (.return_, 1) := by decide +kernel
theorem dX11_happen_48 : decode cX11_happen 48 = .ok (.iload_n 1, 1) := by decide +kernel
theorem dX11_happen_49 : decode cX11_happen 49 = .ok (.ifCond .ne 17, 3) := by decide +kernel
theorem dX11_happen_52 : decode cX11_happen 52 = .ok (.aload_n 0, 1) := by decide +kernel
theorem dX11_happen_53 : decode cX11_happen 53 = .ok (.getfield 71, 3) := by decide +kernel
theorem dX11_happen_56 : decode cX11_happen 56 = .ok (.getfield 244, 3) := by decide +kernel
theorem dX11_happen_59 : decode cX11_happen 59 = .ok (.iload_n 2, 1) := by decide +kernel
theorem dX11_happen_60 : decode cX11_happen 60 = .ok (.invokevirtual 250, 3) := by decide +kernel
theorem dX11_happen_63 : decode cX11_happen 63 = .ok (.goto 60, 3) := by decide +kernel
theorem dX11_happen_66 : decode cX11_happen 66 = .ok (.iload_n 1, 1) := by decide +kernel
theorem dX11_happen_67 : decode cX11_happen 67 = .ok (.iconst 1, 1) := by decide +kernel
theorem dX11_happen_68 : decode cX11_happen 68 = .ok (.if_icmp .ne 17, 3) := by decide +kernel
theorem dX11_happen_71 : decode cX11_happen 71 = .ok (.aload_n 0, 1) := by decide +kernel
theorem dX11_happen_72 : decode cX11_happen 72 = .ok (.getfield 71, 3) := by decide +kernel
theorem dX11_happen_75 : decode cX11_happen 75 = .ok (.getfield 244, 3) := by decide +kernel
theorem dX11_happen_78 : decode cX11_happen 78 = .ok (.iload_n 2, 1) := by decide +kernel
theorem dX11_happen_79 : decode cX11_happen 79 = .ok (.invokevirtual 253, 3) := by decide +kernel
theorem dX11_happen_82 : decode cX11_happen 82 = .ok (.goto 41, 3) := by decide +kernel
theorem dX11_happen_85 : decode cX11_happen 85 = .ok (.aload_n 0, 1) := by decide +kernel
theorem dX11_happen_86 : decode cX11_happen 86 = .ok (.getfield 71, 3) := by decide +kernel
theorem dX11_happen_89 : decode cX11_happen 89 = .ok (.getfield 244, 3) := by decide +kernel
theorem dX11_happen_92 : decode cX11_happen 92 = .ok (.getfield 134, 3) := by decide +kernel
theorem dX11_happen_95 : decode cX11_happen 95 = .ok (.iload_n 2, 1) := by decide +kernel
theorem dX11_happen_96 : decode cX11_happen 96 = .ok (.aload_n 0, 1) := by decide +kernel
theorem dX11_happen_97 : decode cX11_happen 97 = .ok (.getfield 71, 3) := by decide +kernel
theorem dX11_happen_100 : decode cX11_happen 100 = .ok (.bipush 21, 2) := by decide +kernel
theorem dX11_happen_102 : decode cX11_happen 102 = .ok (.invokevirtual 368, 3) := by decide +kernel
theorem dX11_happen_105 : decode cX11_happen 105 = .ok (.iastore, 1) := by decide +kernel
theorem dX11_happen_106 : decode cX11_happen 106 = .ok (.aload_n 0, 1) := by decide +kernel
theorem dX11_happen_107 : decode cX11_happen 107 = .ok (.getfield 56, 3) := by decide +kernel
theorem dX11_happen_110 : decode cX11_happen 110 = .ok (.aload_n 0, 1) := by decide +kernel
theorem dX11_happen_111 : decode cX11_happen 111 = .ok (.getfield 71, 3) := by decide +kernel
theorem dX11_happen_114 : decode cX11_happen 114 = .ok (.getfield 244, 3) := by decide +kernel
theorem dX11_happen_117 : decode cX11_happen 117 = .ok (.getfield 134, 3) := by decide +kernel
theorem dX11_happen_120 : decode cX11_happen 120 = .ok (.invokevirtual 137, 3) := by decide +kernel
theorem dX11_happen_123 : decode cX11_happen 123 = .ok (.return_, 1) := by decide +kernel
theorem dX11_image_0 : decode cX11_image 0 = .ok (.aload_n 0, 1) := by decide +kernel
theorem dX11_image_1 : decode cX11_image 1 = .ok (.getfield 40, 3) := by decide +kernel
theorem dX11_image_4 : decode cX11_image 4 = .ok (.aload_n 0, 1) := by decide +kernel
theorem dX11_image_5 : decode cX11_image 5 = .ok (.getfield 36, 3) := by decide +kernel
theorem dX11_image_8 : decode cX11_image 8 = .ok (.invokevirtual 371, 3) := by decide +kernel
theorem dX11_image_11 : decode cX11_image 11 = .ok (.aload_n 0, 1) := by decide +kernel
theorem dX11_image_12 : decode cX11_image 12 = .ok (.iconst 1, 1) := by decide +kernel
theorem dX11_image_13 : decode cX11_image 13 = .ok (.putfield 43, 3) := by decide +kernel
theorem dX11_image_16 : decode cX11_image 16 = .ok (.return_, 1) := by decide +kernel
theorem dX11_restore_0 : decode cX11_restore 0 = .ok (.aload_n 0, 1) := by decide +kernel
theorem dX11_restore_1 : decode cX11_restore 1 = .ok (.getfield 43, 3) := by decide +kernel
theorem dX11_restore_4 : decode cX11_restore 4 = .ok (.ifCond .ne 5, 3) := by decide +kernel
theorem dX11_restore_7 : decode cX11_restore 7 = .ok (.iconst 0, 1) := by decide +kernel
theorem dX11_restore_8 : decode cX11_restore 8 = .ok (.ireturn, 1) := by decide +kernel
theorem dX11_restore_9 : decode cX11_restore 9 = .ok (.aload_n 0, 1) := by decide +kernel
theorem dX11_restore_10 : decode cX11_restore 10 = .ok (.getfield 36, 3) := by decide +kernel
theorem dX11_restore_13 : decode cX11_restore 13 = .ok (.aload_n 0, 1) := by decide +kernel
theorem dX11_restore_14 : decode cX11_restore 14 = .ok (.getfield 40, 3) := by decide +kernel
theorem dX11_restore_17 : decode cX11_restore 17 = .ok (.invokevirtual 371, 3) := by decide +kernel
theorem dX11_restore_20 : decode cX11_restore 20 = .ok (.aload_n 0, 1) := by decide +kernel
theorem dX11_restore_21 : decode cX11_restore 21 = .ok (.getfield 52, 3) := by decide +kernel
theorem dX11_restore_24 : decode cX11_restore 24 = .ok (.aload_n 0, 1) := by decide +kernel
theorem dX11_restore_25 : decode cX11_restore 25 = .ok (.getfield 36, 3) := by decide +kernel
theorem dX11_restore_28 : decode cX11_restore 28 = .ok (.getfield 109, 3) := by decide +kernel
theorem dX11_restore_31 : decode cX11_restore 31 = .ok (.getfield 134, 3) := by decide +kernel
theorem dX11_restore_34 : decode cX11_restore 34 = .ok (.invokevirtual 137, 3) := by decide +kernel
theorem dX11_restore_37 : decode cX11_restore 37 = .ok (.iconst 1, 1) := by decide +kernel
theorem dX11_restore_38 : decode cX11_restore 38 = .ok (.ireturn, 1) := by decide +kernel
theorem dX11_copyFarms_0 : decode cX11_copyFarms 0 = .ok (.aload_n 0, 1) := by decide +kernel
theorem dX11_copyFarms_1 : decode cX11_copyFarms 1 = .ok (.iconst 0, 1) := by decide +kernel
theorem dX11_copyFarms_2 : decode cX11_copyFarms 2 = .ok (.aload_n 1, 1) := by decide +kernel
theorem dX11_copyFarms_3 : decode cX11_copyFarms 3 = .ok (.iconst 0, 1) := by decide +kernel
theorem dX11_copyFarms_4 : decode cX11_copyFarms 4 = .ok (.bipush 9, 2) := by decide +kernel
theorem dX11_copyFarms_6 : decode cX11_copyFarms 6 = .ok (.invokestatic 374, 3) := by decide +kernel
theorem dX11_copyFarms_9 : decode cX11_copyFarms 9 = .ok (.return_, 1) := by decide +kernel
theorem dJ6_bitCount_0f7a4_0 : decode cJ6_bitCount_0f7a4 0 = .ok (.iload_n 0, 1) := by decide +kernel
theorem dJ6_bitCount_0f7a4_1 : decode cJ6_bitCount_0f7a4 1 = .ok (.iload_n 0, 1) := by decide +kernel
theorem dJ6_bitCount_0f7a4_2 : decode cJ6_bitCount_0f7a4 2 = .ok (.iconst 1, 1) := by decide +kernel
theorem dJ6_bitCount_0f7a4_3 : decode cJ6_bitCount_0f7a4 3 = .ok (.iushr, 1) := by decide +kernel
theorem dJ6_bitCount_0f7a4_4 : decode cJ6_bitCount_0f7a4 4 = .ok (.ldc_w 265, 3) := by decide +kernel
theorem dJ6_bitCount_0f7a4_7 : decode cJ6_bitCount_0f7a4 7 = .ok (.iand, 1) := by decide +kernel
theorem dJ6_bitCount_0f7a4_8 : decode cJ6_bitCount_0f7a4 8 = .ok (.isub, 1) := by decide +kernel
theorem dJ6_bitCount_0f7a4_9 : decode cJ6_bitCount_0f7a4 9 = .ok (.istore_n 0, 1) := by decide +kernel
theorem dJ6_bitCount_0f7a4_10 : decode cJ6_bitCount_0f7a4 10 = .ok (.iload_n 0, 1) := by decide +kernel
theorem dJ6_bitCount_0f7a4_11 : decode cJ6_bitCount_0f7a4 11 = .ok (.ldc_w 266, 3) := by decide +kernel
theorem dJ6_bitCount_0f7a4_14 : decode cJ6_bitCount_0f7a4 14 = .ok (.iand, 1) := by decide +kernel
theorem dJ6_bitCount_0f7a4_15 : decode cJ6_bitCount_0f7a4 15 = .ok (.iload_n 0, 1) := by decide +kernel
theorem dJ6_bitCount_0f7a4_16 : decode cJ6_bitCount_0f7a4 16 = .ok (.iconst 2, 1) := by decide +kernel
theorem dJ6_bitCount_0f7a4_17 : decode cJ6_bitCount_0f7a4 17 = .ok (.iushr, 1) := by decide +kernel
theorem dJ6_bitCount_0f7a4_18 : decode cJ6_bitCount_0f7a4 18 = .ok (.ldc_w 266, 3) := by decide +kernel
theorem dJ6_bitCount_0f7a4_21 : decode cJ6_bitCount_0f7a4 21 = .ok (.iand, 1) := by decide +kernel
theorem dJ6_bitCount_0f7a4_22 : decode cJ6_bitCount_0f7a4 22 = .ok (.iadd, 1) := by decide +kernel
theorem dJ6_bitCount_0f7a4_23 : decode cJ6_bitCount_0f7a4 23 = .ok (.istore_n 0, 1) := by decide +kernel
theorem dJ6_bitCount_0f7a4_24 : decode cJ6_bitCount_0f7a4 24 = .ok (.iload_n 0, 1) := by decide +kernel
theorem dJ6_bitCount_0f7a4_25 : decode cJ6_bitCount_0f7a4 25 = .ok (.iload_n 0, 1) := by decide +kernel
theorem dJ6_bitCount_0f7a4_26 : decode cJ6_bitCount_0f7a4 26 = .ok (.iconst 4, 1) := by decide +kernel
theorem dJ6_bitCount_0f7a4_27 : decode cJ6_bitCount_0f7a4 27 = .ok (.iushr, 1) := by decide +kernel
theorem dJ6_bitCount_0f7a4_28 : decode cJ6_bitCount_0f7a4 28 = .ok (.iadd, 1) := by decide +kernel
theorem dJ6_bitCount_0f7a4_29 : decode cJ6_bitCount_0f7a4 29 = .ok (.ldc_w 267, 3) := by decide +kernel
theorem dJ6_bitCount_0f7a4_32 : decode cJ6_bitCount_0f7a4 32 = .ok (.iand, 1) := by decide +kernel
theorem dJ6_bitCount_0f7a4_33 : decode cJ6_bitCount_0f7a4 33 = .ok (.istore_n 0, 1) := by decide +kernel
theorem dJ6_bitCount_0f7a4_34 : decode cJ6_bitCount_0f7a4 34 = .ok (.iload_n 0, 1) := by decide +kernel
theorem dJ6_bitCount_0f7a4_35 : decode cJ6_bitCount_0f7a4 35 = .ok (.iload_n 0, 1) := by decide +kernel
theorem dJ6_bitCount_0f7a4_36 : decode cJ6_bitCount_0f7a4 36 = .ok (.bipush 8, 2) := by decide +kernel
theorem dJ6_bitCount_0f7a4_38 : decode cJ6_bitCount_0f7a4 38 = .ok (.iushr, 1) := by decide +kernel
theorem dJ6_bitCount_0f7a4_39 : decode cJ6_bitCount_0f7a4 39 = .ok (.iadd, 1) := by decide +kernel
theorem dJ6_bitCount_0f7a4_40 : decode cJ6_bitCount_0f7a4 40 = .ok (.istore_n 0, 1) := by decide +kernel
theorem dJ6_bitCount_0f7a4_41 : decode cJ6_bitCount_0f7a4 41 = .ok (.iload_n 0, 1) := by decide +kernel
theorem dJ6_bitCount_0f7a4_42 : decode cJ6_bitCount_0f7a4 42 = .ok (.iload_n 0, 1) := by decide +kernel
theorem dJ6_bitCount_0f7a4_43 : decode cJ6_bitCount_0f7a4 43 = .ok (.bipush 16, 2) := by decide +kernel
theorem dJ6_bitCount_0f7a4_45 : decode cJ6_bitCount_0f7a4 45 = .ok (.iushr, 1) := by decide +kernel
theorem dJ6_bitCount_0f7a4_46 : decode cJ6_bitCount_0f7a4 46 = .ok (.iadd, 1) := by decide +kernel
theorem dJ6_bitCount_0f7a4_47 : decode cJ6_bitCount_0f7a4 47 = .ok (.istore_n 0, 1) := by decide +kernel
theorem dJ6_bitCount_0f7a4_48 : decode cJ6_bitCount_0f7a4 48 = .ok (.iload_n 0, 1) := by decide +kernel
theorem dJ6_bitCount_0f7a4_49 : decode cJ6_bitCount_0f7a4 49 = .ok (.bipush 63, 2) := by decide +kernel
theorem dJ6_bitCount_0f7a4_51 : decode cJ6_bitCount_0f7a4 51 = .ok (.iand, 1) := by decide +kernel
theorem dJ6_bitCount_0f7a4_52 : decode cJ6_bitCount_0f7a4 52 = .ok (.ireturn, 1) := by decide +kernel
