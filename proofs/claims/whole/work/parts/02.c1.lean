theorem dX3_init_0 : decode cX3_init 0 = .ok (.aload_n 0, 1) := by decide +kernel
theorem dX3_init_1 : decode cX3_init 1 = .ok (.invokespecial 3, 3) := by decide +kernel
theorem dX3_init_4 : decode cX3_init 4 = .ok (.aload_n 0, 1) := by decide +kernel
theorem dX3_init_5 : decode cX3_init 5 = .ok (.new 9, 3) := by decide +kernel
theorem dX3_init_8 : decode cX3_init 8 = .ok (.dup, 1) := by decide +kernel
theorem dX3_init_9 : decode cX3_init 9 = .ok (.invokespecial 11, 3) := by decide +kernel
theorem dX3_init_12 : decode cX3_init 12 = .ok (.putfield 12, 3) := by decide +kernel
theorem dX3_init_15 : decode cX3_init 15 = .ok (.aload_n 0, 1) := by decide +kernel
theorem dX3_init_16 : decode cX3_init 16 = .ok (.iconst 0, 1) := by decide +kernel
theorem dX3_init_17 : decode cX3_init 17 = .ok (.putfield 18, 3) := by decide +kernel
theorem dX3_init_20 : decode cX3_init 20 = .ok (.aload_n 0, 1) := by decide +kernel
theorem dX3_init_21 : decode cX3_init 21 = .ok (.iconst (-1), 1) := by decide +kernel
theorem dX3_init_22 : decode cX3_init 22 = .ok (.putfield 22, 3) := by decide +kernel
theorem dX3_init_25 : decode cX3_init 25 = .ok (.aload_n 0, 1) := by decide +kernel
theorem dX3_init_26 : decode cX3_init 26 = .ok (.iconst 0, 1) := by decide +kernel
theorem dX3_init_27 : decode cX3_init 27 = .ok (.putfield 25, 3) := by decide +kernel
theorem dX3_init_30 : decode cX3_init 30 = .ok (.aload_n 0, 1) := by decide +kernel
theorem dX3_init_31 : decode cX3_init 31 = .ok (.getstatic 28, 3) := by decide +kernel
theorem dX3_init_34 : decode cX3_init 34 = .ok (.putfield 34, 3) := by decide +kernel
theorem dX3_init_37 : decode cX3_init 37 = .ok (.aload_n 0, 1) := by decide +kernel
theorem dX3_init_38 : decode cX3_init 38 = .ok (.iconst 0, 1) := by decide +kernel
theorem dX3_init_39 : decode cX3_init 39 = .ok (.putfield 37, 3) := by decide +kernel
theorem dX3_init_42 : decode cX3_init 42 = .ok (.aload_n 0, 1) := by decide +kernel
theorem dX3_init_43 : decode cX3_init 43 = .ok (.iconst 0, 1) := by decide +kernel
theorem dX3_init_44 : decode cX3_init 44 = .ok (.putfield 40, 3) := by decide +kernel
theorem dX3_init_47 : decode cX3_init 47 = .ok (.aload_n 0, 1) := by decide +kernel
theorem dX3_init_48 : decode cX3_init 48 = .ok (.iconst 0, 1) := by decide +kernel
theorem dX3_init_49 : decode cX3_init 49 = .ok (.putfield 43, 3) := by decide +kernel
theorem dX3_init_52 : decode cX3_init 52 = .ok (.aload_n 0, 1) := by decide +kernel
theorem dX3_init_53 : decode cX3_init 53 = .ok (.iconst 0, 1) := by decide +kernel
theorem dX3_init_54 : decode cX3_init 54 = .ok (.putfield 47, 3) := by decide +kernel
theorem dX3_init_57 : decode cX3_init 57 = .ok (.aload_n 0, 1) := by decide +kernel
theorem dX3_init_58 : decode cX3_init 58 = .ok (.iconst 0, 1) := by decide +kernel
theorem dX3_init_59 : decode cX3_init 59 = .ok (.putfield 50, 3) := by decide +kernel
theorem dX3_init_62 : decode cX3_init 62 = .ok (.aload_n 0, 1) := by decide +kernel
theorem dX3_init_63 : decode cX3_init 63 = .ok (.iconst 0, 1) := by decide +kernel
theorem dX3_init_64 : decode cX3_init 64 = .ok (.putfield 53, 3) := by decide +kernel
theorem dX3_init_67 : decode cX3_init 67 = .ok (.aload_n 0, 1) := by decide +kernel
theorem dX3_init_68 : decode cX3_init 68 = .ok (.iconst 0, 1) := by decide +kernel
theorem dX3_init_69 : decode cX3_init 69 = .ok (.putfield 56, 3) := by decide +kernel
theorem dX3_init_72 : decode cX3_init 72 = .ok (.aload_n 0, 1) := by decide +kernel
theorem dX3_init_73 : decode cX3_init 73 = .ok (.aload_n 1, 1) := by decide +kernel
theorem dX3_init_74 : decode cX3_init 74 = .ok (.putfield 59, 3) := by decide +kernel
theorem dX3_init_77 : decode cX3_init 77 = .ok (.return_, 1) := by decide +kernel
theorem dX3_reads_0 : decode cX3_reads 0 = .ok (.aload_n 0, 1) := by decide +kernel
theorem dX3_reads_1 : decode cX3_reads 1 = .ok (.getfield 12, 3) := by decide +kernel
theorem dX3_reads_4 : decode cX3_reads 4 = .ok (.invokevirtual 63, 3) := by decide +kernel
theorem dX3_reads_7 : decode cX3_reads 7 = .ok (.aload_n 0, 1) := by decide +kernel
theorem dX3_reads_8 : decode cX3_reads 8 = .ok (.iconst 0, 1) := by decide +kernel
theorem dX3_reads_9 : decode cX3_reads 9 = .ok (.putfield 18, 3) := by decide +kernel
theorem dX3_reads_12 : decode cX3_reads 12 = .ok (.aload_n 0, 1) := by decide +kernel
theorem dX3_reads_13 : decode cX3_reads 13 = .ok (.iconst (-1), 1) := by decide +kernel
theorem dX3_reads_14 : decode cX3_reads 14 = .ok (.putfield 22, 3) := by decide +kernel
theorem dX3_reads_17 : decode cX3_reads 17 = .ok (.aload_n 0, 1) := by decide +kernel
theorem dX3_reads_18 : decode cX3_reads 18 = .ok (.iconst 0, 1) := by decide +kernel
theorem dX3_reads_19 : decode cX3_reads 19 = .ok (.putfield 53, 3) := by decide +kernel
theorem dX3_reads_22 : decode cX3_reads 22 = .ok (.aload_n 0, 1) := by decide +kernel
theorem dX3_reads_23 : decode cX3_reads 23 = .ok (.iconst 0, 1) := by decide +kernel
theorem dX3_reads_24 : decode cX3_reads 24 = .ok (.putfield 56, 3) := by decide +kernel
theorem dX3_reads_27 : decode cX3_reads 27 = .ok (.aload_n 0, 1) := by decide +kernel
theorem dX3_reads_28 : decode cX3_reads 28 = .ok (.iload_n 1, 1) := by decide +kernel
theorem dX3_reads_29 : decode cX3_reads 29 = .ok (.aload_n 0, 1) := by decide +kernel
theorem dX3_reads_30 : decode cX3_reads 30 = .ok (.getfield 59, 3) := by decide +kernel
theorem dX3_reads_33 : decode cX3_reads 33 = .ok (.arraylength, 1) := by decide +kernel
theorem dX3_reads_34 : decode cX3_reads 34 = .ok (.invokestatic 66, 3) := by decide +kernel
theorem dX3_reads_37 : decode cX3_reads 37 = .ok (.putfield 25, 3) := by decide +kernel
theorem dX3_reads_40 : decode cX3_reads 40 = .ok (.aload_n 0, 1) := by decide +kernel
theorem dX3_reads_41 : decode cX3_reads 41 = .ok (.iconst 0, 1) := by decide +kernel
theorem dX3_reads_42 : decode cX3_reads 42 = .ok (.putfield 40, 3) := by decide +kernel
theorem dX3_reads_45 : decode cX3_reads 45 = .ok (.aload_n 0, 1) := by decide +kernel
theorem dX3_reads_46 : decode cX3_reads 46 = .ok (.invokevirtual 72, 3) := by decide +kernel
theorem dX3_reads_49 : decode cX3_reads 49 = .ok (.iconst 0, 1) := by decide +kernel
theorem dX3_reads_50 : decode cX3_reads 50 = .ok (.istore_n 2, 1) := by decide +kernel
theorem dX3_reads_51 : decode cX3_reads 51 = .ok (.iload_n 2, 1) := by decide +kernel
theorem dX3_reads_52 : decode cX3_reads 52 = .ok (.sipush 700, 3) := by decide +kernel
theorem dX3_reads_55 : decode cX3_reads 55 = .ok (.if_icmp .ge 28, 3) := by decide +kernel
theorem dX3_reads_58 : decode cX3_reads 58 = .ok (.aload_n 0, 1) := by decide +kernel
theorem dX3_reads_59 : decode cX3_reads 59 = .ok (.getfield 34, 3) := by decide +kernel
theorem dX3_reads_62 : decode cX3_reads 62 = .ok (.getstatic 28, 3) := by decide +kernel
theorem dX3_reads_65 : decode cX3_reads 65 = .ok (.if_acmp .eq 18, 3) := by decide +kernel
theorem dX3_reads_68 : decode cX3_reads 68 = .ok (.aload_n 0, 1) := by decide +kernel
theorem dX3_reads_69 : decode cX3_reads 69 = .ok (.invokevirtual 75, 3) := by decide +kernel
theorem dX3_reads_72 : decode cX3_reads 72 = .ok (.ifCond .ne 5, 3) := by decide +kernel
theorem dX3_reads_75 : decode cX3_reads 75 = .ok (.iconst 0, 1) := by decide +kernel
theorem dX3_reads_76 : decode cX3_reads 76 = .ok (.ireturn, 1) := by decide +kernel
theorem dX3_reads_77 : decode cX3_reads 77 = .ok (.iinc 2 1, 3) := by decide +kernel
theorem dX3_reads_80 : decode cX3_reads 80 = .ok (.goto (-29), 3) := by decide +kernel
theorem dX3_reads_83 : decode cX3_reads 83 = .ok (.iconst 1, 1) := by decide +kernel
theorem dX3_reads_84 : decode cX3_reads 84 = .ok (.ireturn, 1) := by decide +kernel
theorem dX3_fails_0 : decode cX3_fails 0 = .ok (.aload_n 0, 1) := by decide +kernel
theorem dX3_fails_1 : decode cX3_fails 1 = .ok (.iload_n 1, 1) := by decide +kernel
theorem dX3_fails_2 : decode cX3_fails 2 = .ok (.putfield 18, 3) := by decide +kernel
theorem dX3_fails_5 : decode cX3_fails 5 = .ok (.aload_n 0, 1) := by decide +kernel
theorem dX3_fails_6 : decode cX3_fails 6 = .ok (.aload_n 0, 1) := by decide +kernel
theorem dX3_fails_7 : decode cX3_fails 7 = .ok (.getfield 37, 3) := by decide +kernel
theorem dX3_fails_10 : decode cX3_fails 10 = .ok (.putfield 22, 3) := by decide +kernel
theorem dX3_fails_13 : decode cX3_fails 13 = .ok (.iconst 0, 1) := by decide +kernel
theorem dX3_fails_14 : decode cX3_fails 14 = .ok (.ireturn, 1) := by decide +kernel
theorem dX3_advance_0 : decode cX3_advance 0 = .ok (.aload_n 0, 1) := by decide +kernel
theorem dX3_advance_1 : decode cX3_advance 1 = .ok (.aload_n 0, 1) := by decide +kernel
theorem dX3_advance_2 : decode cX3_advance 2 = .ok (.getfield 40, 3) := by decide +kernel
theorem dX3_advance_5 : decode cX3_advance 5 = .ok (.putfield 37, 3) := by decide +kernel
theorem dX3_advance_8 : decode cX3_advance 8 = .ok (.aload_n 0, 1) := by decide +kernel
theorem dX3_advance_9 : decode cX3_advance 9 = .ok (.getfield 37, 3) := by decide +kernel
theorem dX3_advance_12 : decode cX3_advance 12 = .ok (.aload_n 0, 1) := by decide +kernel
theorem dX3_advance_13 : decode cX3_advance 13 = .ok (.getfield 25, 3) := by decide +kernel
theorem dX3_advance_16 : decode cX3_advance 16 = .ok (.if_icmp .ge 44, 3) := by decide +kernel
theorem dX3_advance_19 : decode cX3_advance 19 = .ok (.aload_n 0, 1) := by decide +kernel
theorem dX3_advance_20 : decode cX3_advance 20 = .ok (.getfield 59, 3) := by decide +kernel
theorem dX3_advance_23 : decode cX3_advance 23 = .ok (.aload_n 0, 1) := by decide +kernel
theorem dX3_advance_24 : decode cX3_advance 24 = .ok (.getfield 37, 3) := by decide +kernel
theorem dX3_advance_27 : decode cX3_advance 27 = .ok (.baload, 1) := by decide +kernel
theorem dX3_advance_28 : decode cX3_advance 28 = .ok (.bipush 32, 2) := by decide +kernel
theorem dX3_advance_30 : decode cX3_advance 30 = .ok (.if_icmp .eq 17, 3) := by decide +kernel
theorem dX3_advance_33 : decode cX3_advance 33 = .ok (.aload_n 0, 1) := by decide +kernel
theorem dX3_advance_34 : decode cX3_advance 34 = .ok (.getfield 59, 3) := by decide +kernel
theorem dX3_advance_37 : decode cX3_advance 37 = .ok (.aload_n 0, 1) := by decide +kernel
theorem dX3_advance_38 : decode cX3_advance 38 = .ok (.getfield 37, 3) := by decide +kernel
theorem dX3_advance_41 : decode cX3_advance 41 = .ok (.baload, 1) := by decide +kernel
theorem dX3_advance_42 : decode cX3_advance 42 = .ok (.bipush 10, 2) := by decide +kernel
theorem dX3_advance_44 : decode cX3_advance 44 = .ok (.if_icmp .ne 16, 3) := by decide +kernel
theorem dX3_advance_47 : decode cX3_advance 47 = .ok (.aload_n 0, 1) := by decide +kernel
theorem dX3_advance_48 : decode cX3_advance 48 = .ok (.dup, 1) := by decide +kernel
theorem dX3_advance_49 : decode cX3_advance 49 = .ok (.getfield 37, 3) := by decide +kernel
theorem dX3_advance_52 : decode cX3_advance 52 = .ok (.iconst 1, 1) := by decide +kernel
theorem dX3_advance_53 : decode cX3_advance 53 = .ok (.iadd, 1) := by decide +kernel
theorem dX3_advance_54 : decode cX3_advance 54 = .ok (.putfield 37, 3) := by decide +kernel
theorem dX3_advance_57 : decode cX3_advance 57 = .ok (.goto (-49), 3) := by decide +kernel
theorem dX3_advance_60 : decode cX3_advance 60 = .ok (.aload_n 0, 1) := by decide +kernel
theorem dX3_advance_61 : decode cX3_advance 61 = .ok (.aload_n 0, 1) := by decide +kernel
theorem dX3_advance_62 : decode cX3_advance 62 = .ok (.getfield 37, 3) := by decide +kernel
theorem dX3_advance_65 : decode cX3_advance 65 = .ok (.putfield 40, 3) := by decide +kernel
theorem dX3_advance_68 : decode cX3_advance 68 = .ok (.aload_n 0, 1) := by decide +kernel
theorem dX3_advance_69 : decode cX3_advance 69 = .ok (.aload_n 0, 1) := by decide +kernel
theorem dX3_advance_70 : decode cX3_advance 70 = .ok (.getfield 37, 3) := by decide +kernel
theorem dX3_advance_73 : decode cX3_advance 73 = .ok (.aload_n 0, 1) := by decide +kernel
theorem dX3_advance_74 : decode cX3_advance 74 = .ok (.getfield 25, 3) := by decide +kernel
theorem dX3_advance_77 : decode cX3_advance 77 = .ok (.if_icmp .ge 18, 3) := by decide +kernel
theorem dX3_advance_80 : decode cX3_advance 80 = .ok (.aload_n 0, 1) := by decide +kernel
theorem dX3_advance_81 : decode cX3_advance 81 = .ok (.aload_n 0, 1) := by decide +kernel
theorem dX3_advance_82 : decode cX3_advance 82 = .ok (.getfield 37, 3) := by decide +kernel
theorem dX3_advance_85 : decode cX3_advance 85 = .ok (.invokevirtual 79, 3) := by decide +kernel
theorem dX3_advance_88 : decode cX3_advance 88 = .ok (.ifCond .eq 7, 3) := by decide +kernel
theorem dX3_advance_91 : decode cX3_advance 91 = .ok (.iconst 1, 1) := by decide +kernel
theorem dX3_advance_92 : decode cX3_advance 92 = .ok (.goto 4, 3) := by decide +kernel
theorem dX3_advance_95 : decode cX3_advance 95 = .ok (.iconst 0, 1) := by decide +kernel
theorem dX3_advance_96 : decode cX3_advance 96 = .ok (.putfield 43, 3) := by decide +kernel
theorem dX3_advance_99 : decode cX3_advance 99 = .ok (.aload_n 0, 1) := by decide +kernel
theorem dX3_advance_100 : decode cX3_advance 100 = .ok (.getfield 37, 3) := by decide +kernel
theorem dX3_advance_103 : decode cX3_advance 103 = .ok (.aload_n 0, 1) := by decide +kernel
theorem dX3_advance_104 : decode cX3_advance 104 = .ok (.getfield 25, 3) := by decide +kernel
theorem dX3_advance_107 : decode cX3_advance 107 = .ok (.if_icmp .lt 13, 3) := by decide +kernel
theorem dX3_advance_110 : decode cX3_advance 110 = .ok (.aload_n 0, 1) := by decide +kernel
theorem dX3_advance_111 : decode cX3_advance 111 = .ok (.getstatic 28, 3) := by decide +kernel
theorem dX3_advance_114 : decode cX3_advance 114 = .ok (.putfield 34, 3) := by decide +kernel
theorem dX3_advance_117 : decode cX3_advance 117 = .ok (.goto 25, 3) := by decide +kernel
theorem dX3_advance_120 : decode cX3_advance 120 = .ok (.aload_n 0, 1) := by decide +kernel
theorem dX3_advance_121 : decode cX3_advance 121 = .ok (.aload_n 0, 1) := by decide +kernel
theorem dX3_advance_122 : decode cX3_advance 122 = .ok (.getfield 37, 3) := by decide +kernel
theorem dX3_advance_125 : decode cX3_advance 125 = .ok (.invokevirtual 83, 3) := by decide +kernel
theorem dX3_advance_128 : decode cX3_advance 128 = .ok (.ifCond .eq 10, 3) := by decide +kernel
theorem dX3_advance_131 : decode cX3_advance 131 = .ok (.aload_n 0, 1) := by decide +kernel
theorem dX3_advance_132 : decode cX3_advance 132 = .ok (.invokevirtual 86, 3) := by decide +kernel
theorem dX3_advance_135 : decode cX3_advance 135 = .ok (.goto 7, 3) := by decide +kernel
theorem dX3_advance_138 : decode cX3_advance 138 = .ok (.aload_n 0, 1) := by decide +kernel
theorem dX3_advance_139 : decode cX3_advance 139 = .ok (.invokevirtual 89, 3) := by decide +kernel
theorem dX3_advance_142 : decode cX3_advance 142 = .ok (.return_, 1) := by decide +kernel
theorem dX3_isLetter_0 : decode cX3_isLetter 0 = .ok (.aload_n 0, 1) := by decide +kernel
theorem dX3_isLetter_1 : decode cX3_isLetter 1 = .ok (.getfield 59, 3) := by decide +kernel
theorem dX3_isLetter_4 : decode cX3_isLetter 4 = .ok (.iload_n 1, 1) := by decide +kernel
theorem dX3_isLetter_5 : decode cX3_isLetter 5 = .ok (.baload, 1) := by decide +kernel
theorem dX3_isLetter_6 : decode cX3_isLetter 6 = .ok (.bipush 97, 2) := by decide +kernel
theorem dX3_isLetter_8 : decode cX3_isLetter 8 = .ok (.if_icmp .lt 18, 3) := by decide +kernel
theorem dX3_isLetter_11 : decode cX3_isLetter 11 = .ok (.aload_n 0, 1) := by decide +kernel
theorem dX3_isLetter_12 : decode cX3_isLetter 12 = .ok (.getfield 59, 3) := by decide +kernel
theorem dX3_isLetter_15 : decode cX3_isLetter 15 = .ok (.iload_n 1, 1) := by decide +kernel
theorem dX3_isLetter_16 : decode cX3_isLetter 16 = .ok (.baload, 1) := by decide +kernel
theorem dX3_isLetter_17 : decode cX3_isLetter 17 = .ok (.bipush 122, 2) := by decide +kernel
theorem dX3_isLetter_19 : decode cX3_isLetter 19 = .ok (.if_icmp .gt 7, 3) := by decide +kernel
theorem dX3_isLetter_22 : decode cX3_isLetter 22 = .ok (.iconst 1, 1) := by decide +kernel
theorem dX3_isLetter_23 : decode cX3_isLetter 23 = .ok (.goto 4, 3) := by decide +kernel
theorem dX3_isLetter_26 : decode cX3_isLetter 26 = .ok (.iconst 0, 1) := by decide +kernel
theorem dX3_isLetter_27 : decode cX3_isLetter 27 = .ok (.ireturn, 1) := by decide +kernel
theorem dX3_isDigit_0 : decode cX3_isDigit 0 = .ok (.aload_n 0, 1) := by decide +kernel
theorem dX3_isDigit_1 : decode cX3_isDigit 1 = .ok (.getfield 59, 3) := by decide +kernel
theorem dX3_isDigit_4 : decode cX3_isDigit 4 = .ok (.iload_n 1, 1) := by decide +kernel
theorem dX3_isDigit_5 : decode cX3_isDigit 5 = .ok (.baload, 1) := by decide +kernel
theorem dX3_isDigit_6 : decode cX3_isDigit 6 = .ok (.bipush 48, 2) := by decide +kernel
theorem dX3_isDigit_8 : decode cX3_isDigit 8 = .ok (.if_icmp .lt 18, 3) := by decide +kernel
theorem dX3_isDigit_11 : decode cX3_isDigit 11 = .ok (.aload_n 0, 1) := by decide +kernel
theorem dX3_isDigit_12 : decode cX3_isDigit 12 = .ok (.getfield 59, 3) := by decide +kernel
theorem dX3_isDigit_15 : decode cX3_isDigit 15 = .ok (.iload_n 1, 1) := by decide +kernel
theorem dX3_isDigit_16 : decode cX3_isDigit 16 = .ok (.baload, 1) := by decide +kernel
theorem dX3_isDigit_17 : decode cX3_isDigit 17 = .ok (.bipush 57, 2) := by decide +kernel
theorem dX3_isDigit_19 : decode cX3_isDigit 19 = .ok (.if_icmp .gt 7, 3) := by decide +kernel
theorem dX3_isDigit_22 : decode cX3_isDigit 22 = .ok (.iconst 1, 1) := by decide +kernel
theorem dX3_isDigit_23 : decode cX3_isDigit 23 = .ok (.goto 4, 3) := by decide +kernel
theorem dX3_isDigit_26 : decode cX3_isDigit 26 = .ok (.iconst 0, 1) := by decide +kernel
theorem dX3_isDigit_27 : decode cX3_isDigit 27 = .ok (.ireturn, 1) := by decide +kernel
theorem dX3_takeName_0 : decode cX3_takeName 0 = .ok (.aload_n 0, 1) := by decide +kernel
theorem dX3_takeName_1 : decode cX3_takeName 1 = .ok (.aload_n 0, 1) := by decide +kernel
theorem dX3_takeName_2 : decode cX3_takeName 2 = .ok (.getfield 37, 3) := by decide +kernel
theorem dX3_takeName_5 : decode cX3_takeName 5 = .ok (.iconst 1, 1) := by decide +kernel
theorem dX3_takeName_6 : decode cX3_takeName 6 = .ok (.iadd, 1) := by decide +kernel
theorem dX3_takeName_7 : decode cX3_takeName 7 = .ok (.putfield 40, 3) := by decide +kernel
theorem dX3_takeName_10 : decode cX3_takeName 10 = .ok (.aload_n 0, 1) := by decide +kernel
theorem dX3_takeName_11 : decode cX3_takeName 11 = .ok (.getfield 43, 3) := by decide +kernel
theorem dX3_takeName_14 : decode cX3_takeName 14 = .ok (.ifCond .eq 38, 3) := by decide +kernel
theorem dX3_takeName_17 : decode cX3_takeName 17 = .ok (.aload_n 0, 1) := by decide +kernel
theorem dX3_takeName_18 : decode cX3_takeName 18 = .ok (.getfield 40, 3) := by decide +kernel
theorem dX3_takeName_21 : decode cX3_takeName 21 = .ok (.aload_n 0, 1) := by decide +kernel
theorem dX3_takeName_22 : decode cX3_takeName 22 = .ok (.getfield 25, 3) := by decide +kernel
theorem dX3_takeName_25 : decode cX3_takeName 25 = .ok (.if_icmp .ge 27, 3) := by decide +kernel
theorem dX3_takeName_28 : decode cX3_takeName 28 = .ok (.aload_n 0, 1) := by decide +kernel
theorem dX3_takeName_29 : decode cX3_takeName 29 = .ok (.aload_n 0, 1) := by decide +kernel
theorem dX3_takeName_30 : decode cX3_takeName 30 = .ok (.getfield 40, 3) := by decide +kernel
theorem dX3_takeName_33 : decode cX3_takeName 33 = .ok (.invokevirtual 79, 3) := by decide +kernel
theorem dX3_takeName_36 : decode cX3_takeName 36 = .ok (.ifCond .eq 16, 3) := by decide +kernel
theorem dX3_takeName_39 : decode cX3_takeName 39 = .ok (.aload_n 0, 1) := by decide +kernel
theorem dX3_takeName_40 : decode cX3_takeName 40 = .ok (.dup, 1) := by decide +kernel
theorem dX3_takeName_41 : decode cX3_takeName 41 = .ok (.getfield 40, 3) := by decide +kernel
theorem dX3_takeName_44 : decode cX3_takeName 44 = .ok (.iconst 1, 1) := by decide +kernel
theorem dX3_takeName_45 : decode cX3_takeName 45 = .ok (.iadd, 1) := by decide +kernel
theorem dX3_takeName_46 : decode cX3_takeName 46 = .ok (.putfield 40, 3) := by decide +kernel
theorem dX3_takeName_49 : decode cX3_takeName 49 = .ok (.goto (-39), 3) := by decide +kernel
theorem dX3_takeName_52 : decode cX3_takeName 52 = .ok (.aload_n 0, 1) := by decide +kernel
theorem dX3_takeName_53 : decode cX3_takeName 53 = .ok (.aload_n 0, 1) := by decide +kernel
theorem dX3_takeName_54 : decode cX3_takeName 54 = .ok (.getfield 43, 3) := by decide +kernel
theorem dX3_takeName_57 : decode cX3_takeName 57 = .ok (.ifCond .eq 9, 3) := by decide +kernel
theorem dX3_takeName_60 : decode cX3_takeName 60 = .ok (.getstatic 92, 3) := by decide +kernel
theorem dX3_takeName_63 : decode cX3_takeName 63 = .ok (.goto 6, 3) := by decide +kernel
theorem dX3_takeName_66 : decode cX3_takeName 66 = .ok (.getstatic 95, 3) := by decide +kernel
theorem dX3_takeName_69 : decode cX3_takeName 69 = .ok (.putfield 34, 3) := by decide +kernel
theorem dX3_takeName_72 : decode cX3_takeName 72 = .ok (.iconst 0, 1) := by decide +kernel
theorem dX3_takeName_73 : decode cX3_takeName 73 = .ok (.istore_n 1, 1) := by decide +kernel
theorem dX3_takeName_74 : decode cX3_takeName 74 = .ok (.iload_n 1, 1) := by decide +kernel
theorem dX3_takeName_75 : decode cX3_takeName 75 = .ok (.getstatic 98, 3) := by decide +kernel
theorem dX3_takeName_78 : decode cX3_takeName 78 = .ok (.arraylength, 1) := by decide +kernel
theorem dX3_takeName_79 : decode cX3_takeName 79 = .ok (.if_icmp .ge 41, 3) := by decide +kernel
theorem dX3_takeName_82 : decode cX3_takeName 82 = .ok (.getstatic 98, 3) := by decide +kernel
theorem dX3_takeName_85 : decode cX3_takeName 85 = .ok (.iload_n 1, 1) := by decide +kernel
theorem dX3_takeName_86 : decode cX3_takeName 86 = .ok (.aaload, 1) := by decide +kernel
theorem dX3_takeName_87 : decode cX3_takeName 87 = .ok (.aload_n 0, 1) := by decide +kernel
theorem dX3_takeName_88 : decode cX3_takeName 88 = .ok (.getfield 59, 3) := by decide +kernel
theorem dX3_takeName_91 : decode cX3_takeName 91 = .ok (.aload_n 0, 1) := by decide +kernel
theorem dX3_takeName_92 : decode cX3_takeName 92 = .ok (.getfield 37, 3) := by decide +kernel
theorem dX3_takeName_95 : decode cX3_takeName 95 = .ok (.aload_n 0, 1) := by decide +kernel
theorem dX3_takeName_96 : decode cX3_takeName 96 = .ok (.getfield 40, 3) := by decide +kernel
theorem dX3_takeName_99 : decode cX3_takeName 99 = .ok (.invokevirtual 102, 3) := by decide +kernel
theorem dX3_takeName_102 : decode cX3_takeName 102 = .ok (.ifCond .eq 12, 3) := by decide +kernel
theorem dX3_takeName_105 : decode cX3_takeName 105 = .ok (.aload_n 0, 1) := by decide +kernel
theorem dX3_takeName_106 : decode cX3_takeName 106 = .ok (.getstatic 98, 3) := by decide +kernel
theorem dX3_takeName_109 : decode cX3_takeName 109 = .ok (.iload_n 1, 1) := by decide +kernel
theorem dX3_takeName_110 : decode cX3_takeName 110 = .ok (.aaload, 1) := by decide +kernel
theorem dX3_takeName_111 : decode cX3_takeName 111 = .ok (.putfield 34, 3) := by decide +kernel
theorem dX3_takeName_114 : decode cX3_takeName 114 = .ok (.iinc 1 1, 3) := by decide +kernel
theorem dX3_takeName_117 : decode cX3_takeName 117 = .ok (.goto (-43), 3) := by decide +kernel
theorem dX3_takeName_120 : decode cX3_takeName 120 = .ok (.return_, 1) := by decide +kernel
theorem dX3_takeNumber_0 : decode cX3_takeNumber 0 = .ok (.aload_n 0, 1) := by decide +kernel
theorem dX3_takeNumber_1 : decode cX3_takeNumber 1 = .ok (.iconst 0, 1) := by decide +kernel
theorem dX3_takeNumber_2 : decode cX3_takeNumber 2 = .ok (.putfield 47, 3) := by decide +kernel
theorem dX3_takeNumber_5 : decode cX3_takeNumber 5 = .ok (.aload_n 0, 1) := by decide +kernel
theorem dX3_takeNumber_6 : decode cX3_takeNumber 6 = .ok (.iconst 0, 1) := by decide +kernel
theorem dX3_takeNumber_7 : decode cX3_takeNumber 7 = .ok (.putfield 50, 3) := by decide +kernel
theorem dX3_takeNumber_10 : decode cX3_takeNumber 10 = .ok (.aload_n 0, 1) := by decide +kernel
theorem dX3_takeNumber_11 : decode cX3_takeNumber 11 = .ok (.getfield 40, 3) := by decide +kernel
theorem dX3_takeNumber_14 : decode cX3_takeNumber 14 = .ok (.aload_n 0, 1) := by decide +kernel
theorem dX3_takeNumber_15 : decode cX3_takeNumber 15 = .ok (.getfield 25, 3) := by decide +kernel
theorem dX3_takeNumber_18 : decode cX3_takeNumber 18 = .ok (.if_icmp .ge 69, 3) := by decide +kernel
theorem dX3_takeNumber_21 : decode cX3_takeNumber 21 = .ok (.aload_n 0, 1) := by decide +kernel
theorem dX3_takeNumber_22 : decode cX3_takeNumber 22 = .ok (.aload_n 0, 1) := by decide +kernel
theorem dX3_takeNumber_23 : decode cX3_takeNumber 23 = .ok (.getfield 40, 3) := by decide +kernel
theorem dX3_takeNumber_26 : decode cX3_takeNumber 26 = .ok (.invokevirtual 83, 3) := by decide +kernel
theorem dX3_takeNumber_29 : decode cX3_takeNumber 29 = .ok (.ifCond .eq 58, 3) := by decide +kernel
theorem dX3_takeNumber_32 : decode cX3_takeNumber 32 = .ok (.aload_n 0, 1) := by decide +kernel
theorem dX3_takeNumber_33 : decode cX3_takeNumber 33 = .ok (.dup, 1) := by decide +kernel
theorem dX3_takeNumber_34 : decode cX3_takeNumber 34 = .ok (.getfield 47, 3) := by decide +kernel
theorem dX3_takeNumber_37 : decode cX3_takeNumber 37 = .ok (.iconst 1, 1) := by decide +kernel
theorem dX3_takeNumber_38 : decode cX3_takeNumber 38 = .ok (.iadd, 1) := by decide +kernel
theorem dX3_takeNumber_39 : decode cX3_takeNumber 39 = .ok (.putfield 47, 3) := by decide +kernel
theorem dX3_takeNumber_42 : decode cX3_takeNumber 42 = .ok (.aload_n 0, 1) := by decide +kernel
theorem dX3_takeNumber_43 : decode cX3_takeNumber 43 = .ok (.getfield 47, 3) := by decide +kernel
theorem dX3_takeNumber_46 : decode cX3_takeNumber 46 = .ok (.iconst 4, 1) := by decide +kernel
theorem dX3_takeNumber_47 : decode cX3_takeNumber 47 = .ok (.if_icmp .gt 27, 3) := by decide +kernel
theorem dX3_takeNumber_50 : decode cX3_takeNumber 50 = .ok (.aload_n 0, 1) := by decide +kernel
theorem dX3_takeNumber_51 : decode cX3_takeNumber 51 = .ok (.bipush 10, 2) := by decide +kernel
theorem dX3_takeNumber_53 : decode cX3_takeNumber 53 = .ok (.aload_n 0, 1) := by decide +kernel
theorem dX3_takeNumber_54 : decode cX3_takeNumber 54 = .ok (.getfield 50, 3) := by decide +kernel
theorem dX3_takeNumber_57 : decode cX3_takeNumber 57 = .ok (.imul, 1) := by decide +kernel
theorem dX3_takeNumber_58 : decode cX3_takeNumber 58 = .ok (.aload_n 0, 1) := by decide +kernel
theorem dX3_takeNumber_59 : decode cX3_takeNumber 59 = .ok (.getfield 59, 3) := by decide +kernel
theorem dX3_takeNumber_62 : decode cX3_takeNumber 62 = .ok (.aload_n 0, 1) := by decide +kernel
theorem dX3_takeNumber_63 : decode cX3_takeNumber 63 = .ok (.getfield 40, 3) := by decide +kernel
theorem dX3_takeNumber_66 : decode cX3_takeNumber 66 = .ok (.baload, 1) := by decide +kernel
theorem dX3_takeNumber_67 : decode cX3_takeNumber 67 = .ok (.iadd, 1) := by decide +kernel
theorem dX3_takeNumber_68 : decode cX3_takeNumber 68 = .ok (.bipush 48, 2) := by decide +kernel
theorem dX3_takeNumber_70 : decode cX3_takeNumber 70 = .ok (.isub, 1) := by decide +kernel
theorem dX3_takeNumber_71 : decode cX3_takeNumber 71 = .ok (.putfield 50, 3) := by decide +kernel
theorem dX3_takeNumber_74 : decode cX3_takeNumber 74 = .ok (.aload_n 0, 1) := by decide +kernel
theorem dX3_takeNumber_75 : decode cX3_takeNumber 75 = .ok (.dup, 1) := by decide +kernel
theorem dX3_takeNumber_76 : decode cX3_takeNumber 76 = .ok (.getfield 40, 3) := by decide +kernel
theorem dX3_takeNumber_79 : decode cX3_takeNumber 79 = .ok (.iconst 1, 1) := by decide +kernel
theorem dX3_takeNumber_80 : decode cX3_takeNumber 80 = .ok (.iadd, 1) := by decide +kernel
theorem dX3_takeNumber_81 : decode cX3_takeNumber 81 = .ok (.putfield 40, 3) := by decide +kernel
theorem dX3_takeNumber_84 : decode cX3_takeNumber 84 = .ok (.goto (-74), 3) := by decide +kernel
theorem dX3_takeNumber_87 : decode cX3_takeNumber 87 = .ok (.aload_n 0, 1) := by decide +kernel
theorem dX3_takeNumber_88 : decode cX3_takeNumber 88 = .ok (.getstatic 106, 3) := by decide +kernel
theorem dX3_takeNumber_91 : decode cX3_takeNumber 91 = .ok (.putfield 34, 3) := by decide +kernel
theorem dX3_takeNumber_94 : decode cX3_takeNumber 94 = .ok (.return_, 1) := by decide +kernel
theorem dX3_readsLine_0 : decode cX3_readsLine 0 = .ok (.aload_n 0, 1) := by decide +kernel
theorem dX3_readsLine_1 : decode cX3_readsLine 1 = .ok (.getfield 34, 3) := by decide +kernel
theorem dX3_readsLine_4 : decode cX3_readsLine 4 = .ok (.getstatic 109, 3) := by decide +kernel
theorem dX3_readsLine_7 : decode cX3_readsLine 7 = .ok (.if_acmp .eq 13, 3) := by decide +kernel
theorem dX3_readsLine_10 : decode cX3_readsLine 10 = .ok (.aload_n 0, 1) := by decide +kernel
theorem dX3_readsLine_11 : decode cX3_readsLine 11 = .ok (.getfield 34, 3) := by decide +kernel
theorem dX3_readsLine_14 : decode cX3_readsLine 14 = .ok (.getstatic 112, 3) := by decide +kernel
theorem dX3_readsLine_17 : decode cX3_readsLine 17 = .ok (.if_acmp .ne 23, 3) := by decide +kernel
theorem dX3_readsLine_20 : decode cX3_readsLine 20 = .ok (.aload_n 0, 1) := by decide +kernel
theorem dX3_readsLine_21 : decode cX3_readsLine 21 = .ok (.aload_n 0, 1) := by decide +kernel
theorem dX3_readsLine_22 : decode cX3_readsLine 22 = .ok (.getfield 34, 3) := by decide +kernel
theorem dX3_readsLine_25 : decode cX3_readsLine 25 = .ok (.getstatic 112, 3) := by decide +kernel
theorem dX3_readsLine_28 : decode cX3_readsLine 28 = .ok (.if_acmp .ne 7, 3) := by decide +kernel
theorem dX3_readsLine_31 : decode cX3_readsLine 31 = .ok (.iconst 1, 1) := by decide +kernel
theorem dX3_readsLine_32 : decode cX3_readsLine 32 = .ok (.goto 4, 3) := by decide +kernel
theorem dX3_readsLine_35 : decode cX3_readsLine 35 = .ok (.iconst 0, 1) := by decide +kernel
theorem dX3_readsLine_36 : decode cX3_readsLine 36 = .ok (.invokevirtual 115, 3) := by decide +kernel
theorem dX3_readsLine_39 : decode cX3_readsLine 39 = .ok (.ireturn, 1) := by decide +kernel
theorem dX3_readsLine_40 : decode cX3_readsLine 40 = .ok (.aload_n 0, 1) := by decide +kernel
theorem dX3_readsLine_41 : decode cX3_readsLine 41 = .ok (.getfield 34, 3) := by decide +kernel
theorem dX3_readsLine_44 : decode cX3_readsLine 44 = .ok (.getstatic 118, 3) := by decide +kernel
theorem dX3_readsLine_47 : decode cX3_readsLine 47 = .ok (.if_acmp .ne 8, 3) := by decide +kernel
theorem dX3_readsLine_50 : decode cX3_readsLine 50 = .ok (.aload_n 0, 1) := by decide +kernel
theorem dX3_readsLine_51 : decode cX3_readsLine 51 = .ok (.invokevirtual 121, 3) := by decide +kernel
theorem dX3_readsLine_54 : decode cX3_readsLine 54 = .ok (.ireturn, 1) := by decide +kernel
theorem dX3_readsLine_55 : decode cX3_readsLine 55 = .ok (.aload_n 0, 1) := by decide +kernel
theorem dX3_readsLine_56 : decode cX3_readsLine 56 = .ok (.getfield 34, 3) := by decide +kernel
theorem dX3_readsLine_59 : decode cX3_readsLine 59 = .ok (.getstatic 124, 3) := by decide +kernel
theorem dX3_readsLine_62 : decode cX3_readsLine 62 = .ok (.if_acmp .ne 8, 3) := by decide +kernel
theorem dX3_readsLine_65 : decode cX3_readsLine 65 = .ok (.aload_n 0, 1) := by decide +kernel
theorem dX3_readsLine_66 : decode cX3_readsLine 66 = .ok (.invokevirtual 127, 3) := by decide +kernel
theorem dX3_readsLine_69 : decode cX3_readsLine 69 = .ok (.ireturn, 1) := by decide +kernel
theorem dX3_readsLine_70 : decode cX3_readsLine 70 = .ok (.aload_n 0, 1) := by decide +kernel
theorem dX3_readsLine_71 : decode cX3_readsLine 71 = .ok (.getfield 34, 3) := by decide +kernel
theorem dX3_readsLine_74 : decode cX3_readsLine 74 = .ok (.getstatic 130, 3) := by decide +kernel
theorem dX3_readsLine_77 : decode cX3_readsLine 77 = .ok (.if_acmp .ne 8, 3) := by decide +kernel
theorem dX3_readsLine_80 : decode cX3_readsLine 80 = .ok (.aload_n 0, 1) := by decide +kernel
theorem dX3_readsLine_81 : decode cX3_readsLine 81 = .ok (.invokevirtual 133, 3) := by decide +kernel
theorem dX3_readsLine_84 : decode cX3_readsLine 84 = .ok (.ireturn, 1) := by decide +kernel
theorem dX3_readsLine_85 : decode cX3_readsLine 85 = .ok (.aload_n 0, 1) := by decide +kernel
theorem dX3_readsLine_86 : decode cX3_readsLine 86 = .ok (.getfield 34, 3) := by decide +kernel
theorem dX3_readsLine_89 : decode cX3_readsLine 89 = .ok (.getstatic 136, 3) := by decide +kernel
theorem dX3_readsLine_92 : decode cX3_readsLine 92 = .ok (.if_acmp .ne 10, 3) := by decide +kernel
theorem dX3_readsLine_95 : decode cX3_readsLine 95 = .ok (.aload_n 0, 1) := by decide +kernel
theorem dX3_readsLine_96 : decode cX3_readsLine 96 = .ok (.invokevirtual 139, 3) := by decide +kernel
theorem dX3_readsLine_99 : decode cX3_readsLine 99 = .ok (.goto 8, 3) := by decide +kernel
theorem dX3_readsLine_102 : decode cX3_readsLine 102 = .ok (.aload_n 0, 1) := by decide +kernel
theorem dX3_readsLine_103 : decode cX3_readsLine 103 = .ok (.iconst 1, 1) := by decide +kernel
theorem dX3_readsLine_104 : decode cX3_readsLine 104 = .ok (.invokevirtual 142, 3) := by decide +kernel
theorem dX3_readsLine_107 : decode cX3_readsLine 107 = .ok (.ireturn, 1) := by decide +kernel
theorem dX3_readsFarm_0 : decode cX3_readsFarm 0 = .ok (.aload_n 0, 1) := by decide +kernel
theorem dX3_readsFarm_1 : decode cX3_readsFarm 1 = .ok (.getfield 12, 3) := by decide +kernel
theorem dX3_readsFarm_4 : decode cX3_readsFarm 4 = .ok (.getfield 145, 3) := by decide +kernel
theorem dX3_readsFarm_7 : decode cX3_readsFarm 7 = .ok (.istore_n 2, 1) := by decide +kernel
theorem dX3_readsFarm_8 : decode cX3_readsFarm 8 = .ok (.iload_n 2, 1) := by decide +kernel
theorem dX3_readsFarm_9 : decode cX3_readsFarm 9 = .ok (.bipush 9, 2) := by decide +kernel
theorem dX3_readsFarm_11 : decode cX3_readsFarm 11 = .ok (.if_icmp .lt 9, 3) := by decide +kernel
theorem dX3_readsFarm_14 : decode cX3_readsFarm 14 = .ok (.aload_n 0, 1) := by decide +kernel
theorem dX3_readsFarm_15 : decode cX3_readsFarm 15 = .ok (.iconst 2, 1) := by decide +kernel
theorem dX3_readsFarm_16 : decode cX3_readsFarm 16 = .ok (.invokevirtual 142, 3) := by decide +kernel
theorem dX3_readsFarm_19 : decode cX3_readsFarm 19 = .ok (.ireturn, 1) := by decide +kernel
theorem dX3_readsFarm_20 : decode cX3_readsFarm 20 = .ok (.aload_n 0, 1) := by decide +kernel
theorem dX3_readsFarm_21 : decode cX3_readsFarm 21 = .ok (.invokevirtual 72, 3) := by decide +kernel
theorem dX3_readsFarm_24 : decode cX3_readsFarm 24 = .ok (.aload_n 0, 1) := by decide +kernel
theorem dX3_readsFarm_25 : decode cX3_readsFarm 25 = .ok (.iconst 0, 1) := by decide +kernel
theorem dX3_readsFarm_26 : decode cX3_readsFarm 26 = .ok (.bipush 99, 2) := by decide +kernel
theorem dX3_readsFarm_28 : decode cX3_readsFarm 28 = .ok (.invokevirtual 148, 3) := by decide +kernel
theorem dX3_readsFarm_31 : decode cX3_readsFarm 31 = .ok (.ifCond .ne 5, 3) := by decide +kernel
theorem dX3_readsFarm_34 : decode cX3_readsFarm 34 = .ok (.iconst 0, 1) := by decide +kernel
theorem dX3_readsFarm_35 : decode cX3_readsFarm 35 = .ok (.ireturn, 1) := by decide +kernel
theorem dX3_readsFarm_36 : decode cX3_readsFarm 36 = .ok (.aload_n 0, 1) := by decide +kernel
theorem dX3_readsFarm_37 : decode cX3_readsFarm 37 = .ok (.getfield 12, 3) := by decide +kernel
theorem dX3_readsFarm_40 : decode cX3_readsFarm 40 = .ok (.aload_n 0, 1) := by decide +kernel
theorem dX3_readsFarm_41 : decode cX3_readsFarm 41 = .ok (.getfield 50, 3) := by decide +kernel
theorem dX3_readsFarm_44 : decode cX3_readsFarm 44 = .ok (.invokevirtual 152, 3) := by decide +kernel
theorem dX3_readsFarm_47 : decode cX3_readsFarm 47 = .ok (.ifCond .eq 9, 3) := by decide +kernel
theorem dX3_readsFarm_50 : decode cX3_readsFarm 50 = .ok (.aload_n 0, 1) := by decide +kernel
theorem dX3_readsFarm_51 : decode cX3_readsFarm 51 = .ok (.iconst 4, 1) := by decide +kernel
theorem dX3_readsFarm_52 : decode cX3_readsFarm 52 = .ok (.invokevirtual 142, 3) := by decide +kernel
theorem dX3_readsFarm_55 : decode cX3_readsFarm 55 = .ok (.ireturn, 1) := by decide +kernel
theorem dX3_readsFarm_56 : decode cX3_readsFarm 56 = .ok (.aload_n 0, 1) := by decide +kernel
theorem dX3_readsFarm_57 : decode cX3_readsFarm 57 = .ok (.getfield 12, 3) := by decide +kernel
theorem dX3_readsFarm_60 : decode cX3_readsFarm 60 = .ok (.dup, 1) := by decide +kernel
theorem dX3_readsFarm_61 : decode cX3_readsFarm 61 = .ok (.getfield 155, 3) := by decide +kernel
theorem dX3_readsFarm_64 : decode cX3_readsFarm 64 = .ok (.iload_n 1, 1) := by decide +kernel
theorem dX3_readsFarm_65 : decode cX3_readsFarm 65 = .ok (.iload_n 2, 1) := by decide +kernel
theorem dX3_readsFarm_66 : decode cX3_readsFarm 66 = .ok (.ishl, 1) := by decide +kernel
theorem dX3_readsFarm_67 : decode cX3_readsFarm 67 = .ok (.ior, 1) := by decide +kernel
theorem dX3_readsFarm_68 : decode cX3_readsFarm 68 = .ok (.putfield 155, 3) := by decide +kernel
theorem dX3_readsFarm_71 : decode cX3_readsFarm 71 = .ok (.aload_n 0, 1) := by decide +kernel
theorem dX3_readsFarm_72 : decode cX3_readsFarm 72 = .ok (.getfield 12, 3) := by decide +kernel
theorem dX3_readsFarm_75 : decode cX3_readsFarm 75 = .ok (.dup, 1) := by decide +kernel
theorem dX3_readsFarm_76 : decode cX3_readsFarm 76 = .ok (.getfield 145, 3) := by decide +kernel
theorem dX3_readsFarm_79 : decode cX3_readsFarm 79 = .ok (.iconst 1, 1) := by decide +kernel
theorem dX3_readsFarm_80 : decode cX3_readsFarm 80 = .ok (.iadd, 1) := by decide +kernel
theorem dX3_readsFarm_81 : decode cX3_readsFarm 81 = .ok (.putfield 145, 3) := by decide +kernel
theorem dX3_readsFarm_84 : decode cX3_readsFarm 84 = .ok (.aload_n 0, 1) := by decide +kernel
theorem dX3_readsFarm_85 : decode cX3_readsFarm 85 = .ok (.aload_n 0, 1) := by decide +kernel
theorem dX3_readsFarm_86 : decode cX3_readsFarm 86 = .ok (.getfield 12, 3) := by decide +kernel
theorem dX3_readsFarm_89 : decode cX3_readsFarm 89 = .ok (.getfield 158, 3) := by decide +kernel
theorem dX3_readsFarm_92 : decode cX3_readsFarm 92 = .ok (.iload_n 2, 1) := by decide +kernel
theorem dX3_readsFarm_93 : decode cX3_readsFarm 93 = .ok (.iconst 0, 1) := by decide +kernel
theorem dX3_readsFarm_94 : decode cX3_readsFarm 94 = .ok (.bipush 99, 2) := by decide +kernel
theorem dX3_readsFarm_96 : decode cX3_readsFarm 96 = .ok (.invokevirtual 162, 3) := by decide +kernel
theorem dX3_readsFarm_99 : decode cX3_readsFarm 99 = .ok (.ifCond .eq 67, 3) := by decide +kernel
theorem dX3_readsFarm_102 : decode cX3_readsFarm 102 = .ok (.aload_n 0, 1) := by decide +kernel
theorem dX3_readsFarm_103 : decode cX3_readsFarm 103 = .ok (.aload_n 0, 1) := by decide +kernel
theorem dX3_readsFarm_104 : decode cX3_readsFarm 104 = .ok (.getfield 12, 3) := by decide +kernel
theorem dX3_readsFarm_107 : decode cX3_readsFarm 107 = .ok (.getfield 166, 3) := by decide +kernel
theorem dX3_readsFarm_110 : decode cX3_readsFarm 110 = .ok (.iload_n 2, 1) := by decide +kernel
theorem dX3_readsFarm_111 : decode cX3_readsFarm 111 = .ok (.iconst 0, 1) := by decide +kernel
theorem dX3_readsFarm_112 : decode cX3_readsFarm 112 = .ok (.bipush 99, 2) := by decide +kernel
theorem dX3_readsFarm_114 : decode cX3_readsFarm 114 = .ok (.invokevirtual 162, 3) := by decide +kernel
theorem dX3_readsFarm_117 : decode cX3_readsFarm 117 = .ok (.ifCond .eq 49, 3) := by decide +kernel
theorem dX3_readsFarm_120 : decode cX3_readsFarm 120 = .ok (.aload_n 0, 1) := by decide +kernel
theorem dX3_readsFarm_121 : decode cX3_readsFarm 121 = .ok (.aload_n 0, 1) := by decide +kernel
theorem dX3_readsFarm_122 : decode cX3_readsFarm 122 = .ok (.getfield 12, 3) := by decide +kernel
theorem dX3_readsFarm_125 : decode cX3_readsFarm 125 = .ok (.getfield 169, 3) := by decide +kernel
theorem dX3_readsFarm_128 : decode cX3_readsFarm 128 = .ok (.iload_n 2, 1) := by decide +kernel
theorem dX3_readsFarm_129 : decode cX3_readsFarm 129 = .ok (.iconst 0, 1) := by decide +kernel
theorem dX3_readsFarm_130 : decode cX3_readsFarm 130 = .ok (.bipush 20, 2) := by decide +kernel
theorem dX3_readsFarm_132 : decode cX3_readsFarm 132 = .ok (.invokevirtual 162, 3) := by decide +kernel
theorem dX3_readsFarm_135 : decode cX3_readsFarm 135 = .ok (.ifCond .eq 31, 3) := by decide +kernel
theorem dX3_readsFarm_138 : decode cX3_readsFarm 138 = .ok (.aload_n 0, 1) := by decide +kernel
theorem dX3_readsFarm_139 : decode cX3_readsFarm 139 = .ok (.aload_n 0, 1) := by decide +kernel
theorem dX3_readsFarm_140 : decode cX3_readsFarm 140 = .ok (.getfield 12, 3) := by decide +kernel
theorem dX3_readsFarm_143 : decode cX3_readsFarm 143 = .ok (.getfield 172, 3) := by decide +kernel
theorem dX3_readsFarm_146 : decode cX3_readsFarm 146 = .ok (.iload_n 2, 1) := by decide +kernel
theorem dX3_readsFarm_147 : decode cX3_readsFarm 147 = .ok (.iconst 1, 1) := by decide +kernel
theorem dX3_readsFarm_148 : decode cX3_readsFarm 148 = .ok (.iconst 5, 1) := by decide +kernel
theorem dX3_readsFarm_149 : decode cX3_readsFarm 149 = .ok (.invokevirtual 162, 3) := by decide +kernel
theorem dX3_readsFarm_152 : decode cX3_readsFarm 152 = .ok (.ifCond .eq 14, 3) := by decide +kernel
theorem dX3_readsFarm_155 : decode cX3_readsFarm 155 = .ok (.aload_n 0, 1) := by decide +kernel
theorem dX3_readsFarm_156 : decode cX3_readsFarm 156 = .ok (.invokevirtual 175, 3) := by decide +kernel
theorem dX3_readsFarm_159 : decode cX3_readsFarm 159 = .ok (.ifCond .eq 7, 3) := by decide +kernel
theorem dX3_readsFarm_162 : decode cX3_readsFarm 162 = .ok (.iconst 1, 1) := by decide +kernel
theorem dX3_readsFarm_163 : decode cX3_readsFarm 163 = .ok (.goto 4, 3) := by decide +kernel
theorem dX3_readsFarm_166 : decode cX3_readsFarm 166 = .ok (.iconst 0, 1) := by decide +kernel
theorem dX3_readsFarm_167 : decode cX3_readsFarm 167 = .ok (.ireturn, 1) := by decide +kernel
theorem dX3_readsMist_0 : decode cX3_readsMist 0 = .ok (.aload_n 0, 1) := by decide +kernel
theorem dX3_readsMist_1 : decode cX3_readsMist 1 = .ok (.getfield 12, 3) := by decide +kernel
theorem dX3_readsMist_4 : decode cX3_readsMist 4 = .ok (.getfield 178, 3) := by decide +kernel
theorem dX3_readsMist_7 : decode cX3_readsMist 7 = .ok (.ifCond .le 9, 3) := by decide +kernel
theorem dX3_readsMist_10 : decode cX3_readsMist 10 = .ok (.aload_n 0, 1) := by decide +kernel
theorem dX3_readsMist_11 : decode cX3_readsMist 11 = .ok (.iconst 5, 1) := by decide +kernel
theorem dX3_readsMist_12 : decode cX3_readsMist 12 = .ok (.invokevirtual 142, 3) := by decide +kernel
theorem dX3_readsMist_15 : decode cX3_readsMist 15 = .ok (.ireturn, 1) := by decide +kernel
theorem dX3_readsMist_16 : decode cX3_readsMist 16 = .ok (.aload_n 0, 1) := by decide +kernel
theorem dX3_readsMist_17 : decode cX3_readsMist 17 = .ok (.invokevirtual 72, 3) := by decide +kernel
theorem dX3_readsMist_20 : decode cX3_readsMist 20 = .ok (.aload_n 0, 1) := by decide +kernel
theorem dX3_readsMist_21 : decode cX3_readsMist 21 = .ok (.iconst 0, 1) := by decide +kernel
theorem dX3_readsMist_22 : decode cX3_readsMist 22 = .ok (.bipush 9, 2) := by decide +kernel
theorem dX3_readsMist_24 : decode cX3_readsMist 24 = .ok (.invokevirtual 148, 3) := by decide +kernel
theorem dX3_readsMist_27 : decode cX3_readsMist 27 = .ok (.ifCond .ne 5, 3) := by decide +kernel
theorem dX3_readsMist_30 : decode cX3_readsMist 30 = .ok (.iconst 0, 1) := by decide +kernel
theorem dX3_readsMist_31 : decode cX3_readsMist 31 = .ok (.ireturn, 1) := by decide +kernel
theorem dX3_readsMist_32 : decode cX3_readsMist 32 = .ok (.iconst 0, 1) := by decide +kernel
theorem dX3_readsMist_33 : decode cX3_readsMist 33 = .ok (.istore_n 1, 1) := by decide +kernel
theorem dX3_readsMist_34 : decode cX3_readsMist 34 = .ok (.iload_n 1, 1) := by decide +kernel
theorem dX3_readsMist_35 : decode cX3_readsMist 35 = .ok (.bipush 8, 2) := by decide +kernel
theorem dX3_readsMist_37 : decode cX3_readsMist 37 = .ok (.if_icmp .ge 49, 3) := by decide +kernel
theorem dX3_readsMist_40 : decode cX3_readsMist 40 = .ok (.aload_n 0, 1) := by decide +kernel
theorem dX3_readsMist_41 : decode cX3_readsMist 41 = .ok (.getfield 34, 3) := by decide +kernel
theorem dX3_readsMist_44 : decode cX3_readsMist 44 = .ok (.getstatic 106, 3) := by decide +kernel
theorem dX3_readsMist_47 : decode cX3_readsMist 47 = .ok (.if_acmp .ne 39, 3) := by decide +kernel
theorem dX3_readsMist_50 : decode cX3_readsMist 50 = .ok (.aload_n 0, 1) := by decide +kernel
theorem dX3_readsMist_51 : decode cX3_readsMist 51 = .ok (.aload_n 0, 1) := by decide +kernel
theorem dX3_readsMist_52 : decode cX3_readsMist 52 = .ok (.getfield 12, 3) := by decide +kernel
theorem dX3_readsMist_55 : decode cX3_readsMist 55 = .ok (.getfield 181, 3) := by decide +kernel
theorem dX3_readsMist_58 : decode cX3_readsMist 58 = .ok (.iload_n 1, 1) := by decide +kernel
theorem dX3_readsMist_59 : decode cX3_readsMist 59 = .ok (.iconst 0, 1) := by decide +kernel
theorem dX3_readsMist_60 : decode cX3_readsMist 60 = .ok (.bipush 9, 2) := by decide +kernel
theorem dX3_readsMist_62 : decode cX3_readsMist 62 = .ok (.invokevirtual 162, 3) := by decide +kernel
theorem dX3_readsMist_65 : decode cX3_readsMist 65 = .ok (.ifCond .ne 5, 3) := by decide +kernel
theorem dX3_readsMist_68 : decode cX3_readsMist 68 = .ok (.iconst 0, 1) := by decide +kernel
theorem dX3_readsMist_69 : decode cX3_readsMist 69 = .ok (.ireturn, 1) := by decide +kernel
theorem dX3_readsMist_70 : decode cX3_readsMist 70 = .ok (.aload_n 0, 1) := by decide +kernel
theorem dX3_readsMist_71 : decode cX3_readsMist 71 = .ok (.getfield 12, 3) := by decide +kernel
theorem dX3_readsMist_74 : decode cX3_readsMist 74 = .ok (.iload_n 1, 1) := by decide +kernel
theorem dX3_readsMist_75 : decode cX3_readsMist 75 = .ok (.iconst 1, 1) := by decide +kernel
theorem dX3_readsMist_76 : decode cX3_readsMist 76 = .ok (.iadd, 1) := by decide +kernel
theorem dX3_readsMist_77 : decode cX3_readsMist 77 = .ok (.putfield 178, 3) := by decide +kernel
theorem dX3_readsMist_80 : decode cX3_readsMist 80 = .ok (.iinc 1 1, 3) := by decide +kernel
theorem dX3_readsMist_83 : decode cX3_readsMist 83 = .ok (.goto (-49), 3) := by decide +kernel
theorem dX3_readsMist_86 : decode cX3_readsMist 86 = .ok (.aload_n 0, 1) := by decide +kernel
theorem dX3_readsMist_87 : decode cX3_readsMist 87 = .ok (.getfield 34, 3) := by decide +kernel
theorem dX3_readsMist_90 : decode cX3_readsMist 90 = .ok (.getstatic 106, 3) := by decide +kernel
theorem dX3_readsMist_93 : decode cX3_readsMist 93 = .ok (.if_acmp .ne 11, 3) := by decide +kernel
theorem dX3_readsMist_96 : decode cX3_readsMist 96 = .ok (.aload_n 0, 1) := by decide +kernel
theorem dX3_readsMist_97 : decode cX3_readsMist 97 = .ok (.iconst 2, 1) := by decide +kernel
theorem dX3_readsMist_98 : decode cX3_readsMist 98 = .ok (.invokevirtual 142, 3) := by decide +kernel
theorem dX3_readsMist_101 : decode cX3_readsMist 101 = .ok (.goto 7, 3) := by decide +kernel
theorem dX3_readsMist_104 : decode cX3_readsMist 104 = .ok (.aload_n 0, 1) := by decide +kernel
theorem dX3_readsMist_105 : decode cX3_readsMist 105 = .ok (.invokevirtual 175, 3) := by decide +kernel
theorem dX3_readsMist_108 : decode cX3_readsMist 108 = .ok (.ireturn, 1) := by decide +kernel
theorem dX3_readsSight_0 : decode cX3_readsSight 0 = .ok (.aload_n 0, 1) := by decide +kernel
theorem dX3_readsSight_1 : decode cX3_readsSight 1 = .ok (.getfield 53, 3) := by decide +kernel
theorem dX3_readsSight_4 : decode cX3_readsSight 4 = .ok (.ifCond .eq 9, 3) := by decide +kernel
theorem dX3_readsSight_7 : decode cX3_readsSight 7 = .ok (.aload_n 0, 1) := by decide +kernel
theorem dX3_readsSight_8 : decode cX3_readsSight 8 = .ok (.iconst 5, 1) := by decide +kernel
theorem dX3_readsSight_9 : decode cX3_readsSight 9 = .ok (.invokevirtual 142, 3) := by decide +kernel
theorem dX3_readsSight_12 : decode cX3_readsSight 12 = .ok (.ireturn, 1) := by decide +kernel
theorem dX3_readsSight_13 : decode cX3_readsSight 13 = .ok (.aload_n 0, 1) := by decide +kernel
theorem dX3_readsSight_14 : decode cX3_readsSight 14 = .ok (.iconst 1, 1) := by decide +kernel
theorem dX3_readsSight_15 : decode cX3_readsSight 15 = .ok (.putfield 53, 3) := by decide +kernel
theorem dX3_readsSight_18 : decode cX3_readsSight 18 = .ok (.aload_n 0, 1) := by decide +kernel
theorem dX3_readsSight_19 : decode cX3_readsSight 19 = .ok (.invokevirtual 72, 3) := by decide +kernel
theorem dX3_readsSight_22 : decode cX3_readsSight 22 = .ok (.aload_n 0, 1) := by decide +kernel
theorem dX3_readsSight_23 : decode cX3_readsSight 23 = .ok (.iconst 1, 1) := by decide +kernel
theorem dX3_readsSight_24 : decode cX3_readsSight 24 = .ok (.bipush 99, 2) := by decide +kernel
theorem dX3_readsSight_26 : decode cX3_readsSight 26 = .ok (.invokevirtual 148, 3) := by decide +kernel
theorem dX3_readsSight_29 : decode cX3_readsSight 29 = .ok (.ifCond .ne 5, 3) := by decide +kernel
theorem dX3_readsSight_32 : decode cX3_readsSight 32 = .ok (.iconst 0, 1) := by decide +kernel
theorem dX3_readsSight_33 : decode cX3_readsSight 33 = .ok (.ireturn, 1) := by decide +kernel
theorem dX3_readsSight_34 : decode cX3_readsSight 34 = .ok (.aload_n 0, 1) := by decide +kernel
theorem dX3_readsSight_35 : decode cX3_readsSight 35 = .ok (.getfield 12, 3) := by decide +kernel
theorem dX3_readsSight_38 : decode cX3_readsSight 38 = .ok (.aload_n 0, 1) := by decide +kernel
theorem dX3_readsSight_39 : decode cX3_readsSight 39 = .ok (.getfield 50, 3) := by decide +kernel
theorem dX3_readsSight_42 : decode cX3_readsSight 42 = .ok (.putfield 184, 3) := by decide +kernel
theorem dX3_readsSight_45 : decode cX3_readsSight 45 = .ok (.aload_n 0, 1) := by decide +kernel
theorem dX3_readsSight_46 : decode cX3_readsSight 46 = .ok (.invokevirtual 72, 3) := by decide +kernel
theorem dX3_readsSight_49 : decode cX3_readsSight 49 = .ok (.aload_n 0, 1) := by decide +kernel
theorem dX3_readsSight_50 : decode cX3_readsSight 50 = .ok (.invokevirtual 175, 3) := by decide +kernel
theorem dX3_readsSight_53 : decode cX3_readsSight 53 = .ok (.ireturn, 1) := by decide +kernel
theorem dX3_readsRest_0 : decode cX3_readsRest 0 = .ok (.aload_n 0, 1) := by decide +kernel
theorem dX3_readsRest_1 : decode cX3_readsRest 1 = .ok (.getfield 56, 3) := by decide +kernel
theorem dX3_readsRest_4 : decode cX3_readsRest 4 = .ok (.ifCond .eq 9, 3) := by decide +kernel
theorem dX3_readsRest_7 : decode cX3_readsRest 7 = .ok (.aload_n 0, 1) := by decide +kernel
theorem dX3_readsRest_8 : decode cX3_readsRest 8 = .ok (.iconst 5, 1) := by decide +kernel
theorem dX3_readsRest_9 : decode cX3_readsRest 9 = .ok (.invokevirtual 142, 3) := by decide +kernel
theorem dX3_readsRest_12 : decode cX3_readsRest 12 = .ok (.ireturn, 1) := by decide +kernel
theorem dX3_readsRest_13 : decode cX3_readsRest 13 = .ok (.aload_n 0, 1) := by decide +kernel
theorem dX3_readsRest_14 : decode cX3_readsRest 14 = .ok (.iconst 1, 1) := by decide +kernel
theorem dX3_readsRest_15 : decode cX3_readsRest 15 = .ok (.putfield 56, 3) := by decide +kernel
theorem dX3_readsRest_18 : decode cX3_readsRest 18 = .ok (.aload_n 0, 1) := by decide +kernel
theorem dX3_readsRest_19 : decode cX3_readsRest 19 = .ok (.invokevirtual 72, 3) := by decide +kernel
theorem dX3_readsRest_22 : decode cX3_readsRest 22 = .ok (.aload_n 0, 1) := by decide +kernel
theorem dX3_readsRest_23 : decode cX3_readsRest 23 = .ok (.iconst 0, 1) := by decide +kernel
theorem dX3_readsRest_24 : decode cX3_readsRest 24 = .ok (.bipush 9, 2) := by decide +kernel
theorem dX3_readsRest_26 : decode cX3_readsRest 26 = .ok (.invokevirtual 148, 3) := by decide +kernel
theorem dX3_readsRest_29 : decode cX3_readsRest 29 = .ok (.ifCond .ne 5, 3) := by decide +kernel
theorem dX3_readsRest_32 : decode cX3_readsRest 32 = .ok (.iconst 0, 1) := by decide +kernel
theorem dX3_readsRest_33 : decode cX3_readsRest 33 = .ok (.ireturn, 1) := by decide +kernel
theorem dX3_readsRest_34 : decode cX3_readsRest 34 = .ok (.aload_n 0, 1) := by decide +kernel
theorem dX3_readsRest_35 : decode cX3_readsRest 35 = .ok (.getfield 12, 3) := by decide +kernel
theorem dX3_readsRest_38 : decode cX3_readsRest 38 = .ok (.aload_n 0, 1) := by decide +kernel
theorem dX3_readsRest_39 : decode cX3_readsRest 39 = .ok (.getfield 50, 3) := by decide +kernel
theorem dX3_readsRest_42 : decode cX3_readsRest 42 = .ok (.putfield 187, 3) := by decide +kernel
theorem dX3_readsRest_45 : decode cX3_readsRest 45 = .ok (.aload_n 0, 1) := by decide +kernel
theorem dX3_readsRest_46 : decode cX3_readsRest 46 = .ok (.invokevirtual 72, 3) := by decide +kernel
theorem dX3_readsRest_49 : decode cX3_readsRest 49 = .ok (.aload_n 0, 1) := by decide +kernel
theorem dX3_readsRest_50 : decode cX3_readsRest 50 = .ok (.invokevirtual 175, 3) := by decide +kernel
theorem dX3_readsRest_53 : decode cX3_readsRest 53 = .ok (.ireturn, 1) := by decide +kernel
theorem dX3_readsMinds_0 : decode cX3_readsMinds 0 = .ok (.aload_n 0, 1) := by decide +kernel
theorem dX3_readsMinds_1 : decode cX3_readsMinds 1 = .ok (.getfield 12, 3) := by decide +kernel
theorem dX3_readsMinds_4 : decode cX3_readsMinds 4 = .ok (.getfield 190, 3) := by decide +kernel
theorem dX3_readsMinds_7 : decode cX3_readsMinds 7 = .ok (.getfield 194, 3) := by decide +kernel
theorem dX3_readsMinds_10 : decode cX3_readsMinds 10 = .ok (.ifCond .le 9, 3) := by decide +kernel
theorem dX3_readsMinds_13 : decode cX3_readsMinds 13 = .ok (.aload_n 0, 1) := by decide +kernel
theorem dX3_readsMinds_14 : decode cX3_readsMinds 14 = .ok (.iconst 5, 1) := by decide +kernel
theorem dX3_readsMinds_15 : decode cX3_readsMinds 15 = .ok (.invokevirtual 142, 3) := by decide +kernel
theorem dX3_readsMinds_18 : decode cX3_readsMinds 18 = .ok (.ireturn, 1) := by decide +kernel
theorem dX3_readsMinds_19 : decode cX3_readsMinds 19 = .ok (.aload_n 0, 1) := by decide +kernel
theorem dX3_readsMinds_20 : decode cX3_readsMinds 20 = .ok (.invokevirtual 72, 3) := by decide +kernel
theorem dX3_readsMinds_23 : decode cX3_readsMinds 23 = .ok (.aload_n 0, 1) := by decide +kernel
theorem dX3_readsMinds_24 : decode cX3_readsMinds 24 = .ok (.iconst 0, 1) := by decide +kernel
theorem dX3_readsMinds_25 : decode cX3_readsMinds 25 = .ok (.invokevirtual 197, 3) := by decide +kernel
theorem dX3_readsMinds_28 : decode cX3_readsMinds 28 = .ok (.ifCond .eq 14, 3) := by decide +kernel
theorem dX3_readsMinds_31 : decode cX3_readsMinds 31 = .ok (.aload_n 0, 1) := by decide +kernel
theorem dX3_readsMinds_32 : decode cX3_readsMinds 32 = .ok (.invokevirtual 175, 3) := by decide +kernel
theorem dX3_readsMinds_35 : decode cX3_readsMinds 35 = .ok (.ifCond .eq 7, 3) := by decide +kernel
theorem dX3_readsMinds_38 : decode cX3_readsMinds 38 = .ok (.iconst 1, 1) := by decide +kernel
theorem dX3_readsMinds_39 : decode cX3_readsMinds 39 = .ok (.goto 4, 3) := by decide +kernel
theorem dX3_readsMinds_42 : decode cX3_readsMinds 42 = .ok (.iconst 0, 1) := by decide +kernel
theorem dX3_readsMinds_43 : decode cX3_readsMinds 43 = .ok (.ireturn, 1) := by decide +kernel
theorem dX3_endsLine_0 : decode cX3_endsLine 0 = .ok (.aload_n 0, 1) := by decide +kernel
theorem dX3_endsLine_1 : decode cX3_endsLine 1 = .ok (.getfield 34, 3) := by decide +kernel
theorem dX3_endsLine_4 : decode cX3_endsLine 4 = .ok (.getstatic 200, 3) := by decide +kernel
theorem dX3_endsLine_7 : decode cX3_endsLine 7 = .ok (.if_acmp .eq 9, 3) := by decide +kernel
theorem dX3_endsLine_10 : decode cX3_endsLine 10 = .ok (.aload_n 0, 1) := by decide +kernel
theorem dX3_endsLine_11 : decode cX3_endsLine 11 = .ok (.iconst 1, 1) := by decide +kernel
theorem dX3_endsLine_12 : decode cX3_endsLine 12 = .ok (.invokevirtual 142, 3) := by decide +kernel
theorem dX3_endsLine_15 : decode cX3_endsLine 15 = .ok (.ireturn, 1) := by decide +kernel
theorem dX3_endsLine_16 : decode cX3_endsLine 16 = .ok (.aload_n 0, 1) := by decide +kernel
theorem dX3_endsLine_17 : decode cX3_endsLine 17 = .ok (.invokevirtual 72, 3) := by decide +kernel
theorem dX3_endsLine_20 : decode cX3_endsLine 20 = .ok (.iconst 1, 1) := by decide +kernel
theorem dX3_endsLine_21 : decode cX3_endsLine 21 = .ok (.ireturn, 1) := by decide +kernel
theorem dX3_isNumber_0 : decode cX3_isNumber 0 = .ok (.aload_n 0, 1) := by decide +kernel
theorem dX3_isNumber_1 : decode cX3_isNumber 1 = .ok (.getfield 34, 3) := by decide +kernel
theorem dX3_isNumber_4 : decode cX3_isNumber 4 = .ok (.getstatic 106, 3) := by decide +kernel
theorem dX3_isNumber_7 : decode cX3_isNumber 7 = .ok (.if_acmp .eq 9, 3) := by decide +kernel
theorem dX3_isNumber_10 : decode cX3_isNumber 10 = .ok (.aload_n 0, 1) := by decide +kernel
theorem dX3_isNumber_11 : decode cX3_isNumber 11 = .ok (.iconst 1, 1) := by decide +kernel
theorem dX3_isNumber_12 : decode cX3_isNumber 12 = .ok (.invokevirtual 142, 3) := by decide +kernel
theorem dX3_isNumber_15 : decode cX3_isNumber 15 = .ok (.ireturn, 1) := by decide +kernel
theorem dX3_isNumber_16 : decode cX3_isNumber 16 = .ok (.aload_n 0, 1) := by decide +kernel
theorem dX3_isNumber_17 : decode cX3_isNumber 17 = .ok (.getfield 47, 3) := by decide +kernel
theorem dX3_isNumber_20 : decode cX3_isNumber 20 = .ok (.iconst 4, 1) := by decide +kernel
theorem dX3_isNumber_21 : decode cX3_isNumber 21 = .ok (.if_icmp .gt 19, 3) := by decide +kernel
theorem dX3_isNumber_24 : decode cX3_isNumber 24 = .ok (.aload_n 0, 1) := by decide +kernel
theorem dX3_isNumber_25 : decode cX3_isNumber 25 = .ok (.getfield 50, 3) := by decide +kernel
theorem dX3_isNumber_28 : decode cX3_isNumber 28 = .ok (.iload_n 1, 1) := by decide +kernel
theorem dX3_isNumber_29 : decode cX3_isNumber 29 = .ok (.if_icmp .lt 11, 3) := by decide +kernel
theorem dX3_isNumber_32 : decode cX3_isNumber 32 = .ok (.aload_n 0, 1) := by decide +kernel
theorem dX3_isNumber_33 : decode cX3_isNumber 33 = .ok (.getfield 50, 3) := by decide +kernel
theorem dX3_isNumber_36 : decode cX3_isNumber 36 = .ok (.iload_n 2, 1) := by decide +kernel
theorem dX3_isNumber_37 : decode cX3_isNumber 37 = .ok (.if_icmp .le 9, 3) := by decide +kernel
theorem dX3_isNumber_40 : decode cX3_isNumber 40 = .ok (.aload_n 0, 1) := by decide +kernel
theorem dX3_isNumber_41 : decode cX3_isNumber 41 = .ok (.iconst 2, 1) := by decide +kernel
theorem dX3_isNumber_42 : decode cX3_isNumber 42 = .ok (.invokevirtual 142, 3) := by decide +kernel
theorem dX3_isNumber_45 : decode cX3_isNumber 45 = .ok (.ireturn, 1) := by decide +kernel
theorem dX3_isNumber_46 : decode cX3_isNumber 46 = .ok (.iconst 1, 1) := by decide +kernel
theorem dX3_isNumber_47 : decode cX3_isNumber 47 = .ok (.ireturn, 1) := by decide +kernel
theorem dX3_takesNumber_0 : decode cX3_takesNumber 0 = .ok (.aload_n 0, 1) := by decide +kernel
theorem dX3_takesNumber_1 : decode cX3_takesNumber 1 = .ok (.iload_n 3, 1) := by decide +kernel
theorem dX3_takesNumber_2 : decode cX3_takesNumber 2 = .ok (.iload 4, 2) := by decide +kernel
theorem dX3_takesNumber_4 : decode cX3_takesNumber 4 = .ok (.invokevirtual 148, 3) := by decide +kernel
theorem dX3_takesNumber_7 : decode cX3_takesNumber 7 = .ok (.ifCond .ne 5, 3) := by decide +kernel
theorem dX3_takesNumber_10 : decode cX3_takesNumber 10 = .ok (.iconst 0, 1) := by decide +kernel
theorem dX3_takesNumber_11 : decode cX3_takesNumber 11 = .ok (.ireturn, 1) := by decide +kernel
theorem dX3_takesNumber_12 : decode cX3_takesNumber 12 = .ok (.iload_n 2, 1) := by decide +kernel
theorem dX3_takesNumber_13 : decode cX3_takesNumber 13 = .ok (.ifCond .lt 16, 3) := by decide +kernel
theorem dX3_takesNumber_16 : decode cX3_takesNumber 16 = .ok (.iload_n 2, 1) := by decide +kernel
theorem dX3_takesNumber_17 : decode cX3_takesNumber 17 = .ok (.aload_n 1, 1) := by decide +kernel
theorem dX3_takesNumber_18 : decode cX3_takesNumber 18 = .ok (.arraylength, 1) := by decide +kernel
theorem dX3_takesNumber_19 : decode cX3_takesNumber 19 = .ok (.if_icmp .ge 10, 3) := by decide +kernel
theorem dX3_takesNumber_22 : decode cX3_takesNumber 22 = .ok (.aload_n 1, 1) := by decide +kernel
theorem dX3_takesNumber_23 : decode cX3_takesNumber 23 = .ok (.iload_n 2, 1) := by decide +kernel
theorem dX3_takesNumber_24 : decode cX3_takesNumber 24 = .ok (.aload_n 0, 1) := by decide +kernel
theorem dX3_takesNumber_25 : decode cX3_takesNumber 25 = .ok (.getfield 50, 3) := by decide +kernel
theorem dX3_takesNumber_28 : decode cX3_takesNumber 28 = .ok (.iastore, 1) := by decide +kernel
theorem dX3_takesNumber_29 : decode cX3_takesNumber 29 = .ok (.aload_n 0, 1) := by decide +kernel
theorem dX3_takesNumber_30 : decode cX3_takesNumber 30 = .ok (.invokevirtual 72, 3) := by decide +kernel
theorem dX3_takesNumber_33 : decode cX3_takesNumber 33 = .ok (.iconst 1, 1) := by decide +kernel
theorem dX3_takesNumber_34 : decode cX3_takesNumber 34 = .ok (.ireturn, 1) := by decide +kernel
theorem dX3_readsExpression_0 : decode cX3_readsExpression 0 = .ok (.iload_n 1, 1) := by decide +kernel
theorem dX3_readsExpression_1 : decode cX3_readsExpression 1 = .ok (.bipush 6, 2) := by decide +kernel
theorem dX3_readsExpression_3 : decode cX3_readsExpression 3 = .ok (.if_icmp .lt 50, 3) := by decide +kernel
theorem dX3_readsExpression_6 : decode cX3_readsExpression 6 = .ok (.aload_n 0, 1) := by decide +kernel
theorem dX3_readsExpression_7 : decode cX3_readsExpression 7 = .ok (.getfield 43, 3) := by decide +kernel
theorem dX3_readsExpression_10 : decode cX3_readsExpression 10 = .ok (.ifCond .ne 23, 3) := by decide +kernel
theorem dX3_readsExpression_13 : decode cX3_readsExpression 13 = .ok (.aload_n 0, 1) := by decide +kernel
theorem dX3_readsExpression_14 : decode cX3_readsExpression 14 = .ok (.getfield 34, 3) := by decide +kernel
theorem dX3_readsExpression_17 : decode cX3_readsExpression 17 = .ok (.getstatic 106, 3) := by decide +kernel
theorem dX3_readsExpression_20 : decode cX3_readsExpression 20 = .ok (.if_acmp .eq 13, 3) := by decide +kernel
theorem dX3_readsExpression_23 : decode cX3_readsExpression 23 = .ok (.aload_n 0, 1) := by decide +kernel
theorem dX3_readsExpression_24 : decode cX3_readsExpression 24 = .ok (.getfield 34, 3) := by decide +kernel
theorem dX3_readsExpression_27 : decode cX3_readsExpression 27 = .ok (.getstatic 203, 3) := by decide +kernel
theorem dX3_readsExpression_30 : decode cX3_readsExpression 30 = .ok (.if_acmp .ne 7, 3) := by decide +kernel
theorem dX3_readsExpression_33 : decode cX3_readsExpression 33 = .ok (.iconst 1, 1) := by decide +kernel
theorem dX3_readsExpression_34 : decode cX3_readsExpression 34 = .ok (.goto 4, 3) := by decide +kernel
theorem dX3_readsExpression_37 : decode cX3_readsExpression 37 = .ok (.iconst 0, 1) := by decide +kernel
theorem dX3_readsExpression_38 : decode cX3_readsExpression 38 = .ok (.istore_n 2, 1) := by decide +kernel
theorem dX3_readsExpression_39 : decode cX3_readsExpression 39 = .ok (.aload_n 0, 1) := by decide +kernel
theorem dX3_readsExpression_40 : decode cX3_readsExpression 40 = .ok (.iload_n 2, 1) := by decide +kernel
theorem dX3_readsExpression_41 : decode cX3_readsExpression 41 = .ok (.ifCond .eq 7, 3) := by decide +kernel
theorem dX3_readsExpression_44 : decode cX3_readsExpression 44 = .ok (.iconst 2, 1) := by decide +kernel
theorem dX3_readsExpression_45 : decode cX3_readsExpression 45 = .ok (.goto 4, 3) := by decide +kernel
theorem dX3_readsExpression_48 : decode cX3_readsExpression 48 = .ok (.iconst 1, 1) := by decide +kernel
theorem dX3_readsExpression_49 : decode cX3_readsExpression 49 = .ok (.invokevirtual 142, 3) := by decide +kernel
theorem dX3_readsExpression_52 : decode cX3_readsExpression 52 = .ok (.ireturn, 1) := by decide +kernel
theorem dX3_readsExpression_53 : decode cX3_readsExpression 53 = .ok (.aload_n 0, 1) := by decide +kernel
theorem dX3_readsExpression_54 : decode cX3_readsExpression 54 = .ok (.iload_n 1, 1) := by decide +kernel
theorem dX3_readsExpression_55 : decode cX3_readsExpression 55 = .ok (.invokevirtual 206, 3) := by decide +kernel
theorem dX3_readsExpression_58 : decode cX3_readsExpression 58 = .ok (.istore_n 2, 1) := by decide +kernel
theorem dX3_readsExpression_59 : decode cX3_readsExpression 59 = .ok (.iconst 0, 1) := by decide +kernel
theorem dX3_readsExpression_60 : decode cX3_readsExpression 60 = .ok (.istore_n 3, 1) := by decide +kernel
theorem dX3_readsExpression_61 : decode cX3_readsExpression 61 = .ok (.iload_n 3, 1) := by decide +kernel
theorem dX3_readsExpression_62 : decode cX3_readsExpression 62 = .ok (.aload_n 0, 1) := by decide +kernel
theorem dX3_readsExpression_63 : decode cX3_readsExpression 63 = .ok (.getfield 25, 3) := by decide +kernel
theorem dX3_readsExpression_66 : decode cX3_readsExpression 66 = .ok (.if_icmp .ge 45, 3) := by decide +kernel
theorem dX3_readsExpression_69 : decode cX3_readsExpression 69 = .ok (.iload_n 2, 1) := by decide +kernel
theorem dX3_readsExpression_70 : decode cX3_readsExpression 70 = .ok (.ifCond .eq 41, 3) := by decide +kernel
theorem dX3_readsExpression_73 : decode cX3_readsExpression 73 = .ok (.aload_n 0, 1) := by decide +kernel
theorem dX3_readsExpression_74 : decode cX3_readsExpression 74 = .ok (.getfield 34, 3) := by decide +kernel
theorem dX3_readsExpression_77 : decode cX3_readsExpression 77 = .ok (.getstatic 209, 3) := by decide +kernel
theorem dX3_readsExpression_80 : decode cX3_readsExpression 80 = .ok (.if_acmp .ne 31, 3) := by decide +kernel
theorem dX3_readsExpression_83 : decode cX3_readsExpression 83 = .ok (.aload_n 0, 1) := by decide +kernel
theorem dX3_readsExpression_84 : decode cX3_readsExpression 84 = .ok (.invokevirtual 72, 3) := by decide +kernel
theorem dX3_readsExpression_87 : decode cX3_readsExpression 87 = .ok (.aload_n 0, 1) := by decide +kernel
theorem dX3_readsExpression_88 : decode cX3_readsExpression 88 = .ok (.iload_n 1, 1) := by decide +kernel
theorem dX3_readsExpression_89 : decode cX3_readsExpression 89 = .ok (.invokevirtual 206, 3) := by decide +kernel
theorem dX3_readsExpression_92 : decode cX3_readsExpression 92 = .ok (.istore_n 2, 1) := by decide +kernel
theorem dX3_readsExpression_93 : decode cX3_readsExpression 93 = .ok (.aload_n 0, 1) := by decide +kernel
theorem dX3_readsExpression_94 : decode cX3_readsExpression 94 = .ok (.getfield 12, 3) := by decide +kernel
theorem dX3_readsExpression_97 : decode cX3_readsExpression 97 = .ok (.getfield 190, 3) := by decide +kernel
theorem dX3_readsExpression_100 : decode cX3_readsExpression 100 = .ok (.bipush (-8), 2) := by decide +kernel
theorem dX3_readsExpression_102 : decode cX3_readsExpression 102 = .ok (.invokevirtual 212, 3) := by decide +kernel
theorem dX3_readsExpression_105 : decode cX3_readsExpression 105 = .ok (.iinc 3 1, 3) := by decide +kernel
theorem dX3_readsExpression_108 : decode cX3_readsExpression 108 = .ok (.goto (-47), 3) := by decide +kernel
theorem dX3_readsExpression_111 : decode cX3_readsExpression 111 = .ok (.iload_n 2, 1) := by decide +kernel
theorem dX3_readsExpression_112 : decode cX3_readsExpression 112 = .ok (.ireturn, 1) := by decide +kernel
theorem dX3_readsAnd_0 : decode cX3_readsAnd 0 = .ok (.aload_n 0, 1) := by decide +kernel
theorem dX3_readsAnd_1 : decode cX3_readsAnd 1 = .ok (.iload_n 1, 1) := by decide +kernel
theorem dX3_readsAnd_2 : decode cX3_readsAnd 2 = .ok (.invokevirtual 216, 3) := by decide +kernel
theorem dX3_readsAnd_5 : decode cX3_readsAnd 5 = .ok (.istore_n 2, 1) := by decide +kernel
theorem dX3_readsAnd_6 : decode cX3_readsAnd 6 = .ok (.iconst 0, 1) := by decide +kernel
theorem dX3_readsAnd_7 : decode cX3_readsAnd 7 = .ok (.istore_n 3, 1) := by decide +kernel
theorem dX3_readsAnd_8 : decode cX3_readsAnd 8 = .ok (.iload_n 3, 1) := by decide +kernel
theorem dX3_readsAnd_9 : decode cX3_readsAnd 9 = .ok (.aload_n 0, 1) := by decide +kernel
theorem dX3_readsAnd_10 : decode cX3_readsAnd 10 = .ok (.getfield 25, 3) := by decide +kernel
theorem dX3_readsAnd_13 : decode cX3_readsAnd 13 = .ok (.if_icmp .ge 45, 3) := by decide +kernel
theorem dX3_readsAnd_16 : decode cX3_readsAnd 16 = .ok (.iload_n 2, 1) := by decide +kernel
theorem dX3_readsAnd_17 : decode cX3_readsAnd 17 = .ok (.ifCond .eq 41, 3) := by decide +kernel
theorem dX3_readsAnd_20 : decode cX3_readsAnd 20 = .ok (.aload_n 0, 1) := by decide +kernel
theorem dX3_readsAnd_21 : decode cX3_readsAnd 21 = .ok (.getfield 34, 3) := by decide +kernel
theorem dX3_readsAnd_24 : decode cX3_readsAnd 24 = .ok (.getstatic 219, 3) := by decide +kernel
theorem dX3_readsAnd_27 : decode cX3_readsAnd 27 = .ok (.if_acmp .ne 31, 3) := by decide +kernel
theorem dX3_readsAnd_30 : decode cX3_readsAnd 30 = .ok (.aload_n 0, 1) := by decide +kernel
theorem dX3_readsAnd_31 : decode cX3_readsAnd 31 = .ok (.invokevirtual 72, 3) := by decide +kernel
theorem dX3_readsAnd_34 : decode cX3_readsAnd 34 = .ok (.aload_n 0, 1) := by decide +kernel
theorem dX3_readsAnd_35 : decode cX3_readsAnd 35 = .ok (.iload_n 1, 1) := by decide +kernel
theorem dX3_readsAnd_36 : decode cX3_readsAnd 36 = .ok (.invokevirtual 216, 3) := by decide +kernel
theorem dX3_readsAnd_39 : decode cX3_readsAnd 39 = .ok (.istore_n 2, 1) := by decide +kernel
theorem dX3_readsAnd_40 : decode cX3_readsAnd 40 = .ok (.aload_n 0, 1) := by decide +kernel
theorem dX3_readsAnd_41 : decode cX3_readsAnd 41 = .ok (.getfield 12, 3) := by decide +kernel
theorem dX3_readsAnd_44 : decode cX3_readsAnd 44 = .ok (.getfield 190, 3) := by decide +kernel
theorem dX3_readsAnd_47 : decode cX3_readsAnd 47 = .ok (.bipush (-9), 2) := by decide +kernel
theorem dX3_readsAnd_49 : decode cX3_readsAnd 49 = .ok (.invokevirtual 212, 3) := by decide +kernel
theorem dX3_readsAnd_52 : decode cX3_readsAnd 52 = .ok (.iinc 3 1, 3) := by decide +kernel
theorem dX3_readsAnd_55 : decode cX3_readsAnd 55 = .ok (.goto (-47), 3) := by decide +kernel
theorem dX3_readsAnd_58 : decode cX3_readsAnd 58 = .ok (.iload_n 2, 1) := by decide +kernel
theorem dX3_readsAnd_59 : decode cX3_readsAnd 59 = .ok (.ireturn, 1) := by decide +kernel
theorem dX3_readsNot_0 : decode cX3_readsNot 0 = .ok (.iconst 0, 1) := by decide +kernel
theorem dX3_readsNot_1 : decode cX3_readsNot 1 = .ok (.istore_n 2, 1) := by decide +kernel
theorem dX3_readsNot_2 : decode cX3_readsNot 2 = .ok (.aload_n 0, 1) := by decide +kernel
theorem dX3_readsNot_3 : decode cX3_readsNot 3 = .ok (.getfield 34, 3) := by decide +kernel
theorem dX3_readsNot_6 : decode cX3_readsNot 6 = .ok (.getstatic 222, 3) := by decide +kernel
theorem dX3_readsNot_9 : decode cX3_readsNot 9 = .ok (.if_acmp .ne 19, 3) := by decide +kernel
theorem dX3_readsNot_12 : decode cX3_readsNot 12 = .ok (.iload_n 2, 1) := by decide +kernel
theorem dX3_readsNot_13 : decode cX3_readsNot 13 = .ok (.bipush 6, 2) := by decide +kernel
theorem dX3_readsNot_15 : decode cX3_readsNot 15 = .ok (.if_icmp .ge 13, 3) := by decide +kernel
theorem dX3_readsNot_18 : decode cX3_readsNot 18 = .ok (.iinc 2 1, 3) := by decide +kernel
theorem dX3_readsNot_21 : decode cX3_readsNot 21 = .ok (.aload_n 0, 1) := by decide +kernel
theorem dX3_readsNot_22 : decode cX3_readsNot 22 = .ok (.invokevirtual 72, 3) := by decide +kernel
theorem dX3_readsNot_25 : decode cX3_readsNot 25 = .ok (.goto (-23), 3) := by decide +kernel
theorem dX3_readsNot_28 : decode cX3_readsNot 28 = .ok (.aload_n 0, 1) := by decide +kernel
theorem dX3_readsNot_29 : decode cX3_readsNot 29 = .ok (.getfield 34, 3) := by decide +kernel
theorem dX3_readsNot_32 : decode cX3_readsNot 32 = .ok (.getstatic 222, 3) := by decide +kernel
theorem dX3_readsNot_35 : decode cX3_readsNot 35 = .ok (.if_acmp .ne 15, 3) := by decide +kernel
theorem dX3_readsNot_38 : decode cX3_readsNot 38 = .ok (.iload_n 2, 1) := by decide +kernel
theorem dX3_readsNot_39 : decode cX3_readsNot 39 = .ok (.bipush 6, 2) := by decide +kernel
theorem dX3_readsNot_41 : decode cX3_readsNot 41 = .ok (.if_icmp .ne 9, 3) := by decide +kernel
theorem dX3_readsNot_44 : decode cX3_readsNot 44 = .ok (.aload_n 0, 1) := by decide +kernel
theorem dX3_readsNot_45 : decode cX3_readsNot 45 = .ok (.iconst 2, 1) := by decide +kernel
theorem dX3_readsNot_46 : decode cX3_readsNot 46 = .ok (.invokevirtual 142, 3) := by decide +kernel
theorem dX3_readsNot_49 : decode cX3_readsNot 49 = .ok (.ireturn, 1) := by decide +kernel
theorem dX3_readsNot_50 : decode cX3_readsNot 50 = .ok (.aload_n 0, 1) := by decide +kernel
theorem dX3_readsNot_51 : decode cX3_readsNot 51 = .ok (.iload_n 1, 1) := by decide +kernel
theorem dX3_readsNot_52 : decode cX3_readsNot 52 = .ok (.invokevirtual 225, 3) := by decide +kernel
theorem dX3_readsNot_55 : decode cX3_readsNot 55 = .ok (.istore_n 3, 1) := by decide +kernel
theorem dX3_readsNot_56 : decode cX3_readsNot 56 = .ok (.iconst 0, 1) := by decide +kernel
theorem dX3_readsNot_57 : decode cX3_readsNot 57 = .ok (.istore 4, 2) := by decide +kernel
theorem dX3_readsNot_59 : decode cX3_readsNot 59 = .ok (.iload 4, 2) := by decide +kernel
theorem dX3_readsNot_61 : decode cX3_readsNot 61 = .ok (.iload_n 2, 1) := by decide +kernel
theorem dX3_readsNot_62 : decode cX3_readsNot 62 = .ok (.if_icmp .ge 21, 3) := by decide +kernel
theorem dX3_readsNot_65 : decode cX3_readsNot 65 = .ok (.aload_n 0, 1) := by decide +kernel
theorem dX3_readsNot_66 : decode cX3_readsNot 66 = .ok (.getfield 12, 3) := by decide +kernel
theorem dX3_readsNot_69 : decode cX3_readsNot 69 = .ok (.getfield 190, 3) := by decide +kernel
theorem dX3_readsNot_72 : decode cX3_readsNot 72 = .ok (.bipush (-7), 2) := by decide +kernel
theorem dX3_readsNot_74 : decode cX3_readsNot 74 = .ok (.invokevirtual 212, 3) := by decide +kernel
theorem dX3_readsNot_77 : decode cX3_readsNot 77 = .ok (.iinc 4 1, 3) := by decide +kernel
theorem dX3_readsNot_80 : decode cX3_readsNot 80 = .ok (.goto (-21), 3) := by decide +kernel
theorem dX3_readsNot_83 : decode cX3_readsNot 83 = .ok (.iload_n 3, 1) := by decide +kernel
theorem dX3_readsNot_84 : decode cX3_readsNot 84 = .ok (.ireturn, 1) := by decide +kernel
theorem dX3_readsTest_0 : decode cX3_readsTest 0 = .ok (.aload_n 0, 1) := by decide +kernel
theorem dX3_readsTest_1 : decode cX3_readsTest 1 = .ok (.iload_n 1, 1) := by decide +kernel
theorem dX3_readsTest_2 : decode cX3_readsTest 2 = .ok (.invokevirtual 228, 3) := by decide +kernel
theorem dX3_readsTest_5 : decode cX3_readsTest 5 = .ok (.ifCond .ne 5, 3) := by decide +kernel
theorem dX3_readsTest_8 : decode cX3_readsTest 8 = .ok (.iconst 0, 1) := by decide +kernel
theorem dX3_readsTest_9 : decode cX3_readsTest 9 = .ok (.ireturn, 1) := by decide +kernel
theorem dX3_readsTest_10 : decode cX3_readsTest 10 = .ok (.aload_n 0, 1) := by decide +kernel
theorem dX3_readsTest_11 : decode cX3_readsTest 11 = .ok (.getfield 34, 3) := by decide +kernel
theorem dX3_readsTest_14 : decode cX3_readsTest 14 = .ok (.getstatic 231, 3) := by decide +kernel
theorem dX3_readsTest_17 : decode cX3_readsTest 17 = .ok (.if_acmp .eq 15, 3) := by decide +kernel
theorem dX3_readsTest_20 : decode cX3_readsTest 20 = .ok (.aload_n 0, 1) := by decide +kernel
theorem dX3_readsTest_21 : decode cX3_readsTest 21 = .ok (.getfield 34, 3) := by decide +kernel
theorem dX3_readsTest_24 : decode cX3_readsTest 24 = .ok (.getstatic 234, 3) := by decide +kernel
theorem dX3_readsTest_27 : decode cX3_readsTest 27 = .ok (.if_acmp .eq 5, 3) := by decide +kernel
theorem dX3_readsTest_30 : decode cX3_readsTest 30 = .ok (.iconst 1, 1) := by decide +kernel
theorem dX3_readsTest_31 : decode cX3_readsTest 31 = .ok (.ireturn, 1) := by decide +kernel
theorem dX3_readsTest_32 : decode cX3_readsTest 32 = .ok (.aload_n 0, 1) := by decide +kernel
theorem dX3_readsTest_33 : decode cX3_readsTest 33 = .ok (.getfield 34, 3) := by decide +kernel
theorem dX3_readsTest_36 : decode cX3_readsTest 36 = .ok (.getfield 237, 3) := by decide +kernel
theorem dX3_readsTest_39 : decode cX3_readsTest 39 = .ok (.istore_n 2, 1) := by decide +kernel
theorem dX3_readsTest_40 : decode cX3_readsTest 40 = .ok (.aload_n 0, 1) := by decide +kernel
theorem dX3_readsTest_41 : decode cX3_readsTest 41 = .ok (.invokevirtual 72, 3) := by decide +kernel
theorem dX3_readsTest_44 : decode cX3_readsTest 44 = .ok (.aload_n 0, 1) := by decide +kernel
theorem dX3_readsTest_45 : decode cX3_readsTest 45 = .ok (.iload_n 1, 1) := by decide +kernel
theorem dX3_readsTest_46 : decode cX3_readsTest 46 = .ok (.invokevirtual 228, 3) := by decide +kernel
theorem dX3_readsTest_49 : decode cX3_readsTest 49 = .ok (.istore_n 3, 1) := by decide +kernel
theorem dX3_readsTest_50 : decode cX3_readsTest 50 = .ok (.aload_n 0, 1) := by decide +kernel
theorem dX3_readsTest_51 : decode cX3_readsTest 51 = .ok (.getfield 12, 3) := by decide +kernel
theorem dX3_readsTest_54 : decode cX3_readsTest 54 = .ok (.getfield 190, 3) := by decide +kernel
theorem dX3_readsTest_57 : decode cX3_readsTest 57 = .ok (.iload_n 2, 1) := by decide +kernel
theorem dX3_readsTest_58 : decode cX3_readsTest 58 = .ok (.invokevirtual 212, 3) := by decide +kernel
theorem dX3_readsTest_61 : decode cX3_readsTest 61 = .ok (.iload_n 3, 1) := by decide +kernel
theorem dX3_readsTest_62 : decode cX3_readsTest 62 = .ok (.ireturn, 1) := by decide +kernel
theorem dX3_readsSum_0 : decode cX3_readsSum 0 = .ok (.aload_n 0, 1) := by decide +kernel
theorem dX3_readsSum_1 : decode cX3_readsSum 1 = .ok (.iload_n 1, 1) := by decide +kernel
theorem dX3_readsSum_2 : decode cX3_readsSum 2 = .ok (.invokevirtual 240, 3) := by decide +kernel
theorem dX3_readsSum_5 : decode cX3_readsSum 5 = .ok (.istore_n 2, 1) := by decide +kernel
theorem dX3_readsSum_6 : decode cX3_readsSum 6 = .ok (.iconst 0, 1) := by decide +kernel
theorem dX3_readsSum_7 : decode cX3_readsSum 7 = .ok (.istore_n 3, 1) := by decide +kernel
theorem dX3_readsSum_8 : decode cX3_readsSum 8 = .ok (.iload_n 3, 1) := by decide +kernel
theorem dX3_readsSum_9 : decode cX3_readsSum 9 = .ok (.aload_n 0, 1) := by decide +kernel
theorem dX3_readsSum_10 : decode cX3_readsSum 10 = .ok (.getfield 25, 3) := by decide +kernel
theorem dX3_readsSum_13 : decode cX3_readsSum 13 = .ok (.if_icmp .ge 64, 3) := by decide +kernel
theorem dX3_readsSum_16 : decode cX3_readsSum 16 = .ok (.iload_n 2, 1) := by decide +kernel
theorem dX3_readsSum_17 : decode cX3_readsSum 17 = .ok (.ifCond .eq 60, 3) := by decide +kernel
theorem dX3_readsSum_20 : decode cX3_readsSum 20 = .ok (.aload_n 0, 1) := by decide +kernel
theorem dX3_readsSum_21 : decode cX3_readsSum 21 = .ok (.getfield 34, 3) := by decide +kernel
theorem dX3_readsSum_24 : decode cX3_readsSum 24 = .ok (.getstatic 243, 3) := by decide +kernel
theorem dX3_readsSum_27 : decode cX3_readsSum 27 = .ok (.if_acmp .eq 13, 3) := by decide +kernel
theorem dX3_readsSum_30 : decode cX3_readsSum 30 = .ok (.aload_n 0, 1) := by decide +kernel
theorem dX3_readsSum_31 : decode cX3_readsSum 31 = .ok (.getfield 34, 3) := by decide +kernel
theorem dX3_readsSum_34 : decode cX3_readsSum 34 = .ok (.getstatic 246, 3) := by decide +kernel
theorem dX3_readsSum_37 : decode cX3_readsSum 37 = .ok (.if_acmp .ne 40, 3) := by decide +kernel
theorem dX3_readsSum_40 : decode cX3_readsSum 40 = .ok (.aload_n 0, 1) := by decide +kernel
theorem dX3_readsSum_41 : decode cX3_readsSum 41 = .ok (.getfield 34, 3) := by decide +kernel
theorem dX3_readsSum_44 : decode cX3_readsSum 44 = .ok (.getfield 237, 3) := by decide +kernel
theorem dX3_readsSum_47 : decode cX3_readsSum 47 = .ok (.istore 4, 2) := by decide +kernel
theorem dX3_readsSum_49 : decode cX3_readsSum 49 = .ok (.aload_n 0, 1) := by decide +kernel
theorem dX3_readsSum_50 : decode cX3_readsSum 50 = .ok (.invokevirtual 72, 3) := by decide +kernel
theorem dX3_readsSum_53 : decode cX3_readsSum 53 = .ok (.aload_n 0, 1) := by decide +kernel
theorem dX3_readsSum_54 : decode cX3_readsSum 54 = .ok (.iload_n 1, 1) := by decide +kernel
theorem dX3_readsSum_55 : decode cX3_readsSum 55 = .ok (.invokevirtual 240, 3) := by decide +kernel
theorem dX3_readsSum_58 : decode cX3_readsSum 58 = .ok (.istore_n 2, 1) := by decide +kernel
theorem dX3_readsSum_59 : decode cX3_readsSum 59 = .ok (.aload_n 0, 1) := by decide +kernel
theorem dX3_readsSum_60 : decode cX3_readsSum 60 = .ok (.getfield 12, 3) := by decide +kernel
theorem dX3_readsSum_63 : decode cX3_readsSum 63 = .ok (.getfield 190, 3) := by decide +kernel
theorem dX3_readsSum_66 : decode cX3_readsSum 66 = .ok (.iload 4, 2) := by decide +kernel
theorem dX3_readsSum_68 : decode cX3_readsSum 68 = .ok (.invokevirtual 212, 3) := by decide +kernel
theorem dX3_readsSum_71 : decode cX3_readsSum 71 = .ok (.iinc 3 1, 3) := by decide +kernel
theorem dX3_readsSum_74 : decode cX3_readsSum 74 = .ok (.goto (-66), 3) := by decide +kernel
theorem dX3_readsSum_77 : decode cX3_readsSum 77 = .ok (.iload_n 2, 1) := by decide +kernel
theorem dX3_readsSum_78 : decode cX3_readsSum 78 = .ok (.ireturn, 1) := by decide +kernel
theorem dX3_readsProduct_0 : decode cX3_readsProduct 0 = .ok (.aload_n 0, 1) := by decide +kernel
theorem dX3_readsProduct_1 : decode cX3_readsProduct 1 = .ok (.iload_n 1, 1) := by decide +kernel
theorem dX3_readsProduct_2 : decode cX3_readsProduct 2 = .ok (.invokevirtual 249, 3) := by decide +kernel
theorem dX3_readsProduct_5 : decode cX3_readsProduct 5 = .ok (.istore_n 2, 1) := by decide +kernel
theorem dX3_readsProduct_6 : decode cX3_readsProduct 6 = .ok (.iconst 0, 1) := by decide +kernel
theorem dX3_readsProduct_7 : decode cX3_readsProduct 7 = .ok (.istore_n 3, 1) := by decide +kernel
theorem dX3_readsProduct_8 : decode cX3_readsProduct 8 = .ok (.iload_n 3, 1) := by decide +kernel
theorem dX3_readsProduct_9 : decode cX3_readsProduct 9 = .ok (.aload_n 0, 1) := by decide +kernel
theorem dX3_readsProduct_10 : decode cX3_readsProduct 10 = .ok (.getfield 25, 3) := by decide +kernel
theorem dX3_readsProduct_13 : decode cX3_readsProduct 13 = .ok (.if_icmp .ge 64, 3) := by decide +kernel
theorem dX3_readsProduct_16 : decode cX3_readsProduct 16 = .ok (.iload_n 2, 1) := by decide +kernel
theorem dX3_readsProduct_17 : decode cX3_readsProduct 17 = .ok (.ifCond .eq 60, 3) := by decide +kernel
theorem dX3_readsProduct_20 : decode cX3_readsProduct 20 = .ok (.aload_n 0, 1) := by decide +kernel
theorem dX3_readsProduct_21 : decode cX3_readsProduct 21 = .ok (.getfield 34, 3) := by decide +kernel
theorem dX3_readsProduct_24 : decode cX3_readsProduct 24 = .ok (.getstatic 252, 3) := by decide +kernel
theorem dX3_readsProduct_27 : decode cX3_readsProduct 27 = .ok (.if_acmp .eq 13, 3) := by decide +kernel
theorem dX3_readsProduct_30 : decode cX3_readsProduct 30 = .ok (.aload_n 0, 1) := by decide +kernel
theorem dX3_readsProduct_31 : decode cX3_readsProduct 31 = .ok (.getfield 34, 3) := by decide +kernel
theorem dX3_readsProduct_34 : decode cX3_readsProduct 34 = .ok (.getstatic 255, 3) := by decide +kernel
theorem dX3_readsProduct_37 : decode cX3_readsProduct 37 = .ok (.if_acmp .ne 40, 3) := by decide +kernel
theorem dX3_readsProduct_40 : decode cX3_readsProduct 40 = .ok (.aload_n 0, 1) := by decide +kernel
theorem dX3_readsProduct_41 : decode cX3_readsProduct 41 = .ok (.getfield 34, 3) := by decide +kernel
theorem dX3_readsProduct_44 : decode cX3_readsProduct 44 = .ok (.getfield 237, 3) := by decide +kernel
theorem dX3_readsProduct_47 : decode cX3_readsProduct 47 = .ok (.istore 4, 2) := by decide +kernel
theorem dX3_readsProduct_49 : decode cX3_readsProduct 49 = .ok (.aload_n 0, 1) := by decide +kernel
theorem dX3_readsProduct_50 : decode cX3_readsProduct 50 = .ok (.invokevirtual 72, 3) := by decide +kernel
theorem dX3_readsProduct_53 : decode cX3_readsProduct 53 = .ok (.aload_n 0, 1) := by decide +kernel
theorem dX3_readsProduct_54 : decode cX3_readsProduct 54 = .ok (.iload_n 1, 1) := by decide +kernel
theorem dX3_readsProduct_55 : decode cX3_readsProduct 55 = .ok (.invokevirtual 249, 3) := by decide +kernel
theorem dX3_readsProduct_58 : decode cX3_readsProduct 58 = .ok (.istore_n 2, 1) := by decide +kernel
theorem dX3_readsProduct_59 : decode cX3_readsProduct 59 = .ok (.aload_n 0, 1) := by decide +kernel
theorem dX3_readsProduct_60 : decode cX3_readsProduct 60 = .ok (.getfield 12, 3) := by decide +kernel
theorem dX3_readsProduct_63 : decode cX3_readsProduct 63 = .ok (.getfield 190, 3) := by decide +kernel
theorem dX3_readsProduct_66 : decode cX3_readsProduct 66 = .ok (.iload 4, 2) := by decide +kernel
theorem dX3_readsProduct_68 : decode cX3_readsProduct 68 = .ok (.invokevirtual 212, 3) := by decide +kernel
theorem dX3_readsProduct_71 : decode cX3_readsProduct 71 = .ok (.iinc 3 1, 3) := by decide +kernel
theorem dX3_readsProduct_74 : decode cX3_readsProduct 74 = .ok (.goto (-66), 3) := by decide +kernel
theorem dX3_readsProduct_77 : decode cX3_readsProduct 77 = .ok (.iload_n 2, 1) := by decide +kernel
theorem dX3_readsProduct_78 : decode cX3_readsProduct 78 = .ok (.ireturn, 1) := by decide +kernel
theorem dX3_readsPart_0 : decode cX3_readsPart 0 = .ok (.aload_n 0, 1) := by decide +kernel
theorem dX3_readsPart_1 : decode cX3_readsPart 1 = .ok (.getfield 34, 3) := by decide +kernel
theorem dX3_readsPart_4 : decode cX3_readsPart 4 = .ok (.getstatic 203, 3) := by decide +kernel
theorem dX3_readsPart_7 : decode cX3_readsPart 7 = .ok (.if_acmp .ne 9, 3) := by decide +kernel
theorem dX3_readsPart_10 : decode cX3_readsPart 10 = .ok (.aload_n 0, 1) := by decide +kernel
theorem dX3_readsPart_11 : decode cX3_readsPart 11 = .ok (.iload_n 1, 1) := by decide +kernel
theorem dX3_readsPart_12 : decode cX3_readsPart 12 = .ok (.invokevirtual 258, 3) := by decide +kernel
theorem dX3_readsPart_15 : decode cX3_readsPart 15 = .ok (.ireturn, 1) := by decide +kernel
theorem dX3_readsPart_16 : decode cX3_readsPart 16 = .ok (.aload_n 0, 1) := by decide +kernel
theorem dX3_readsPart_17 : decode cX3_readsPart 17 = .ok (.getfield 43, 3) := by decide +kernel
theorem dX3_readsPart_20 : decode cX3_readsPart 20 = .ok (.ifCond .eq 19, 3) := by decide +kernel
theorem dX3_readsPart_23 : decode cX3_readsPart 23 = .ok (.aload_n 0, 1) := by decide +kernel
theorem dX3_readsPart_24 : decode cX3_readsPart 24 = .ok (.getfield 34, 3) := by decide +kernel
theorem dX3_readsPart_27 : decode cX3_readsPart 27 = .ok (.invokevirtual 261, 3) := by decide +kernel
theorem dX3_readsPart_30 : decode cX3_readsPart 30 = .ok (.ifCond .ne 9, 3) := by decide +kernel
theorem dX3_readsPart_33 : decode cX3_readsPart 33 = .ok (.aload_n 0, 1) := by decide +kernel
theorem dX3_readsPart_34 : decode cX3_readsPart 34 = .ok (.iconst 3, 1) := by decide +kernel
theorem dX3_readsPart_35 : decode cX3_readsPart 35 = .ok (.invokevirtual 142, 3) := by decide +kernel
theorem dX3_readsPart_38 : decode cX3_readsPart 38 = .ok (.ireturn, 1) := by decide +kernel
theorem dX3_readsPart_39 : decode cX3_readsPart 39 = .ok (.aload_n 0, 1) := by decide +kernel
theorem dX3_readsPart_40 : decode cX3_readsPart 40 = .ok (.getfield 43, 3) := by decide +kernel
theorem dX3_readsPart_43 : decode cX3_readsPart 43 = .ok (.ifCond .ne 16, 3) := by decide +kernel
theorem dX3_readsPart_46 : decode cX3_readsPart 46 = .ok (.aload_n 0, 1) := by decide +kernel
theorem dX3_readsPart_47 : decode cX3_readsPart 47 = .ok (.iconst 0, 1) := by decide +kernel
theorem dX3_readsPart_48 : decode cX3_readsPart 48 = .ok (.sipush 9999, 3) := by decide +kernel
theorem dX3_readsPart_51 : decode cX3_readsPart 51 = .ok (.invokevirtual 148, 3) := by decide +kernel
theorem dX3_readsPart_54 : decode cX3_readsPart 54 = .ok (.ifCond .ne 5, 3) := by decide +kernel
theorem dX3_readsPart_57 : decode cX3_readsPart 57 = .ok (.iconst 0, 1) := by decide +kernel
theorem dX3_readsPart_58 : decode cX3_readsPart 58 = .ok (.ireturn, 1) := by decide +kernel
theorem dX3_readsPart_59 : decode cX3_readsPart 59 = .ok (.aload_n 0, 1) := by decide +kernel
theorem dX3_readsPart_60 : decode cX3_readsPart 60 = .ok (.getfield 12, 3) := by decide +kernel
theorem dX3_readsPart_63 : decode cX3_readsPart 63 = .ok (.getfield 190, 3) := by decide +kernel
theorem dX3_readsPart_66 : decode cX3_readsPart 66 = .ok (.aload_n 0, 1) := by decide +kernel
theorem dX3_readsPart_67 : decode cX3_readsPart 67 = .ok (.getfield 43, 3) := by decide +kernel
theorem dX3_readsPart_70 : decode cX3_readsPart 70 = .ok (.ifCond .eq 13, 3) := by decide +kernel
theorem dX3_readsPart_73 : decode cX3_readsPart 73 = .ok (.aload_n 0, 1) := by decide +kernel
theorem dX3_readsPart_74 : decode cX3_readsPart 74 = .ok (.getfield 34, 3) := by decide +kernel
theorem dX3_readsPart_77 : decode cX3_readsPart 77 = .ok (.getfield 237, 3) := by decide +kernel
theorem dX3_readsPart_80 : decode cX3_readsPart 80 = .ok (.goto 7, 3) := by decide +kernel
theorem dX3_readsPart_83 : decode cX3_readsPart 83 = .ok (.aload_n 0, 1) := by decide +kernel
theorem dX3_readsPart_84 : decode cX3_readsPart 84 = .ok (.getfield 50, 3) := by decide +kernel
theorem dX3_readsPart_87 : decode cX3_readsPart 87 = .ok (.invokevirtual 212, 3) := by decide +kernel
theorem dX3_readsPart_90 : decode cX3_readsPart 90 = .ok (.aload_n 0, 1) := by decide +kernel
theorem dX3_readsPart_91 : decode cX3_readsPart 91 = .ok (.invokevirtual 72, 3) := by decide +kernel
theorem dX3_readsPart_94 : decode cX3_readsPart 94 = .ok (.iconst 1, 1) := by decide +kernel
theorem dX3_readsPart_95 : decode cX3_readsPart 95 = .ok (.ireturn, 1) := by decide +kernel
theorem dX3_readsParenthesis_0 : decode cX3_readsParenthesis 0 = .ok (.aload_n 0, 1) := by decide +kernel
theorem dX3_readsParenthesis_1 : decode cX3_readsParenthesis 1 = .ok (.invokevirtual 72, 3) := by decide +kernel
theorem dX3_readsParenthesis_4 : decode cX3_readsParenthesis 4 = .ok (.aload_n 0, 1) := by decide +kernel
theorem dX3_readsParenthesis_5 : decode cX3_readsParenthesis 5 = .ok (.iload_n 1, 1) := by decide +kernel
theorem dX3_readsParenthesis_6 : decode cX3_readsParenthesis 6 = .ok (.iconst 1, 1) := by decide +kernel
theorem dX3_readsParenthesis_7 : decode cX3_readsParenthesis 7 = .ok (.iadd, 1) := by decide +kernel
theorem dX3_readsParenthesis_8 : decode cX3_readsParenthesis 8 = .ok (.invokevirtual 197, 3) := by decide +kernel
theorem dX3_readsParenthesis_11 : decode cX3_readsParenthesis 11 = .ok (.ifCond .ne 5, 3) := by decide +kernel
theorem dX3_readsParenthesis_14 : decode cX3_readsParenthesis 14 = .ok (.iconst 0, 1) := by decide +kernel
theorem dX3_readsParenthesis_15 : decode cX3_readsParenthesis 15 = .ok (.ireturn, 1) := by decide +kernel
theorem dX3_readsParenthesis_16 : decode cX3_readsParenthesis 16 = .ok (.aload_n 0, 1) := by decide +kernel
theorem dX3_readsParenthesis_17 : decode cX3_readsParenthesis 17 = .ok (.getfield 34, 3) := by decide +kernel
theorem dX3_readsParenthesis_20 : decode cX3_readsParenthesis 20 = .ok (.getstatic 264, 3) := by decide +kernel
theorem dX3_readsParenthesis_23 : decode cX3_readsParenthesis 23 = .ok (.if_acmp .eq 9, 3) := by decide +kernel
theorem dX3_readsParenthesis_26 : decode cX3_readsParenthesis 26 = .ok (.aload_n 0, 1) := by decide +kernel
theorem dX3_readsParenthesis_27 : decode cX3_readsParenthesis 27 = .ok (.iconst 1, 1) := by decide +kernel
theorem dX3_readsParenthesis_28 : decode cX3_readsParenthesis 28 = .ok (.invokevirtual 142, 3) := by decide +kernel
theorem dX3_readsParenthesis_31 : decode cX3_readsParenthesis 31 = .ok (.ireturn, 1) := by decide +kernel
theorem dX3_readsParenthesis_32 : decode cX3_readsParenthesis 32 = .ok (.aload_n 0, 1) := by decide +kernel
theorem dX3_readsParenthesis_33 : decode cX3_readsParenthesis 33 = .ok (.invokevirtual 72, 3) := by decide +kernel
theorem dX3_readsParenthesis_36 : decode cX3_readsParenthesis 36 = .ok (.iconst 1, 1) := by decide +kernel
theorem dX3_readsParenthesis_37 : decode cX3_readsParenthesis 37 = .ok (.ireturn, 1) := by decide +kernel
theorem dX8_isValue_0 : decode cX8_isValue 0 = .ok (.aload_n 0, 1) := by decide +kernel
theorem dX8_isValue_1 : decode cX8_isValue 1 = .ok (.getfield 108, 3) := by decide +kernel
theorem dX8_isValue_4 : decode cX8_isValue 4 = .ok (.ifCond .ge 16, 3) := by decide +kernel
theorem dX8_isValue_7 : decode cX8_isValue 7 = .ok (.aload_n 0, 1) := by decide +kernel
theorem dX8_isValue_8 : decode cX8_isValue 8 = .ok (.getfield 108, 3) := by decide +kernel
theorem dX8_isValue_11 : decode cX8_isValue 11 = .ok (.bipush (-6), 2) := by decide +kernel
theorem dX8_isValue_13 : decode cX8_isValue 13 = .ok (.if_icmp .lt 7, 3) := by decide +kernel
theorem dX8_isValue_16 : decode cX8_isValue 16 = .ok (.iconst 1, 1) := by decide +kernel
theorem dX8_isValue_17 : decode cX8_isValue 17 = .ok (.goto 4, 3) := by decide +kernel
theorem dX8_isValue_20 : decode cX8_isValue 20 = .ok (.iconst 0, 1) := by decide +kernel
theorem dX8_isValue_21 : decode cX8_isValue 21 = .ok (.ireturn, 1) := by decide +kernel
theorem dX8_stands_0 : decode cX8_stands 0 = .ok (.aload_n 0, 1) := by decide +kernel
theorem dX8_stands_1 : decode cX8_stands 1 = .ok (.getfield 104, 3) := by decide +kernel
theorem dX8_stands_4 : decode cX8_stands 4 = .ok (.invokevirtual 114, 3) := by decide +kernel
theorem dX8_stands_7 : decode cX8_stands 7 = .ok (.ifCond .ne 16, 3) := by decide +kernel
theorem dX8_stands_10 : decode cX8_stands 10 = .ok (.aload_n 0, 1) := by decide +kernel
theorem dX8_stands_11 : decode cX8_stands 11 = .ok (.getfield 104, 3) := by decide +kernel
theorem dX8_stands_14 : decode cX8_stands 14 = .ok (.invokevirtual 120, 3) := by decide +kernel
theorem dX8_stands_17 : decode cX8_stands 17 = .ok (.iload_n 3, 1) := by decide +kernel
theorem dX8_stands_18 : decode cX8_stands 18 = .ok (.iload_n 2, 1) := by decide +kernel
theorem dX8_stands_19 : decode cX8_stands 19 = .ok (.isub, 1) := by decide +kernel
theorem dX8_stands_20 : decode cX8_stands 20 = .ok (.if_icmp .eq 5, 3) := by decide +kernel
theorem dX8_stands_23 : decode cX8_stands 23 = .ok (.iconst 0, 1) := by decide +kernel
theorem dX8_stands_24 : decode cX8_stands 24 = .ok (.ireturn, 1) := by decide +kernel
theorem dX8_stands_25 : decode cX8_stands 25 = .ok (.iload_n 2, 1) := by decide +kernel
theorem dX8_stands_26 : decode cX8_stands 26 = .ok (.istore 4, 2) := by decide +kernel
theorem dX8_stands_28 : decode cX8_stands 28 = .ok (.iload 4, 2) := by decide +kernel
theorem dX8_stands_30 : decode cX8_stands 30 = .ok (.iload_n 3, 1) := by decide +kernel
theorem dX8_stands_31 : decode cX8_stands 31 = .ok (.if_icmp .ge 40, 3) := by decide +kernel
theorem dX8_stands_34 : decode cX8_stands 34 = .ok (.iload 4, 2) := by decide +kernel
theorem dX8_stands_36 : decode cX8_stands 36 = .ok (.aload_n 1, 1) := by decide +kernel
theorem dX8_stands_37 : decode cX8_stands 37 = .ok (.arraylength, 1) := by decide +kernel
theorem dX8_stands_38 : decode cX8_stands 38 = .ok (.if_icmp .ge 33, 3) := by decide +kernel
theorem dX8_stands_41 : decode cX8_stands 41 = .ok (.aload_n 1, 1) := by decide +kernel
theorem dX8_stands_42 : decode cX8_stands 42 = .ok (.iload 4, 2) := by decide +kernel
theorem dX8_stands_44 : decode cX8_stands 44 = .ok (.baload, 1) := by decide +kernel
theorem dX8_stands_45 : decode cX8_stands 45 = .ok (.sipush 255, 3) := by decide +kernel
theorem dX8_stands_48 : decode cX8_stands 48 = .ok (.iand, 1) := by decide +kernel
theorem dX8_stands_49 : decode cX8_stands 49 = .ok (.aload_n 0, 1) := by decide +kernel
theorem dX8_stands_50 : decode cX8_stands 50 = .ok (.getfield 104, 3) := by decide +kernel
theorem dX8_stands_53 : decode cX8_stands 53 = .ok (.iload 4, 2) := by decide +kernel
theorem dX8_stands_55 : decode cX8_stands 55 = .ok (.iload_n 2, 1) := by decide +kernel
theorem dX8_stands_56 : decode cX8_stands 56 = .ok (.isub, 1) := by decide +kernel
theorem dX8_stands_57 : decode cX8_stands 57 = .ok (.invokevirtual 124, 3) := by decide +kernel
theorem dX8_stands_60 : decode cX8_stands 60 = .ok (.if_icmp .eq 5, 3) := by decide +kernel
theorem dX8_stands_63 : decode cX8_stands 63 = .ok (.iconst 0, 1) := by decide +kernel
theorem dX8_stands_64 : decode cX8_stands 64 = .ok (.ireturn, 1) := by decide +kernel
theorem dX8_stands_65 : decode cX8_stands 65 = .ok (.iinc 4 1, 3) := by decide +kernel
theorem dX8_stands_68 : decode cX8_stands 68 = .ok (.goto (-40), 3) := by decide +kernel
theorem dX8_stands_71 : decode cX8_stands 71 = .ok (.iconst 1, 1) := by decide +kernel
theorem dX8_stands_72 : decode cX8_stands 72 = .ok (.ireturn, 1) := by decide +kernel
theorem dJ0_length_8abf5_0 : decode cJ0_length_8abf5 0 = .ok (.aload_n 0, 1) := by decide +kernel
theorem dJ0_length_8abf5_1 : decode cJ0_length_8abf5 1 = .ok (.getfield 9, 3) := by decide +kernel
theorem dJ0_length_8abf5_4 : decode cJ0_length_8abf5 4 = .ok (.arraylength, 1) := by decide +kernel
theorem dJ0_length_8abf5_5 : decode cJ0_length_8abf5 5 = .ok (.aload_n 0, 1) := by decide +kernel
theorem dJ0_length_8abf5_6 : decode cJ0_length_8abf5 6 = .ok (.invokevirtual 335, 3) := by decide +kernel
theorem dJ0_length_8abf5_9 : decode cJ0_length_8abf5 9 = .ok (.ishr, 1) := by decide +kernel
theorem dJ0_length_8abf5_10 : decode cJ0_length_8abf5 10 = .ok (.ireturn, 1) := by decide +kernel
theorem dJ0_isEmpty_aae02_0 : decode cJ0_isEmpty_aae02 0 = .ok (.aload_n 0, 1) := by decide +kernel
theorem dJ0_isEmpty_aae02_1 : decode cJ0_isEmpty_aae02 1 = .ok (.getfield 9, 3) := by decide +kernel
theorem dJ0_isEmpty_aae02_4 : decode cJ0_isEmpty_aae02 4 = .ok (.arraylength, 1) := by decide +kernel
theorem dJ0_isEmpty_aae02_5 : decode cJ0_isEmpty_aae02 5 = .ok (.ifCond .ne 7, 3) := by decide +kernel
theorem dJ0_isEmpty_aae02_8 : decode cJ0_isEmpty_aae02 8 = .ok (.iconst 1, 1) := by decide +kernel
theorem dJ0_isEmpty_aae02_9 : decode cJ0_isEmpty_aae02 9 = .ok (.goto 4, 3) := by decide +kernel
theorem dJ0_isEmpty_aae02_12 : decode cJ0_isEmpty_aae02 12 = .ok (.iconst 0, 1) := by decide +kernel
theorem dJ0_isEmpty_aae02_13 : decode cJ0_isEmpty_aae02 13 = .ok (.ireturn, 1) := by decide +kernel
theorem dJ0_charAt_5068e_0 : decode cJ0_charAt_5068e 0 = .ok (.aload_n 0, 1) := by decide +kernel
theorem dJ0_charAt_5068e_1 : decode cJ0_charAt_5068e 1 = .ok (.invokevirtual 492, 3) := by decide +kernel
theorem dJ0_charAt_5068e_4 : decode cJ0_charAt_5068e 4 = .ok (.ifCond .eq 12, 3) := by decide +kernel
theorem dJ0_charAt_5068e_7 : decode cJ0_charAt_5068e 7 = .ok (.aload_n 0, 1) := by decide +kernel
theorem dJ0_charAt_5068e_8 : decode cJ0_charAt_5068e 8 = .ok (.getfield 9, 3) := by decide +kernel
theorem dJ0_charAt_5068e_11 : decode cJ0_charAt_5068e 11 = .ok (.iload_n 1, 1) := by decide +kernel
theorem dJ0_charAt_5068e_12 : decode cJ0_charAt_5068e 12 = .ok (.invokestatic 495, 3) := by decide +kernel
theorem dJ0_charAt_5068e_15 : decode cJ0_charAt_5068e 15 = .ok (.ireturn, 1) := by decide +kernel
theorem dJ0_charAt_5068e_16 : decode cJ0_charAt_5068e 16 = .ok (.aload_n 0, 1) := by decide +kernel
theorem dJ0_charAt_5068e_17 : decode cJ0_charAt_5068e 17 = .ok (.getfield 9, 3) := by decide +kernel
theorem dJ0_charAt_5068e_20 : decode cJ0_charAt_5068e 20 = .ok (.iload_n 1, 1) := by decide +kernel
theorem dJ0_charAt_5068e_21 : decode cJ0_charAt_5068e 21 = .ok (.invokestatic 498, 3) := by decide +kernel
theorem dJ0_charAt_5068e_24 : decode cJ0_charAt_5068e 24 = .ok (.ireturn, 1) := by decide +kernel
theorem dJ0_coder_7d493_0 : decode cJ0_coder_7d493 0 = .ok (.getstatic 38, 3) := by decide +kernel
theorem dJ0_coder_7d493_3 : decode cJ0_coder_7d493 3 = .ok (.ifCond .eq 10, 3) := by decide +kernel
theorem dJ0_coder_7d493_6 : decode cJ0_coder_7d493 6 = .ok (.aload_n 0, 1) := by decide +kernel
theorem dJ0_coder_7d493_7 : decode cJ0_coder_7d493 7 = .ok (.getfield 15, 3) := by decide +kernel
theorem dJ0_coder_7d493_10 : decode cJ0_coder_7d493 10 = .ok (.goto 4, 3) := by decide +kernel
theorem dJ0_coder_7d493_13 : decode cJ0_coder_7d493 13 = .ok (.iconst 1, 1) := by decide +kernel
theorem dJ0_coder_7d493_14 : decode cJ0_coder_7d493 14 = .ok (.ireturn, 1) := by decide +kernel
theorem dJ0_isLatin1_aae02_0 : decode cJ0_isLatin1_aae02 0 = .ok (.getstatic 38, 3) := by decide +kernel
theorem dJ0_isLatin1_aae02_3 : decode cJ0_isLatin1_aae02 3 = .ok (.ifCond .eq 14, 3) := by decide +kernel
theorem dJ0_isLatin1_aae02_6 : decode cJ0_isLatin1_aae02 6 = .ok (.aload_n 0, 1) := by decide +kernel
theorem dJ0_isLatin1_aae02_7 : decode cJ0_isLatin1_aae02 7 = .ok (.getfield 15, 3) := by decide +kernel
theorem dJ0_isLatin1_aae02_10 : decode cJ0_isLatin1_aae02 10 = .ok (.ifCond .ne 7, 3) := by decide +kernel
theorem dJ0_isLatin1_aae02_13 : decode cJ0_isLatin1_aae02 13 = .ok (.iconst 1, 1) := by decide +kernel
theorem dJ0_isLatin1_aae02_14 : decode cJ0_isLatin1_aae02 14 = .ok (.goto 4, 3) := by decide +kernel
theorem dJ0_isLatin1_aae02_17 : decode cJ0_isLatin1_aae02 17 = .ok (.iconst 0, 1) := by decide +kernel
theorem dJ0_isLatin1_aae02_18 : decode cJ0_isLatin1_aae02 18 = .ok (.ireturn, 1) := by decide +kernel
theorem dJ0_checkIndex_df160_0 : decode cJ0_checkIndex_df160 0 = .ok (.iload_n 0, 1) := by decide +kernel
theorem dJ0_checkIndex_df160_1 : decode cJ0_checkIndex_df160 1 = .ok (.iload_n 1, 1) := by decide +kernel
theorem dJ0_checkIndex_df160_2 : decode cJ0_checkIndex_df160 2 = .ok (.getstatic 1053, 3) := by decide +kernel
theorem dJ0_checkIndex_df160_5 : decode cJ0_checkIndex_df160 5 = .ok (.invokestatic 1059, 3) := by decide +kernel
theorem dJ0_checkIndex_df160_8 : decode cJ0_checkIndex_df160 8 = .ok (.pop, 1) := by decide +kernel
theorem dJ0_checkIndex_df160_9 : decode cJ0_checkIndex_df160 9 = .ok (.return_, 1) := by decide +kernel
theorem dJ1_charAt_3b067_0 : decode cJ1_charAt_3b067 0 = .ok (.iload_n 1, 1) := by decide +kernel
theorem dJ1_charAt_3b067_1 : decode cJ1_charAt_3b067 1 = .ok (.aload_n 0, 1) := by decide +kernel
theorem dJ1_charAt_3b067_2 : decode cJ1_charAt_3b067 2 = .ok (.arraylength, 1) := by decide +kernel
theorem dJ1_charAt_3b067_3 : decode cJ1_charAt_3b067 3 = .ok (.invokestatic 9, 3) := by decide +kernel
theorem dJ1_charAt_3b067_6 : decode cJ1_charAt_3b067 6 = .ok (.aload_n 0, 1) := by decide +kernel
theorem dJ1_charAt_3b067_7 : decode cJ1_charAt_3b067 7 = .ok (.iload_n 1, 1) := by decide +kernel
theorem dJ1_charAt_3b067_8 : decode cJ1_charAt_3b067 8 = .ok (.baload, 1) := by decide +kernel
theorem dJ1_charAt_3b067_9 : decode cJ1_charAt_3b067 9 = .ok (.sipush 255, 3) := by decide +kernel
theorem dJ1_charAt_3b067_12 : decode cJ1_charAt_3b067 12 = .ok (.iand, 1) := by decide +kernel
theorem dJ1_charAt_3b067_13 : decode cJ1_charAt_3b067 13 = .ok (.i2c, 1) := by decide +kernel
theorem dJ1_charAt_3b067_14 : decode cJ1_charAt_3b067 14 = .ok (.ireturn, 1) := by decide +kernel
theorem dJ3_checkIndex_8e157_0 : decode cJ3_checkIndex_8e157 0 = .ok (.iload_n 0, 1) := by decide +kernel
theorem dJ3_checkIndex_8e157_1 : decode cJ3_checkIndex_8e157 1 = .ok (.ifCond .lt 8, 3) := by decide +kernel
theorem dJ3_checkIndex_8e157_4 : decode cJ3_checkIndex_8e157 4 = .ok (.iload_n 0, 1) := by decide +kernel
theorem dJ3_checkIndex_8e157_5 : decode cJ3_checkIndex_8e157 5 = .ok (.iload_n 1, 1) := by decide +kernel
theorem dJ3_checkIndex_8e157_6 : decode cJ3_checkIndex_8e157 6 = .ok (.if_icmp .lt 10, 3) := by decide +kernel
theorem dJ3_checkIndex_8e157_9 : decode cJ3_checkIndex_8e157 9 = .ok (.aload_n 2, 1) := by decide +kernel
theorem dJ3_checkIndex_8e157_10 : decode cJ3_checkIndex_8e157 10 = .ok (.iload_n 0, 1) := by decide +kernel
theorem dJ3_checkIndex_8e157_11 : decode cJ3_checkIndex_8e157 11 = .ok (.iload_n 1, 1) := by decide +kernel
theorem dJ3_checkIndex_8e157_12 : decode cJ3_checkIndex_8e157 12 = .ok (.invokestatic 95, 3) := by decide +kernel
theorem dJ3_checkIndex_8e157_15 : decode cJ3_checkIndex_8e157 15 = .ok (.athrow, 1) := by decide +kernel
theorem dJ3_checkIndex_8e157_16 : decode cJ3_checkIndex_8e157 16 = .ok (.iload_n 0, 1) := by decide +kernel
theorem dJ3_checkIndex_8e157_17 : decode cJ3_checkIndex_8e157 17 = .ok (.ireturn, 1) := by decide +kernel
