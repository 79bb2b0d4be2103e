theorem dX12_count_159 : decode cX12_count 159 = .ok (.iload_n 1, 1) := by decide +kernel
theorem dX12_count_160 : decode cX12_count 160 = .ok (.bipush 13, 2) := by decide +kernel
theorem dX12_count_162 : decode cX12_count 162 = .ok (.isub, 1) := by decide +kernel
theorem dX12_count_163 : decode cX12_count 163 = .ok (.iaload, 1) := by decide +kernel
theorem dX12_count_164 : decode cX12_count 164 = .ok (.ireturn, 1) := by decide +kernel
theorem dX12_count_165 : decode cX12_count 165 = .ok (.aload_n 0, 1) := by decide +kernel
theorem dX12_count_166 : decode cX12_count 166 = .ok (.iconst 1, 1) := by decide +kernel
theorem dX12_count_167 : decode cX12_count 167 = .ok (.invokevirtual 274, 3) := by decide +kernel
theorem dX12_count_170 : decode cX12_count 170 = .ok (.ireturn, 1) := by decide +kernel
theorem dX12_farm_0 : decode cX12_farm 0 = .ok (.aload_n 0, 1) := by decide +kernel
theorem dX12_farm_1 : decode cX12_farm 1 = .ok (.iconst 0, 1) := by decide +kernel
theorem dX12_farm_2 : decode cX12_farm 2 = .ok (.putfield 142, 3) := by decide +kernel
theorem dX12_farm_5 : decode cX12_farm 5 = .ok (.aload_n 0, 1) := by decide +kernel
theorem dX12_farm_6 : decode cX12_farm 6 = .ok (.iload_n 1, 1) := by decide +kernel
theorem dX12_farm_7 : decode cX12_farm 7 = .ok (.invokevirtual 369, 3) := by decide +kernel
theorem dX12_farm_10 : decode cX12_farm 10 = .ok (.ifCond .ne 9, 3) := by decide +kernel
theorem dX12_farm_13 : decode cX12_farm 13 = .ok (.aload_n 0, 1) := by decide +kernel
theorem dX12_farm_14 : decode cX12_farm 14 = .ok (.iconst 1, 1) := by decide +kernel
theorem dX12_farm_15 : decode cX12_farm 15 = .ok (.invokevirtual 274, 3) := by decide +kernel
theorem dX12_farm_18 : decode cX12_farm 18 = .ok (.ireturn, 1) := by decide +kernel
theorem dX12_farm_19 : decode cX12_farm 19 = .ok (.iload_n 2, 1) := by decide +kernel
theorem dX12_farm_20 : decode cX12_farm 20 = .ok (.tableswitch 127 0 9 #[56, 63, 70, 77, 84, 91, 98, 105, 114, 121], 56) := by decide +kernel
theorem dX12_farm_76 : decode cX12_farm 76 = .ok (.aload_n 0, 1) := by decide +kernel
theorem dX12_farm_77 : decode cX12_farm 77 = .ok (.getfield 41, 3) := by decide +kernel
theorem dX12_farm_80 : decode cX12_farm 80 = .ok (.iload_n 1, 1) := by decide +kernel
theorem dX12_farm_81 : decode cX12_farm 81 = .ok (.iaload, 1) := by decide +kernel
theorem dX12_farm_82 : decode cX12_farm 82 = .ok (.ireturn, 1) := by decide +kernel
theorem dX12_farm_83 : decode cX12_farm 83 = .ok (.aload_n 0, 1) := by decide +kernel
theorem dX12_farm_84 : decode cX12_farm 84 = .ok (.getfield 44, 3) := by decide +kernel
theorem dX12_farm_87 : decode cX12_farm 87 = .ok (.iload_n 1, 1) := by decide +kernel
theorem dX12_farm_88 : decode cX12_farm 88 = .ok (.iaload, 1) := by decide +kernel
theorem dX12_farm_89 : decode cX12_farm 89 = .ok (.ireturn, 1) := by decide +kernel
theorem dX12_farm_90 : decode cX12_farm 90 = .ok (.aload_n 0, 1) := by decide +kernel
theorem dX12_farm_91 : decode cX12_farm 91 = .ok (.getfield 78, 3) := by decide +kernel
theorem dX12_farm_94 : decode cX12_farm 94 = .ok (.iload_n 1, 1) := by decide +kernel
theorem dX12_farm_95 : decode cX12_farm 95 = .ok (.iaload, 1) := by decide +kernel
theorem dX12_farm_96 : decode cX12_farm 96 = .ok (.ireturn, 1) := by decide +kernel
theorem dX12_farm_97 : decode cX12_farm 97 = .ok (.aload_n 0, 1) := by decide +kernel
theorem dX12_farm_98 : decode cX12_farm 98 = .ok (.getfield 50, 3) := by decide +kernel
theorem dX12_farm_101 : decode cX12_farm 101 = .ok (.iload_n 1, 1) := by decide +kernel
theorem dX12_farm_102 : decode cX12_farm 102 = .ok (.iaload, 1) := by decide +kernel
theorem dX12_farm_103 : decode cX12_farm 103 = .ok (.ireturn, 1) := by decide +kernel
theorem dX12_farm_104 : decode cX12_farm 104 = .ok (.aload_n 0, 1) := by decide +kernel
theorem dX12_farm_105 : decode cX12_farm 105 = .ok (.getfield 69, 3) := by decide +kernel
theorem dX12_farm_108 : decode cX12_farm 108 = .ok (.iload_n 1, 1) := by decide +kernel
theorem dX12_farm_109 : decode cX12_farm 109 = .ok (.iaload, 1) := by decide +kernel
theorem dX12_farm_110 : decode cX12_farm 110 = .ok (.ireturn, 1) := by decide +kernel
theorem dX12_farm_111 : decode cX12_farm 111 = .ok (.aload_n 0, 1) := by decide +kernel
theorem dX12_farm_112 : decode cX12_farm 112 = .ok (.getfield 72, 3) := by decide +kernel
theorem dX12_farm_115 : decode cX12_farm 115 = .ok (.iload_n 1, 1) := by decide +kernel
theorem dX12_farm_116 : decode cX12_farm 116 = .ok (.iaload, 1) := by decide +kernel
theorem dX12_farm_117 : decode cX12_farm 117 = .ok (.ireturn, 1) := by decide +kernel
theorem dX12_farm_118 : decode cX12_farm 118 = .ok (.aload_n 0, 1) := by decide +kernel
theorem dX12_farm_119 : decode cX12_farm 119 = .ok (.getfield 75, 3) := by decide +kernel
theorem dX12_farm_122 : decode cX12_farm 122 = .ok (.iload_n 1, 1) := by decide +kernel
theorem dX12_farm_123 : decode cX12_farm 123 = .ok (.iaload, 1) := by decide +kernel
theorem dX12_farm_124 : decode cX12_farm 124 = .ok (.ireturn, 1) := by decide +kernel
theorem dX12_farm_125 : decode cX12_farm 125 = .ok (.aload_n 0, 1) := by decide +kernel
theorem dX12_farm_126 : decode cX12_farm 126 = .ok (.getfield 290, 3) := by decide +kernel
theorem dX12_farm_129 : decode cX12_farm 129 = .ok (.iload_n 1, 1) := by decide +kernel
theorem dX12_farm_130 : decode cX12_farm 130 = .ok (.ishr, 1) := by decide +kernel
theorem dX12_farm_131 : decode cX12_farm 131 = .ok (.iconst 1, 1) := by decide +kernel
theorem dX12_farm_132 : decode cX12_farm 132 = .ok (.iand, 1) := by decide +kernel
theorem dX12_farm_133 : decode cX12_farm 133 = .ok (.ireturn, 1) := by decide +kernel
theorem dX12_farm_134 : decode cX12_farm 134 = .ok (.aload_n 0, 1) := by decide +kernel
theorem dX12_farm_135 : decode cX12_farm 135 = .ok (.getfield 38, 3) := by decide +kernel
theorem dX12_farm_138 : decode cX12_farm 138 = .ok (.iload_n 1, 1) := by decide +kernel
theorem dX12_farm_139 : decode cX12_farm 139 = .ok (.iaload, 1) := by decide +kernel
theorem dX12_farm_140 : decode cX12_farm 140 = .ok (.ireturn, 1) := by decide +kernel
theorem dX12_farm_141 : decode cX12_farm 141 = .ok (.aload_n 0, 1) := by decide +kernel
theorem dX12_farm_142 : decode cX12_farm 142 = .ok (.iload_n 1, 1) := by decide +kernel
theorem dX12_farm_143 : decode cX12_farm 143 = .ok (.invokevirtual 343, 3) := by decide +kernel
theorem dX12_farm_146 : decode cX12_farm 146 = .ok (.ireturn, 1) := by decide +kernel
theorem dX12_farm_147 : decode cX12_farm 147 = .ok (.aload_n 0, 1) := by decide +kernel
theorem dX12_farm_148 : decode cX12_farm 148 = .ok (.iconst 1, 1) := by decide +kernel
theorem dX12_farm_149 : decode cX12_farm 149 = .ok (.invokevirtual 274, 3) := by decide +kernel
theorem dX12_farm_152 : decode cX12_farm 152 = .ok (.ireturn, 1) := by decide +kernel
theorem dX12_refuse_0 : decode cX12_refuse 0 = .ok (.aload_n 0, 1) := by decide +kernel
theorem dX12_refuse_1 : decode cX12_refuse 1 = .ok (.getfield 59, 3) := by decide +kernel
theorem dX12_refuse_4 : decode cX12_refuse 4 = .ok (.iload_n 1, 1) := by decide +kernel
theorem dX12_refuse_5 : decode cX12_refuse 5 = .ok (.dup2, 1) := by decide +kernel
theorem dX12_refuse_6 : decode cX12_refuse 6 = .ok (.iaload, 1) := by decide +kernel
theorem dX12_refuse_7 : decode cX12_refuse 7 = .ok (.iconst 1, 1) := by decide +kernel
theorem dX12_refuse_8 : decode cX12_refuse 8 = .ok (.iadd, 1) := by decide +kernel
theorem dX12_refuse_9 : decode cX12_refuse 9 = .ok (.iastore, 1) := by decide +kernel
theorem dX12_refuse_10 : decode cX12_refuse 10 = .ok (.iconst (-1), 1) := by decide +kernel
theorem dX12_refuse_11 : decode cX12_refuse 11 = .ok (.ireturn, 1) := by decide +kernel
theorem dX12_refused_0 : decode cX12_refused 0 = .ok (.aload_n 0, 1) := by decide +kernel
theorem dX12_refused_1 : decode cX12_refused 1 = .ok (.getfield 59, 3) := by decide +kernel
theorem dX12_refused_4 : decode cX12_refused 4 = .ok (.iconst 1, 1) := by decide +kernel
theorem dX12_refused_5 : decode cX12_refused 5 = .ok (.dup2, 1) := by decide +kernel
theorem dX12_refused_6 : decode cX12_refused 6 = .ok (.iaload, 1) := by decide +kernel
theorem dX12_refused_7 : decode cX12_refused 7 = .ok (.iconst 1, 1) := by decide +kernel
theorem dX12_refused_8 : decode cX12_refused 8 = .ok (.iadd, 1) := by decide +kernel
theorem dX12_refused_9 : decode cX12_refused 9 = .ok (.iastore, 1) := by decide +kernel
theorem dX12_refused_10 : decode cX12_refused 10 = .ok (.iconst 0, 1) := by decide +kernel
theorem dX12_refused_11 : decode cX12_refused 11 = .ok (.ireturn, 1) := by decide +kernel
theorem dX12_keep_0 : decode cX12_keep 0 = .ok (.aload_n 0, 1) := by decide +kernel
theorem dX12_keep_1 : decode cX12_keep 1 = .ok (.getfield 293, 3) := by decide +kernel
theorem dX12_keep_4 : decode cX12_keep 4 = .ok (.bipush 40, 2) := by decide +kernel
theorem dX12_keep_6 : decode cX12_keep 6 = .ok (.if_icmp .ne 46, 3) := by decide +kernel
theorem dX12_keep_9 : decode cX12_keep 9 = .ok (.bipush 38, 2) := by decide +kernel
theorem dX12_keep_11 : decode cX12_keep 11 = .ok (.istore_n 1, 1) := by decide +kernel
theorem dX12_keep_12 : decode cX12_keep 12 = .ok (.iload_n 1, 1) := by decide +kernel
theorem dX12_keep_13 : decode cX12_keep 13 = .ok (.aload_n 0, 1) := by decide +kernel
theorem dX12_keep_14 : decode cX12_keep 14 = .ok (.getfield 81, 3) := by decide +kernel
theorem dX12_keep_17 : decode cX12_keep 17 = .ok (.arraylength, 1) := by decide +kernel
theorem dX12_keep_18 : decode cX12_keep 18 = .ok (.if_icmp .ge 24, 3) := by decide +kernel
theorem dX12_keep_21 : decode cX12_keep 21 = .ok (.aload_n 0, 1) := by decide +kernel
theorem dX12_keep_22 : decode cX12_keep 22 = .ok (.getfield 81, 3) := by decide +kernel
theorem dX12_keep_25 : decode cX12_keep 25 = .ok (.iload_n 1, 1) := by decide +kernel
theorem dX12_keep_26 : decode cX12_keep 26 = .ok (.bipush 38, 2) := by decide +kernel
theorem dX12_keep_28 : decode cX12_keep 28 = .ok (.isub, 1) := by decide +kernel
theorem dX12_keep_29 : decode cX12_keep 29 = .ok (.aload_n 0, 1) := by decide +kernel
theorem dX12_keep_30 : decode cX12_keep 30 = .ok (.getfield 81, 3) := by decide +kernel
theorem dX12_keep_33 : decode cX12_keep 33 = .ok (.iload_n 1, 1) := by decide +kernel
theorem dX12_keep_34 : decode cX12_keep 34 = .ok (.iaload, 1) := by decide +kernel
theorem dX12_keep_35 : decode cX12_keep 35 = .ok (.iastore, 1) := by decide +kernel
theorem dX12_keep_36 : decode cX12_keep 36 = .ok (.iinc 1 1, 3) := by decide +kernel
theorem dX12_keep_39 : decode cX12_keep 39 = .ok (.goto (-27), 3) := by decide +kernel
theorem dX12_keep_42 : decode cX12_keep 42 = .ok (.aload_n 0, 1) := by decide +kernel
theorem dX12_keep_43 : decode cX12_keep 43 = .ok (.dup, 1) := by decide +kernel
theorem dX12_keep_44 : decode cX12_keep 44 = .ok (.getfield 293, 3) := by decide +kernel
theorem dX12_keep_47 : decode cX12_keep 47 = .ok (.iconst 1, 1) := by decide +kernel
theorem dX12_keep_48 : decode cX12_keep 48 = .ok (.isub, 1) := by decide +kernel
theorem dX12_keep_49 : decode cX12_keep 49 = .ok (.putfield 293, 3) := by decide +kernel
theorem dX12_keep_52 : decode cX12_keep 52 = .ok (.aload_n 0, 1) := by decide +kernel
theorem dX12_keep_53 : decode cX12_keep 53 = .ok (.aload_n 0, 1) := by decide +kernel
theorem dX12_keep_54 : decode cX12_keep 54 = .ok (.getfield 81, 3) := by decide +kernel
theorem dX12_keep_57 : decode cX12_keep 57 = .ok (.bipush 38, 2) := by decide +kernel
theorem dX12_keep_59 : decode cX12_keep 59 = .ok (.aload_n 0, 1) := by decide +kernel
theorem dX12_keep_60 : decode cX12_keep 60 = .ok (.getfield 293, 3) := by decide +kernel
theorem dX12_keep_63 : decode cX12_keep 63 = .ok (.imul, 1) := by decide +kernel
theorem dX12_keep_64 : decode cX12_keep 64 = .ok (.invokevirtual 372, 3) := by decide +kernel
theorem dX12_keep_67 : decode cX12_keep 67 = .ok (.aload_n 0, 1) := by decide +kernel
theorem dX12_keep_68 : decode cX12_keep 68 = .ok (.dup, 1) := by decide +kernel
theorem dX12_keep_69 : decode cX12_keep 69 = .ok (.getfield 293, 3) := by decide +kernel
theorem dX12_keep_72 : decode cX12_keep 72 = .ok (.iconst 1, 1) := by decide +kernel
theorem dX12_keep_73 : decode cX12_keep 73 = .ok (.iadd, 1) := by decide +kernel
theorem dX12_keep_74 : decode cX12_keep 74 = .ok (.putfield 293, 3) := by decide +kernel
theorem dX12_keep_77 : decode cX12_keep 77 = .ok (.return_, 1) := by decide +kernel
theorem dX12_ticks_0 : decode cX12_ticks 0 = .ok (.aload_n 0, 1) := by decide +kernel
theorem dX12_ticks_1 : decode cX12_ticks 1 = .ok (.iconst 0, 1) := by decide +kernel
theorem dX12_ticks_2 : decode cX12_ticks 2 = .ok (.putfield 142, 3) := by decide +kernel
theorem dX12_ticks_5 : decode cX12_ticks 5 = .ok (.iload_n 1, 1) := by decide +kernel
theorem dX12_ticks_6 : decode cX12_ticks 6 = .ok (.i2l, 1) := by decide +kernel
theorem dX12_ticks_7 : decode cX12_ticks 7 = .ok (.lconst 1, 1) := by decide +kernel
theorem dX12_ticks_8 : decode cX12_ticks 8 = .ok (.ldc2_w 376, 3) := by decide +kernel
theorem dX12_ticks_11 : decode cX12_ticks 11 = .ok (.invokestatic 145, 3) := by decide +kernel
theorem dX12_ticks_14 : decode cX12_ticks 14 = .ok (.ifCond .eq 15, 3) := by decide +kernel
theorem dX12_ticks_17 : decode cX12_ticks 17 = .ok (.aload_n 0, 1) := by decide +kernel
theorem dX12_ticks_18 : decode cX12_ticks 18 = .ok (.getfield 287, 3) := by decide +kernel
theorem dX12_ticks_21 : decode cX12_ticks 21 = .ok (.iload_n 1, 1) := by decide +kernel
theorem dX12_ticks_22 : decode cX12_ticks 22 = .ok (.iadd, 1) := by decide +kernel
theorem dX12_ticks_23 : decode cX12_ticks 23 = .ok (.sipush 999, 3) := by decide +kernel
theorem dX12_ticks_26 : decode cX12_ticks 26 = .ok (.if_icmp .le 9, 3) := by decide +kernel
theorem dX12_ticks_29 : decode cX12_ticks 29 = .ok (.aload_n 0, 1) := by decide +kernel
theorem dX12_ticks_30 : decode cX12_ticks 30 = .ok (.iconst 1, 1) := by decide +kernel
theorem dX12_ticks_31 : decode cX12_ticks 31 = .ok (.invokevirtual 378, 3) := by decide +kernel
theorem dX12_ticks_34 : decode cX12_ticks 34 = .ok (.ireturn, 1) := by decide +kernel
theorem dX12_ticks_35 : decode cX12_ticks 35 = .ok (.aload_n 0, 1) := by decide +kernel
theorem dX12_ticks_36 : decode cX12_ticks 36 = .ok (.invokevirtual 381, 3) := by decide +kernel
theorem dX12_ticks_39 : decode cX12_ticks 39 = .ok (.aload_n 0, 1) := by decide +kernel
theorem dX12_ticks_40 : decode cX12_ticks 40 = .ok (.iload_n 1, 1) := by decide +kernel
theorem dX12_ticks_41 : decode cX12_ticks 41 = .ok (.invokevirtual 384, 3) := by decide +kernel
theorem dX12_ticks_44 : decode cX12_ticks 44 = .ok (.aload_n 0, 1) := by decide +kernel
theorem dX12_ticks_45 : decode cX12_ticks 45 = .ok (.getfield 287, 3) := by decide +kernel
theorem dX12_ticks_48 : decode cX12_ticks 48 = .ok (.ireturn, 1) := by decide +kernel
theorem dX12_isAsleep_0 : decode cX12_isAsleep 0 = .ok (.aload_n 0, 1) := by decide +kernel
theorem dX12_isAsleep_1 : decode cX12_isAsleep 1 = .ok (.getfield 290, 3) := by decide +kernel
theorem dX12_isAsleep_4 : decode cX12_isAsleep 4 = .ok (.iload_n 1, 1) := by decide +kernel
theorem dX12_isAsleep_5 : decode cX12_isAsleep 5 = .ok (.invokestatic 332, 3) := by decide +kernel
theorem dX12_isAsleep_8 : decode cX12_isAsleep 8 = .ok (.ireturn, 1) := by decide +kernel
theorem dX12_begin_0 : decode cX12_begin 0 = .ok (.aload_n 0, 1) := by decide +kernel
theorem dX12_begin_1 : decode cX12_begin 1 = .ok (.iconst 0, 1) := by decide +kernel
theorem dX12_begin_2 : decode cX12_begin 2 = .ok (.putfield 142, 3) := by decide +kernel
theorem dX12_begin_5 : decode cX12_begin 5 = .ok (.aload_n 0, 1) := by decide +kernel
theorem dX12_begin_6 : decode cX12_begin 6 = .ok (.iload_n 1, 1) := by decide +kernel
theorem dX12_begin_7 : decode cX12_begin 7 = .ok (.invokevirtual 369, 3) := by decide +kernel
theorem dX12_begin_10 : decode cX12_begin 10 = .ok (.ifCond .ne 9, 3) := by decide +kernel
theorem dX12_begin_13 : decode cX12_begin 13 = .ok (.aload_n 0, 1) := by decide +kernel
theorem dX12_begin_14 : decode cX12_begin 14 = .ok (.iconst 1, 1) := by decide +kernel
theorem dX12_begin_15 : decode cX12_begin 15 = .ok (.invokevirtual 387, 3) := by decide +kernel
theorem dX12_begin_18 : decode cX12_begin 18 = .ok (.ireturn, 1) := by decide +kernel
theorem dX12_begin_19 : decode cX12_begin 19 = .ok (.aload_n 0, 1) := by decide +kernel
theorem dX12_begin_20 : decode cX12_begin 20 = .ok (.iload_n 1, 1) := by decide +kernel
theorem dX12_begin_21 : decode cX12_begin 21 = .ok (.invokevirtual 390, 3) := by decide +kernel
theorem dX12_begin_24 : decode cX12_begin 24 = .ok (.ifCond .eq 8, 3) := by decide +kernel
theorem dX12_begin_27 : decode cX12_begin 27 = .ok (.aload_n 0, 1) := by decide +kernel
theorem dX12_begin_28 : decode cX12_begin 28 = .ok (.invokevirtual 393, 3) := by decide +kernel
theorem dX12_begin_31 : decode cX12_begin 31 = .ok (.ireturn, 1) := by decide +kernel
theorem dX12_begin_32 : decode cX12_begin 32 = .ok (.aload_n 0, 1) := by decide +kernel
theorem dX12_begin_33 : decode cX12_begin 33 = .ok (.invokevirtual 381, 3) := by decide +kernel
theorem dX12_begin_36 : decode cX12_begin 36 = .ok (.aload_n 0, 1) := by decide +kernel
theorem dX12_begin_37 : decode cX12_begin 37 = .ok (.getfield 69, 3) := by decide +kernel
theorem dX12_begin_40 : decode cX12_begin 40 = .ok (.iload_n 1, 1) := by decide +kernel
theorem dX12_begin_41 : decode cX12_begin 41 = .ok (.iconst 1, 1) := by decide +kernel
theorem dX12_begin_42 : decode cX12_begin 42 = .ok (.iastore, 1) := by decide +kernel
theorem dX12_begin_43 : decode cX12_begin 43 = .ok (.iconst 1, 1) := by decide +kernel
theorem dX12_begin_44 : decode cX12_begin 44 = .ok (.ireturn, 1) := by decide +kernel
theorem dX12_turnOver_0 : decode cX12_turnOver 0 = .ok (.aload_n 0, 1) := by decide +kernel
theorem dX12_turnOver_1 : decode cX12_turnOver 1 = .ok (.dup, 1) := by decide +kernel
theorem dX12_turnOver_2 : decode cX12_turnOver 2 = .ok (.getfield 290, 3) := by decide +kernel
theorem dX12_turnOver_5 : decode cX12_turnOver 5 = .ok (.iconst 1, 1) := by decide +kernel
theorem dX12_turnOver_6 : decode cX12_turnOver 6 = .ok (.iload_n 1, 1) := by decide +kernel
theorem dX12_turnOver_7 : decode cX12_turnOver 7 = .ok (.ishl, 1) := by decide +kernel
theorem dX12_turnOver_8 : decode cX12_turnOver 8 = .ok (.ixor, 1) := by decide +kernel
theorem dX12_turnOver_9 : decode cX12_turnOver 9 = .ok (.putfield 290, 3) := by decide +kernel
theorem dX12_turnOver_12 : decode cX12_turnOver 12 = .ok (.aload_n 0, 1) := by decide +kernel
theorem dX12_turnOver_13 : decode cX12_turnOver 13 = .ok (.iload_n 1, 1) := by decide +kernel
theorem dX12_turnOver_14 : decode cX12_turnOver 14 = .ok (.invokevirtual 390, 3) := by decide +kernel
theorem dX12_turnOver_17 : decode cX12_turnOver 17 = .ok (.ifCond .eq 10, 3) := by decide +kernel
theorem dX12_turnOver_20 : decode cX12_turnOver 20 = .ok (.aload_n 0, 1) := by decide +kernel
theorem dX12_turnOver_21 : decode cX12_turnOver 21 = .ok (.getfield 69, 3) := by decide +kernel
theorem dX12_turnOver_24 : decode cX12_turnOver 24 = .ok (.iload_n 1, 1) := by decide +kernel
theorem dX12_turnOver_25 : decode cX12_turnOver 25 = .ok (.iconst 0, 1) := by decide +kernel
theorem dX12_turnOver_26 : decode cX12_turnOver 26 = .ok (.iastore, 1) := by decide +kernel
theorem dX12_turnOver_27 : decode cX12_turnOver 27 = .ok (.return_, 1) := by decide +kernel
theorem dX12_sleep_0 : decode cX12_sleep 0 = .ok (.aload_n 0, 1) := by decide +kernel
theorem dX12_sleep_1 : decode cX12_sleep 1 = .ok (.iconst 0, 1) := by decide +kernel
theorem dX12_sleep_2 : decode cX12_sleep 2 = .ok (.putfield 142, 3) := by decide +kernel
theorem dX12_sleep_5 : decode cX12_sleep 5 = .ok (.aload_n 0, 1) := by decide +kernel
theorem dX12_sleep_6 : decode cX12_sleep 6 = .ok (.iload_n 1, 1) := by decide +kernel
theorem dX12_sleep_7 : decode cX12_sleep 7 = .ok (.invokevirtual 369, 3) := by decide +kernel
theorem dX12_sleep_10 : decode cX12_sleep 10 = .ok (.ifCond .ne 9, 3) := by decide +kernel
theorem dX12_sleep_13 : decode cX12_sleep 13 = .ok (.aload_n 0, 1) := by decide +kernel
theorem dX12_sleep_14 : decode cX12_sleep 14 = .ok (.iconst 1, 1) := by decide +kernel
theorem dX12_sleep_15 : decode cX12_sleep 15 = .ok (.invokevirtual 387, 3) := by decide +kernel
theorem dX12_sleep_18 : decode cX12_sleep 18 = .ok (.ireturn, 1) := by decide +kernel
theorem dX12_sleep_19 : decode cX12_sleep 19 = .ok (.aload_n 0, 1) := by decide +kernel
theorem dX12_sleep_20 : decode cX12_sleep 20 = .ok (.iload_n 1, 1) := by decide +kernel
theorem dX12_sleep_21 : decode cX12_sleep 21 = .ok (.invokevirtual 390, 3) := by decide +kernel
theorem dX12_sleep_24 : decode cX12_sleep 24 = .ok (.iload_n 2, 1) := by decide +kernel
theorem dX12_sleep_25 : decode cX12_sleep 25 = .ok (.if_icmp .ne 8, 3) := by decide +kernel
theorem dX12_sleep_28 : decode cX12_sleep 28 = .ok (.aload_n 0, 1) := by decide +kernel
theorem dX12_sleep_29 : decode cX12_sleep 29 = .ok (.invokevirtual 393, 3) := by decide +kernel
theorem dX12_sleep_32 : decode cX12_sleep 32 = .ok (.ireturn, 1) := by decide +kernel
theorem dX12_sleep_33 : decode cX12_sleep 33 = .ok (.aload_n 0, 1) := by decide +kernel
theorem dX12_sleep_34 : decode cX12_sleep 34 = .ok (.invokevirtual 381, 3) := by decide +kernel
theorem dX12_sleep_37 : decode cX12_sleep 37 = .ok (.aload_n 0, 1) := by decide +kernel
theorem dX12_sleep_38 : decode cX12_sleep 38 = .ok (.iload_n 1, 1) := by decide +kernel
theorem dX12_sleep_39 : decode cX12_sleep 39 = .ok (.invokevirtual 397, 3) := by decide +kernel
theorem dX12_sleep_42 : decode cX12_sleep 42 = .ok (.iconst 1, 1) := by decide +kernel
theorem dX12_sleep_43 : decode cX12_sleep 43 = .ok (.ireturn, 1) := by decide +kernel
theorem dX12_hat_0 : decode cX12_hat 0 = .ok (.aload_n 0, 1) := by decide +kernel
theorem dX12_hat_1 : decode cX12_hat 1 = .ok (.iconst 0, 1) := by decide +kernel
theorem dX12_hat_2 : decode cX12_hat 2 = .ok (.putfield 142, 3) := by decide +kernel
theorem dX12_hat_5 : decode cX12_hat 5 = .ok (.aload_n 0, 1) := by decide +kernel
theorem dX12_hat_6 : decode cX12_hat 6 = .ok (.iload_n 1, 1) := by decide +kernel
theorem dX12_hat_7 : decode cX12_hat 7 = .ok (.invokevirtual 369, 3) := by decide +kernel
theorem dX12_hat_10 : decode cX12_hat 10 = .ok (.ifCond .ne 9, 3) := by decide +kernel
theorem dX12_hat_13 : decode cX12_hat 13 = .ok (.aload_n 0, 1) := by decide +kernel
theorem dX12_hat_14 : decode cX12_hat 14 = .ok (.iconst 1, 1) := by decide +kernel
theorem dX12_hat_15 : decode cX12_hat 15 = .ok (.invokevirtual 274, 3) := by decide +kernel
theorem dX12_hat_18 : decode cX12_hat 18 = .ok (.ireturn, 1) := by decide +kernel
theorem dX12_hat_19 : decode cX12_hat 19 = .ok (.iload_n 2, 1) := by decide +kernel
theorem dX12_hat_20 : decode cX12_hat 20 = .ok (.i2l, 1) := by decide +kernel
theorem dX12_hat_21 : decode cX12_hat 21 = .ok (.lconst 0, 1) := by decide +kernel
theorem dX12_hat_22 : decode cX12_hat 22 = .ok (.ldc2_w 376, 3) := by decide +kernel
theorem dX12_hat_25 : decode cX12_hat 25 = .ok (.invokestatic 145, 3) := by decide +kernel
theorem dX12_hat_28 : decode cX12_hat 28 = .ok (.ifCond .ne 9, 3) := by decide +kernel
theorem dX12_hat_31 : decode cX12_hat 31 = .ok (.aload_n 0, 1) := by decide +kernel
theorem dX12_hat_32 : decode cX12_hat 32 = .ok (.iconst 1, 1) := by decide +kernel
theorem dX12_hat_33 : decode cX12_hat 33 = .ok (.invokevirtual 378, 3) := by decide +kernel
theorem dX12_hat_36 : decode cX12_hat 36 = .ok (.ireturn, 1) := by decide +kernel
theorem dX12_hat_37 : decode cX12_hat 37 = .ok (.aload_n 0, 1) := by decide +kernel
theorem dX12_hat_38 : decode cX12_hat 38 = .ok (.invokevirtual 381, 3) := by decide +kernel
theorem dX12_hat_41 : decode cX12_hat 41 = .ok (.aload_n 0, 1) := by decide +kernel
theorem dX12_hat_42 : decode cX12_hat 42 = .ok (.getfield 78, 3) := by decide +kernel
theorem dX12_hat_45 : decode cX12_hat 45 = .ok (.iload_n 1, 1) := by decide +kernel
theorem dX12_hat_46 : decode cX12_hat 46 = .ok (.iaload, 1) := by decide +kernel
theorem dX12_hat_47 : decode cX12_hat 47 = .ok (.istore_n 3, 1) := by decide +kernel
theorem dX12_hat_48 : decode cX12_hat 48 = .ok (.aload_n 0, 1) := by decide +kernel
theorem dX12_hat_49 : decode cX12_hat 49 = .ok (.getfield 78, 3) := by decide +kernel
theorem dX12_hat_52 : decode cX12_hat 52 = .ok (.iload_n 1, 1) := by decide +kernel
theorem dX12_hat_53 : decode cX12_hat 53 = .ok (.iload_n 2, 1) := by decide +kernel
theorem dX12_hat_54 : decode cX12_hat 54 = .ok (.iastore, 1) := by decide +kernel
theorem dX12_hat_55 : decode cX12_hat 55 = .ok (.iload_n 3, 1) := by decide +kernel
theorem dX12_hat_56 : decode cX12_hat 56 = .ok (.ireturn, 1) := by decide +kernel
theorem dX12_hushAll_0 : decode cX12_hushAll 0 = .ok (.iconst 0, 1) := by decide +kernel
theorem dX12_hushAll_1 : decode cX12_hushAll 1 = .ok (.istore_n 1, 1) := by decide +kernel
theorem dX12_hushAll_2 : decode cX12_hushAll 2 = .ok (.iload_n 1, 1) := by decide +kernel
theorem dX12_hushAll_3 : decode cX12_hushAll 3 = .ok (.bipush 9, 2) := by decide +kernel
theorem dX12_hushAll_5 : decode cX12_hushAll 5 = .ok (.if_icmp .ge 16, 3) := by decide +kernel
theorem dX12_hushAll_8 : decode cX12_hushAll 8 = .ok (.aload_n 0, 1) := by decide +kernel
theorem dX12_hushAll_9 : decode cX12_hushAll 9 = .ok (.getfield 69, 3) := by decide +kernel
theorem dX12_hushAll_12 : decode cX12_hushAll 12 = .ok (.iload_n 1, 1) := by decide +kernel
theorem dX12_hushAll_13 : decode cX12_hushAll 13 = .ok (.iconst 0, 1) := by decide +kernel
theorem dX12_hushAll_14 : decode cX12_hushAll 14 = .ok (.iastore, 1) := by decide +kernel
theorem dX12_hushAll_15 : decode cX12_hushAll 15 = .ok (.iinc 1 1, 3) := by decide +kernel
theorem dX12_hushAll_18 : decode cX12_hushAll 18 = .ok (.goto (-16), 3) := by decide +kernel
theorem dX12_hushAll_21 : decode cX12_hushAll 21 = .ok (.return_, 1) := by decide +kernel
theorem dX12_hush_0 : decode cX12_hush 0 = .ok (.aload_n 0, 1) := by decide +kernel
theorem dX12_hush_1 : decode cX12_hush 1 = .ok (.iconst 0, 1) := by decide +kernel
theorem dX12_hush_2 : decode cX12_hush 2 = .ok (.putfield 142, 3) := by decide +kernel
theorem dX12_hush_5 : decode cX12_hush 5 = .ok (.aload_n 0, 1) := by decide +kernel
theorem dX12_hush_6 : decode cX12_hush 6 = .ok (.invokevirtual 357, 3) := by decide +kernel
theorem dX12_hush_9 : decode cX12_hush 9 = .ok (.istore_n 1, 1) := by decide +kernel
theorem dX12_hush_10 : decode cX12_hush 10 = .ok (.iload_n 1, 1) := by decide +kernel
theorem dX12_hush_11 : decode cX12_hush 11 = .ok (.ifCond .ne 9, 3) := by decide +kernel
theorem dX12_hush_14 : decode cX12_hush 14 = .ok (.aload_n 0, 1) := by decide +kernel
theorem dX12_hush_15 : decode cX12_hush 15 = .ok (.iconst 1, 1) := by decide +kernel
theorem dX12_hush_16 : decode cX12_hush 16 = .ok (.invokevirtual 378, 3) := by decide +kernel
theorem dX12_hush_19 : decode cX12_hush 19 = .ok (.ireturn, 1) := by decide +kernel
theorem dX12_hush_20 : decode cX12_hush 20 = .ok (.aload_n 0, 1) := by decide +kernel
theorem dX12_hush_21 : decode cX12_hush 21 = .ok (.invokevirtual 381, 3) := by decide +kernel
theorem dX12_hush_24 : decode cX12_hush 24 = .ok (.aload_n 0, 1) := by decide +kernel
theorem dX12_hush_25 : decode cX12_hush 25 = .ok (.invokevirtual 400, 3) := by decide +kernel
theorem dX12_hush_28 : decode cX12_hush 28 = .ok (.iload_n 1, 1) := by decide +kernel
theorem dX12_hush_29 : decode cX12_hush 29 = .ok (.ireturn, 1) := by decide +kernel
theorem dX12_undo_0 : decode cX12_undo 0 = .ok (.aload_n 0, 1) := by decide +kernel
theorem dX12_undo_1 : decode cX12_undo 1 = .ok (.iconst 0, 1) := by decide +kernel
theorem dX12_undo_2 : decode cX12_undo 2 = .ok (.putfield 142, 3) := by decide +kernel
theorem dX12_undo_5 : decode cX12_undo 5 = .ok (.aload_n 0, 1) := by decide +kernel
theorem dX12_undo_6 : decode cX12_undo 6 = .ok (.getfield 293, 3) := by decide +kernel
theorem dX12_undo_9 : decode cX12_undo 9 = .ok (.ifCond .ne 5, 3) := by decide +kernel
theorem dX12_undo_12 : decode cX12_undo 12 = .ok (.iconst (-1), 1) := by decide +kernel
theorem dX12_undo_13 : decode cX12_undo 13 = .ok (.ireturn, 1) := by decide +kernel
theorem dX12_undo_14 : decode cX12_undo 14 = .ok (.aload_n 0, 1) := by decide +kernel
theorem dX12_undo_15 : decode cX12_undo 15 = .ok (.dup, 1) := by decide +kernel
theorem dX12_undo_16 : decode cX12_undo 16 = .ok (.getfield 293, 3) := by decide +kernel
theorem dX12_undo_19 : decode cX12_undo 19 = .ok (.iconst 1, 1) := by decide +kernel
theorem dX12_undo_20 : decode cX12_undo 20 = .ok (.isub, 1) := by decide +kernel
theorem dX12_undo_21 : decode cX12_undo 21 = .ok (.putfield 293, 3) := by decide +kernel
theorem dX12_undo_24 : decode cX12_undo 24 = .ok (.aload_n 0, 1) := by decide +kernel
theorem dX12_undo_25 : decode cX12_undo 25 = .ok (.aload_n 0, 1) := by decide +kernel
theorem dX12_undo_26 : decode cX12_undo 26 = .ok (.getfield 81, 3) := by decide +kernel
theorem dX12_undo_29 : decode cX12_undo 29 = .ok (.bipush 38, 2) := by decide +kernel
theorem dX12_undo_31 : decode cX12_undo 31 = .ok (.aload_n 0, 1) := by decide +kernel
theorem dX12_undo_32 : decode cX12_undo 32 = .ok (.getfield 293, 3) := by decide +kernel
theorem dX12_undo_35 : decode cX12_undo 35 = .ok (.imul, 1) := by decide +kernel
theorem dX12_undo_36 : decode cX12_undo 36 = .ok (.invokevirtual 403, 3) := by decide +kernel
theorem dX12_undo_39 : decode cX12_undo 39 = .ok (.aload_n 0, 1) := by decide +kernel
theorem dX12_undo_40 : decode cX12_undo 40 = .ok (.getfield 293, 3) := by decide +kernel
theorem dX12_undo_43 : decode cX12_undo 43 = .ok (.ireturn, 1) := by decide +kernel
theorem dX12_nodding_0 : decode cX12_nodding 0 = .ok (.aload_n 0, 1) := by decide +kernel
theorem dX12_nodding_1 : decode cX12_nodding 1 = .ok (.iconst 0, 1) := by decide +kernel
theorem dX12_nodding_2 : decode cX12_nodding 2 = .ok (.putfield 142, 3) := by decide +kernel
theorem dX12_nodding_5 : decode cX12_nodding 5 = .ok (.iload_n 1, 1) := by decide +kernel
theorem dX12_nodding_6 : decode cX12_nodding 6 = .ok (.i2l, 1) := by decide +kernel
theorem dX12_nodding_7 : decode cX12_nodding 7 = .ok (.lconst 1, 1) := by decide +kernel
theorem dX12_nodding_8 : decode cX12_nodding 8 = .ok (.ldc2_w 406, 3) := by decide +kernel
theorem dX12_nodding_11 : decode cX12_nodding 11 = .ok (.invokestatic 145, 3) := by decide +kernel
theorem dX12_nodding_14 : decode cX12_nodding 14 = .ok (.ifCond .ne 9, 3) := by decide +kernel
theorem dX12_nodding_17 : decode cX12_nodding 17 = .ok (.aload_n 0, 1) := by decide +kernel
theorem dX12_nodding_18 : decode cX12_nodding 18 = .ok (.iconst 1, 1) := by decide +kernel
theorem dX12_nodding_19 : decode cX12_nodding 19 = .ok (.invokevirtual 274, 3) := by decide +kernel
theorem dX12_nodding_22 : decode cX12_nodding 22 = .ok (.ireturn, 1) := by decide +kernel
theorem dX12_nodding_23 : decode cX12_nodding 23 = .ok (.aload_n 0, 1) := by decide +kernel
theorem dX12_nodding_24 : decode cX12_nodding 24 = .ok (.aload_n 0, 1) := by decide +kernel
theorem dX12_nodding_25 : decode cX12_nodding 25 = .ok (.getfield 96, 3) := by decide +kernel
theorem dX12_nodding_28 : decode cX12_nodding 28 = .ok (.iconst 0, 1) := by decide +kernel
theorem dX12_nodding_29 : decode cX12_nodding 29 = .ok (.invokevirtual 372, 3) := by decide +kernel
theorem dX12_nodding_32 : decode cX12_nodding 32 = .ok (.aload_n 0, 1) := by decide +kernel
theorem dX12_nodding_33 : decode cX12_nodding 33 = .ok (.iload_n 1, 1) := by decide +kernel
theorem dX12_nodding_34 : decode cX12_nodding 34 = .ok (.invokevirtual 384, 3) := by decide +kernel
theorem dX12_nodding_37 : decode cX12_nodding 37 = .ok (.aload_n 0, 1) := by decide +kernel
theorem dX12_nodding_38 : decode cX12_nodding 38 = .ok (.aload_n 0, 1) := by decide +kernel
theorem dX12_nodding_39 : decode cX12_nodding 39 = .ok (.getfield 96, 3) := by decide +kernel
theorem dX12_nodding_42 : decode cX12_nodding 42 = .ok (.iconst 0, 1) := by decide +kernel
theorem dX12_nodding_43 : decode cX12_nodding 43 = .ok (.invokevirtual 403, 3) := by decide +kernel
theorem dX12_nodding_46 : decode cX12_nodding 46 = .ok (.aload_n 0, 1) := by decide +kernel
theorem dX12_nodding_47 : decode cX12_nodding 47 = .ok (.getfield 341, 3) := by decide +kernel
theorem dX12_nodding_50 : decode cX12_nodding 50 = .ok (.ireturn, 1) := by decide +kernel
theorem dX12_then_0 : decode cX12_then 0 = .ok (.aload_n 0, 1) := by decide +kernel
theorem dX12_then_1 : decode cX12_then 1 = .ok (.iconst 0, 1) := by decide +kernel
theorem dX12_then_2 : decode cX12_then 2 = .ok (.putfield 142, 3) := by decide +kernel
theorem dX12_then_5 : decode cX12_then 5 = .ok (.aload_n 0, 1) := by decide +kernel
theorem dX12_then_6 : decode cX12_then 6 = .ok (.iload_n 1, 1) := by decide +kernel
theorem dX12_then_7 : decode cX12_then 7 = .ok (.invokevirtual 369, 3) := by decide +kernel
theorem dX12_then_10 : decode cX12_then 10 = .ok (.ifCond .eq 12, 3) := by decide +kernel
theorem dX12_then_13 : decode cX12_then 13 = .ok (.iload_n 3, 1) := by decide +kernel
theorem dX12_then_14 : decode cX12_then 14 = .ok (.ifCond .lt 8, 3) := by decide +kernel
theorem dX12_then_17 : decode cX12_then 17 = .ok (.iload_n 3, 1) := by decide +kernel
theorem dX12_then_18 : decode cX12_then 18 = .ok (.iconst 1, 1) := by decide +kernel
theorem dX12_then_19 : decode cX12_then 19 = .ok (.if_icmp .le 9, 3) := by decide +kernel
theorem dX12_then_22 : decode cX12_then 22 = .ok (.aload_n 0, 1) := by decide +kernel
theorem dX12_then_23 : decode cX12_then 23 = .ok (.iconst 1, 1) := by decide +kernel
theorem dX12_then_24 : decode cX12_then 24 = .ok (.invokevirtual 274, 3) := by decide +kernel
theorem dX12_then_27 : decode cX12_then 27 = .ok (.ireturn, 1) := by decide +kernel
theorem dX12_then_28 : decode cX12_then 28 = .ok (.iload_n 2, 1) := by decide +kernel
theorem dX12_then_29 : decode cX12_then 29 = .ok (.i2l, 1) := by decide +kernel
theorem dX12_then_30 : decode cX12_then 30 = .ok (.lconst 0, 1) := by decide +kernel
theorem dX12_then_31 : decode cX12_then 31 = .ok (.ldc2_w 406, 3) := by decide +kernel
theorem dX12_then_34 : decode cX12_then 34 = .ok (.invokestatic 145, 3) := by decide +kernel
theorem dX12_then_37 : decode cX12_then 37 = .ok (.ifCond .ne 9, 3) := by decide +kernel
theorem dX12_then_40 : decode cX12_then 40 = .ok (.aload_n 0, 1) := by decide +kernel
theorem dX12_then_41 : decode cX12_then 41 = .ok (.iconst 2, 1) := by decide +kernel
theorem dX12_then_42 : decode cX12_then 42 = .ok (.invokevirtual 274, 3) := by decide +kernel
theorem dX12_then_45 : decode cX12_then 45 = .ok (.ireturn, 1) := by decide +kernel
theorem dX12_then_46 : decode cX12_then 46 = .ok (.aload_n 0, 1) := by decide +kernel
theorem dX12_then_47 : decode cX12_then 47 = .ok (.aload_n 0, 1) := by decide +kernel
theorem dX12_then_48 : decode cX12_then 48 = .ok (.getfield 96, 3) := by decide +kernel
theorem dX12_then_51 : decode cX12_then 51 = .ok (.iconst 0, 1) := by decide +kernel
theorem dX12_then_52 : decode cX12_then 52 = .ok (.invokevirtual 372, 3) := by decide +kernel
theorem dX12_then_55 : decode cX12_then 55 = .ok (.aload_n 0, 1) := by decide +kernel
theorem dX12_then_56 : decode cX12_then 56 = .ok (.iload_n 2, 1) := by decide +kernel
theorem dX12_then_57 : decode cX12_then 57 = .ok (.invokevirtual 384, 3) := by decide +kernel
theorem dX12_then_60 : decode cX12_then 60 = .ok (.iload_n 3, 1) := by decide +kernel
theorem dX12_then_61 : decode cX12_then 61 = .ok (.ifCond .ne 12, 3) := by decide +kernel
theorem dX12_then_64 : decode cX12_then 64 = .ok (.aload_n 0, 1) := by decide +kernel
theorem dX12_then_65 : decode cX12_then 65 = .ok (.getfield 69, 3) := by decide +kernel
theorem dX12_then_68 : decode cX12_then 68 = .ok (.iload_n 1, 1) := by decide +kernel
theorem dX12_then_69 : decode cX12_then 69 = .ok (.iaload, 1) := by decide +kernel
theorem dX12_then_70 : decode cX12_then 70 = .ok (.goto 9, 3) := by decide +kernel
theorem dX12_then_73 : decode cX12_then 73 = .ok (.aload_n 0, 1) := by decide +kernel
theorem dX12_then_74 : decode cX12_then 74 = .ok (.getfield 75, 3) := by decide +kernel
theorem dX12_then_77 : decode cX12_then 77 = .ok (.iload_n 1, 1) := by decide +kernel
theorem dX12_then_78 : decode cX12_then 78 = .ok (.iaload, 1) := by decide +kernel
theorem dX12_then_79 : decode cX12_then 79 = .ok (.istore 4, 2) := by decide +kernel
theorem dX12_then_81 : decode cX12_then 81 = .ok (.aload_n 0, 1) := by decide +kernel
theorem dX12_then_82 : decode cX12_then 82 = .ok (.aload_n 0, 1) := by decide +kernel
theorem dX12_then_83 : decode cX12_then 83 = .ok (.getfield 96, 3) := by decide +kernel
theorem dX12_then_86 : decode cX12_then 86 = .ok (.iconst 0, 1) := by decide +kernel
theorem dX12_then_87 : decode cX12_then 87 = .ok (.invokevirtual 403, 3) := by decide +kernel
theorem dX12_then_90 : decode cX12_then 90 = .ok (.iload 4, 2) := by decide +kernel
theorem dX12_then_92 : decode cX12_then 92 = .ok (.ireturn, 1) := by decide +kernel
theorem dX12_first_0 : decode cX12_first 0 = .ok (.aload_n 0, 1) := by decide +kernel
theorem dX12_first_1 : decode cX12_first 1 = .ok (.iconst 0, 1) := by decide +kernel
theorem dX12_first_2 : decode cX12_first 2 = .ok (.putfield 142, 3) := by decide +kernel
theorem dX12_first_5 : decode cX12_first 5 = .ok (.aload_n 0, 1) := by decide +kernel
theorem dX12_first_6 : decode cX12_first 6 = .ok (.iload_n 1, 1) := by decide +kernel
theorem dX12_first_7 : decode cX12_first 7 = .ok (.invokevirtual 369, 3) := by decide +kernel
theorem dX12_first_10 : decode cX12_first 10 = .ok (.ifCond .ne 9, 3) := by decide +kernel
theorem dX12_first_13 : decode cX12_first 13 = .ok (.aload_n 0, 1) := by decide +kernel
theorem dX12_first_14 : decode cX12_first 14 = .ok (.iconst 1, 1) := by decide +kernel
theorem dX12_first_15 : decode cX12_first 15 = .ok (.invokevirtual 274, 3) := by decide +kernel
theorem dX12_first_18 : decode cX12_first 18 = .ok (.ireturn, 1) := by decide +kernel
theorem dX12_first_19 : decode cX12_first 19 = .ok (.aload_n 0, 1) := by decide +kernel
theorem dX12_first_20 : decode cX12_first 20 = .ok (.aload_n 0, 1) := by decide +kernel
theorem dX12_first_21 : decode cX12_first 21 = .ok (.getfield 96, 3) := by decide +kernel
theorem dX12_first_24 : decode cX12_first 24 = .ok (.iconst 0, 1) := by decide +kernel
theorem dX12_first_25 : decode cX12_first 25 = .ok (.invokevirtual 372, 3) := by decide +kernel
theorem dX12_first_28 : decode cX12_first 28 = .ok (.iconst (-1), 1) := by decide +kernel
theorem dX12_first_29 : decode cX12_first 29 = .ok (.istore_n 2, 1) := by decide +kernel
theorem dX12_first_30 : decode cX12_first 30 = .ok (.iconst 1, 1) := by decide +kernel
theorem dX12_first_31 : decode cX12_first 31 = .ok (.istore_n 3, 1) := by decide +kernel
theorem dX12_first_32 : decode cX12_first 32 = .ok (.iload_n 3, 1) := by decide +kernel
theorem dX12_first_33 : decode cX12_first 33 = .ok (.bipush 60, 2) := by decide +kernel
theorem dX12_first_35 : decode cX12_first 35 = .ok (.if_icmp .gt 31, 3) := by decide +kernel
theorem dX12_first_38 : decode cX12_first 38 = .ok (.iload_n 2, 1) := by decide +kernel
theorem dX12_first_39 : decode cX12_first 39 = .ok (.iconst (-1), 1) := by decide +kernel
theorem dX12_first_40 : decode cX12_first 40 = .ok (.if_icmp .ne 26, 3) := by decide +kernel
theorem dX12_first_43 : decode cX12_first 43 = .ok (.aload_n 0, 1) := by decide +kernel
theorem dX12_first_44 : decode cX12_first 44 = .ok (.invokevirtual 348, 3) := by decide +kernel
theorem dX12_first_47 : decode cX12_first 47 = .ok (.aload_n 0, 1) := by decide +kernel
theorem dX12_first_48 : decode cX12_first 48 = .ok (.getfield 341, 3) := by decide +kernel
theorem dX12_first_51 : decode cX12_first 51 = .ok (.iload_n 1, 1) := by decide +kernel
theorem dX12_first_52 : decode cX12_first 52 = .ok (.invokestatic 332, 3) := by decide +kernel
theorem dX12_first_55 : decode cX12_first 55 = .ok (.ifCond .eq 5, 3) := by decide +kernel
theorem dX12_first_58 : decode cX12_first 58 = .ok (.iload_n 3, 1) := by decide +kernel
theorem dX12_first_59 : decode cX12_first 59 = .ok (.istore_n 2, 1) := by decide +kernel
theorem dX12_first_60 : decode cX12_first 60 = .ok (.iinc 3 1, 3) := by decide +kernel
theorem dX12_first_63 : decode cX12_first 63 = .ok (.goto (-31), 3) := by decide +kernel
theorem dX12_first_66 : decode cX12_first 66 = .ok (.aload_n 0, 1) := by decide +kernel
theorem dX12_first_67 : decode cX12_first 67 = .ok (.aload_n 0, 1) := by decide +kernel
theorem dX12_first_68 : decode cX12_first 68 = .ok (.getfield 96, 3) := by decide +kernel
theorem dX12_first_71 : decode cX12_first 71 = .ok (.iconst 0, 1) := by decide +kernel
theorem dX12_first_72 : decode cX12_first 72 = .ok (.invokevirtual 403, 3) := by decide +kernel
theorem dX12_first_75 : decode cX12_first 75 = .ok (.iload_n 2, 1) := by decide +kernel
theorem dX12_first_76 : decode cX12_first 76 = .ok (.ireturn, 1) := by decide +kernel
theorem dX12_still_0 : decode cX12_still 0 = .ok (.aload_n 0, 1) := by decide +kernel
theorem dX12_still_1 : decode cX12_still 1 = .ok (.iconst 0, 1) := by decide +kernel
theorem dX12_still_2 : decode cX12_still 2 = .ok (.putfield 142, 3) := by decide +kernel
theorem dX12_still_5 : decode cX12_still 5 = .ok (.aload_n 0, 1) := by decide +kernel
theorem dX12_still_6 : decode cX12_still 6 = .ok (.aload_n 0, 1) := by decide +kernel
theorem dX12_still_7 : decode cX12_still 7 = .ok (.getfield 96, 3) := by decide +kernel
theorem dX12_still_10 : decode cX12_still 10 = .ok (.iconst 0, 1) := by decide +kernel
theorem dX12_still_11 : decode cX12_still 11 = .ok (.invokevirtual 372, 3) := by decide +kernel
theorem dX12_still_14 : decode cX12_still 14 = .ok (.iconst (-1), 1) := by decide +kernel
theorem dX12_still_15 : decode cX12_still 15 = .ok (.istore_n 1, 1) := by decide +kernel
theorem dX12_still_16 : decode cX12_still 16 = .ok (.iconst 0, 1) := by decide +kernel
theorem dX12_still_17 : decode cX12_still 17 = .ok (.istore_n 2, 1) := by decide +kernel
theorem dX12_still_18 : decode cX12_still 18 = .ok (.iload_n 2, 1) := by decide +kernel
theorem dX12_still_19 : decode cX12_still 19 = .ok (.bipush 60, 2) := by decide +kernel
theorem dX12_still_21 : decode cX12_still 21 = .ok (.if_icmp .gt 27, 3) := by decide +kernel
theorem dX12_still_24 : decode cX12_still 24 = .ok (.iload_n 1, 1) := by decide +kernel
theorem dX12_still_25 : decode cX12_still 25 = .ok (.iconst (-1), 1) := by decide +kernel
theorem dX12_still_26 : decode cX12_still 26 = .ok (.if_icmp .ne 22, 3) := by decide +kernel
theorem dX12_still_29 : decode cX12_still 29 = .ok (.aload_n 0, 1) := by decide +kernel
theorem dX12_still_30 : decode cX12_still 30 = .ok (.invokevirtual 357, 3) := by decide +kernel
theorem dX12_still_33 : decode cX12_still 33 = .ok (.ifCond .ne 5, 3) := by decide +kernel
theorem dX12_still_36 : decode cX12_still 36 = .ok (.iload_n 2, 1) := by decide +kernel
theorem dX12_still_37 : decode cX12_still 37 = .ok (.istore_n 1, 1) := by decide +kernel
theorem dX12_still_38 : decode cX12_still 38 = .ok (.aload_n 0, 1) := by decide +kernel
theorem dX12_still_39 : decode cX12_still 39 = .ok (.invokevirtual 348, 3) := by decide +kernel
theorem dX12_still_42 : decode cX12_still 42 = .ok (.iinc 2 1, 3) := by decide +kernel
theorem dX12_still_45 : decode cX12_still 45 = .ok (.goto (-27), 3) := by decide +kernel
theorem dX12_still_48 : decode cX12_still 48 = .ok (.aload_n 0, 1) := by decide +kernel
theorem dX12_still_49 : decode cX12_still 49 = .ok (.aload_n 0, 1) := by decide +kernel
theorem dX12_still_50 : decode cX12_still 50 = .ok (.getfield 96, 3) := by decide +kernel
theorem dX12_still_53 : decode cX12_still 53 = .ok (.iconst 0, 1) := by decide +kernel
theorem dX12_still_54 : decode cX12_still 54 = .ok (.invokevirtual 403, 3) := by decide +kernel
theorem dX12_still_57 : decode cX12_still 57 = .ok (.iload_n 1, 1) := by decide +kernel
theorem dX12_still_58 : decode cX12_still 58 = .ok (.ireturn, 1) := by decide +kernel
theorem dX12_loudest_0 : decode cX12_loudest 0 = .ok (.aload_n 0, 1) := by decide +kernel
theorem dX12_loudest_1 : decode cX12_loudest 1 = .ok (.iconst 0, 1) := by decide +kernel
theorem dX12_loudest_2 : decode cX12_loudest 2 = .ok (.putfield 142, 3) := by decide +kernel
theorem dX12_loudest_5 : decode cX12_loudest 5 = .ok (.iload_n 1, 1) := by decide +kernel
theorem dX12_loudest_6 : decode cX12_loudest 6 = .ok (.i2l, 1) := by decide +kernel
theorem dX12_loudest_7 : decode cX12_loudest 7 = .ok (.lconst 1, 1) := by decide +kernel
theorem dX12_loudest_8 : decode cX12_loudest 8 = .ok (.ldc2_w 406, 3) := by decide +kernel
theorem dX12_loudest_11 : decode cX12_loudest 11 = .ok (.invokestatic 145, 3) := by decide +kernel
theorem dX12_loudest_14 : decode cX12_loudest 14 = .ok (.ifCond .ne 9, 3) := by decide +kernel
theorem dX12_loudest_17 : decode cX12_loudest 17 = .ok (.aload_n 0, 1) := by decide +kernel
theorem dX12_loudest_18 : decode cX12_loudest 18 = .ok (.iconst 1, 1) := by decide +kernel
theorem dX12_loudest_19 : decode cX12_loudest 19 = .ok (.invokevirtual 274, 3) := by decide +kernel
theorem dX12_loudest_22 : decode cX12_loudest 22 = .ok (.ireturn, 1) := by decide +kernel
theorem dX12_loudest_23 : decode cX12_loudest 23 = .ok (.aload_n 0, 1) := by decide +kernel
theorem dX12_loudest_24 : decode cX12_loudest 24 = .ok (.aload_n 0, 1) := by decide +kernel
theorem dX12_loudest_25 : decode cX12_loudest 25 = .ok (.getfield 96, 3) := by decide +kernel
theorem dX12_loudest_28 : decode cX12_loudest 28 = .ok (.iconst 0, 1) := by decide +kernel
theorem dX12_loudest_29 : decode cX12_loudest 29 = .ok (.invokevirtual 372, 3) := by decide +kernel
theorem dX12_loudest_32 : decode cX12_loudest 32 = .ok (.iconst (-1), 1) := by decide +kernel
theorem dX12_loudest_33 : decode cX12_loudest 33 = .ok (.istore_n 2, 1) := by decide +kernel
theorem dX12_loudest_34 : decode cX12_loudest 34 = .ok (.iconst (-1), 1) := by decide +kernel
theorem dX12_loudest_35 : decode cX12_loudest 35 = .ok (.istore_n 3, 1) := by decide +kernel
theorem dX12_loudest_36 : decode cX12_loudest 36 = .ok (.iconst 1, 1) := by decide +kernel
theorem dX12_loudest_37 : decode cX12_loudest 37 = .ok (.istore 4, 2) := by decide +kernel
theorem dX12_loudest_39 : decode cX12_loudest 39 = .ok (.iload 4, 2) := by decide +kernel
theorem dX12_loudest_41 : decode cX12_loudest 41 = .ok (.iload_n 1, 1) := by decide +kernel
theorem dX12_loudest_42 : decode cX12_loudest 42 = .ok (.if_icmp .gt 38, 3) := by decide +kernel
theorem dX12_loudest_45 : decode cX12_loudest 45 = .ok (.aload_n 0, 1) := by decide +kernel
theorem dX12_loudest_46 : decode cX12_loudest 46 = .ok (.invokevirtual 348, 3) := by decide +kernel
theorem dX12_loudest_49 : decode cX12_loudest 49 = .ok (.aload_n 0, 1) := by decide +kernel
theorem dX12_loudest_50 : decode cX12_loudest 50 = .ok (.getfield 341, 3) := by decide +kernel
theorem dX12_loudest_53 : decode cX12_loudest 53 = .ok (.invokestatic 335, 3) := by decide +kernel
theorem dX12_loudest_56 : decode cX12_loudest 56 = .ok (.iload_n 3, 1) := by decide +kernel
theorem dX12_loudest_57 : decode cX12_loudest 57 = .ok (.if_icmp .gt 6, 3) := by decide +kernel
theorem dX12_loudest_60 : decode cX12_loudest 60 = .ok (.goto 14, 3) := by decide +kernel
theorem dX12_loudest_63 : decode cX12_loudest 63 = .ok (.iload 4, 2) := by decide +kernel
theorem dX12_loudest_65 : decode cX12_loudest 65 = .ok (.istore_n 2, 1) := by decide +kernel
theorem dX12_loudest_66 : decode cX12_loudest 66 = .ok (.aload_n 0, 1) := by decide +kernel
theorem dX12_loudest_67 : decode cX12_loudest 67 = .ok (.getfield 341, 3) := by decide +kernel
theorem dX12_loudest_70 : decode cX12_loudest 70 = .ok (.invokestatic 335, 3) := by decide +kernel
theorem dX12_loudest_73 : decode cX12_loudest 73 = .ok (.istore_n 3, 1) := by decide +kernel
theorem dX12_loudest_74 : decode cX12_loudest 74 = .ok (.iinc 4 1, 3) := by decide +kernel
theorem dX12_loudest_77 : decode cX12_loudest 77 = .ok (.goto (-38), 3) := by decide +kernel
theorem dX12_loudest_80 : decode cX12_loudest 80 = .ok (.aload_n 0, 1) := by decide +kernel
theorem dX12_loudest_81 : decode cX12_loudest 81 = .ok (.aload_n 0, 1) := by decide +kernel
theorem dX12_loudest_82 : decode cX12_loudest 82 = .ok (.getfield 96, 3) := by decide +kernel
theorem dX12_loudest_85 : decode cX12_loudest 85 = .ok (.iconst 0, 1) := by decide +kernel
theorem dX12_loudest_86 : decode cX12_loudest 86 = .ok (.invokevirtual 403, 3) := by decide +kernel
theorem dX12_loudest_89 : decode cX12_loudest 89 = .ok (.iload_n 2, 1) := by decide +kernel
theorem dX12_loudest_90 : decode cX12_loudest 90 = .ok (.ireturn, 1) := by decide +kernel
theorem dX12_oftenest_0 : decode cX12_oftenest 0 = .ok (.aload_n 0, 1) := by decide +kernel
theorem dX12_oftenest_1 : decode cX12_oftenest 1 = .ok (.iconst 0, 1) := by decide +kernel
theorem dX12_oftenest_2 : decode cX12_oftenest 2 = .ok (.putfield 142, 3) := by decide +kernel
theorem dX12_oftenest_5 : decode cX12_oftenest 5 = .ok (.iload_n 1, 1) := by decide +kernel
theorem dX12_oftenest_6 : decode cX12_oftenest 6 = .ok (.i2l, 1) := by decide +kernel
theorem dX12_oftenest_7 : decode cX12_oftenest 7 = .ok (.lconst 1, 1) := by decide +kernel
theorem dX12_oftenest_8 : decode cX12_oftenest 8 = .ok (.ldc2_w 406, 3) := by decide +kernel
theorem dX12_oftenest_11 : decode cX12_oftenest 11 = .ok (.invokestatic 145, 3) := by decide +kernel
theorem dX12_oftenest_14 : decode cX12_oftenest 14 = .ok (.ifCond .ne 9, 3) := by decide +kernel
theorem dX12_oftenest_17 : decode cX12_oftenest 17 = .ok (.aload_n 0, 1) := by decide +kernel
theorem dX12_oftenest_18 : decode cX12_oftenest 18 = .ok (.iconst 1, 1) := by decide +kernel
theorem dX12_oftenest_19 : decode cX12_oftenest 19 = .ok (.invokevirtual 274, 3) := by decide +kernel
theorem dX12_oftenest_22 : decode cX12_oftenest 22 = .ok (.ireturn, 1) := by decide +kernel
theorem dX12_oftenest_23 : decode cX12_oftenest 23 = .ok (.iconst 0, 1) := by decide +kernel
theorem dX12_oftenest_24 : decode cX12_oftenest 24 = .ok (.istore_n 2, 1) := by decide +kernel
theorem dX12_oftenest_25 : decode cX12_oftenest 25 = .ok (.iload_n 2, 1) := by decide +kernel
theorem dX12_oftenest_26 : decode cX12_oftenest 26 = .ok (.bipush 9, 2) := by decide +kernel
theorem dX12_oftenest_28 : decode cX12_oftenest 28 = .ok (.if_icmp .ge 16, 3) := by decide +kernel
theorem dX12_oftenest_31 : decode cX12_oftenest 31 = .ok (.aload_n 0, 1) := by decide +kernel
theorem dX12_oftenest_32 : decode cX12_oftenest 32 = .ok (.getfield 99, 3) := by decide +kernel
theorem dX12_oftenest_35 : decode cX12_oftenest 35 = .ok (.iload_n 2, 1) := by decide +kernel
theorem dX12_oftenest_36 : decode cX12_oftenest 36 = .ok (.iconst 0, 1) := by decide +kernel
theorem dX12_oftenest_37 : decode cX12_oftenest 37 = .ok (.iastore, 1) := by decide +kernel
theorem dX12_oftenest_38 : decode cX12_oftenest 38 = .ok (.iinc 2 1, 3) := by decide +kernel
theorem dX12_oftenest_41 : decode cX12_oftenest 41 = .ok (.goto (-16), 3) := by decide +kernel
theorem dX12_oftenest_44 : decode cX12_oftenest 44 = .ok (.aload_n 0, 1) := by decide +kernel
theorem dX12_oftenest_45 : decode cX12_oftenest 45 = .ok (.aload_n 0, 1) := by decide +kernel
theorem dX12_oftenest_46 : decode cX12_oftenest 46 = .ok (.getfield 96, 3) := by decide +kernel
theorem dX12_oftenest_49 : decode cX12_oftenest 49 = .ok (.iconst 0, 1) := by decide +kernel
theorem dX12_oftenest_50 : decode cX12_oftenest 50 = .ok (.invokevirtual 372, 3) := by decide +kernel
theorem dX12_oftenest_53 : decode cX12_oftenest 53 = .ok (.iconst 0, 1) := by decide +kernel
theorem dX12_oftenest_54 : decode cX12_oftenest 54 = .ok (.istore_n 2, 1) := by decide +kernel
theorem dX12_oftenest_55 : decode cX12_oftenest 55 = .ok (.iload_n 2, 1) := by decide +kernel
theorem dX12_oftenest_56 : decode cX12_oftenest 56 = .ok (.iload_n 1, 1) := by decide +kernel
theorem dX12_oftenest_57 : decode cX12_oftenest 57 = .ok (.if_icmp .ge 48, 3) := by decide +kernel
theorem dX12_oftenest_60 : decode cX12_oftenest 60 = .ok (.aload_n 0, 1) := by decide +kernel
theorem dX12_oftenest_61 : decode cX12_oftenest 61 = .ok (.invokevirtual 348, 3) := by decide +kernel
theorem dX12_oftenest_64 : decode cX12_oftenest 64 = .ok (.iconst 0, 1) := by decide +kernel
theorem dX12_oftenest_65 : decode cX12_oftenest 65 = .ok (.istore_n 3, 1) := by decide +kernel
theorem dX12_oftenest_66 : decode cX12_oftenest 66 = .ok (.iload_n 3, 1) := by decide +kernel
theorem dX12_oftenest_67 : decode cX12_oftenest 67 = .ok (.aload_n 0, 1) := by decide +kernel
theorem dX12_oftenest_68 : decode cX12_oftenest 68 = .ok (.getfield 34, 3) := by decide +kernel
theorem dX12_oftenest_71 : decode cX12_oftenest 71 = .ok (.iconst 0, 1) := by decide +kernel
theorem dX12_oftenest_72 : decode cX12_oftenest 72 = .ok (.iaload, 1) := by decide +kernel
theorem dX12_oftenest_73 : decode cX12_oftenest 73 = .ok (.if_icmp .ge 26, 3) := by decide +kernel
theorem dX12_oftenest_76 : decode cX12_oftenest 76 = .ok (.aload_n 0, 1) := by decide +kernel
theorem dX12_oftenest_77 : decode cX12_oftenest 77 = .ok (.getfield 99, 3) := by decide +kernel
theorem dX12_oftenest_80 : decode cX12_oftenest 80 = .ok (.iload_n 3, 1) := by decide +kernel
theorem dX12_oftenest_81 : decode cX12_oftenest 81 = .ok (.dup2, 1) := by decide +kernel
theorem dX12_oftenest_82 : decode cX12_oftenest 82 = .ok (.iaload, 1) := by decide +kernel
theorem dX12_oftenest_83 : decode cX12_oftenest 83 = .ok (.aload_n 0, 1) := by decide +kernel
theorem dX12_oftenest_84 : decode cX12_oftenest 84 = .ok (.getfield 341, 3) := by decide +kernel
theorem dX12_oftenest_87 : decode cX12_oftenest 87 = .ok (.iload_n 3, 1) := by decide +kernel
theorem dX12_oftenest_88 : decode cX12_oftenest 88 = .ok (.ishr, 1) := by decide +kernel
theorem dX12_oftenest_89 : decode cX12_oftenest 89 = .ok (.iconst 1, 1) := by decide +kernel
theorem dX12_oftenest_90 : decode cX12_oftenest 90 = .ok (.iand, 1) := by decide +kernel
theorem dX12_oftenest_91 : decode cX12_oftenest 91 = .ok (.iadd, 1) := by decide +kernel
theorem dX12_oftenest_92 : decode cX12_oftenest 92 = .ok (.iastore, 1) := by decide +kernel
theorem dX12_oftenest_93 : decode cX12_oftenest 93 = .ok (.iinc 3 1, 3) := by decide +kernel
theorem dX12_oftenest_96 : decode cX12_oftenest 96 = .ok (.goto (-30), 3) := by decide +kernel
theorem dX12_oftenest_99 : decode cX12_oftenest 99 = .ok (.iinc 2 1, 3) := by decide +kernel
theorem dX12_oftenest_102 : decode cX12_oftenest 102 = .ok (.goto (-47), 3) := by decide +kernel
theorem dX12_oftenest_105 : decode cX12_oftenest 105 = .ok (.aload_n 0, 1) := by decide +kernel
theorem dX12_oftenest_106 : decode cX12_oftenest 106 = .ok (.aload_n 0, 1) := by decide +kernel
theorem dX12_oftenest_107 : decode cX12_oftenest 107 = .ok (.getfield 96, 3) := by decide +kernel
theorem dX12_oftenest_110 : decode cX12_oftenest 110 = .ok (.iconst 0, 1) := by decide +kernel
theorem dX12_oftenest_111 : decode cX12_oftenest 111 = .ok (.invokevirtual 403, 3) := by decide +kernel
theorem dX12_oftenest_114 : decode cX12_oftenest 114 = .ok (.iconst (-1), 1) := by decide +kernel
theorem dX12_oftenest_115 : decode cX12_oftenest 115 = .ok (.istore_n 2, 1) := by decide +kernel
theorem dX12_oftenest_116 : decode cX12_oftenest 116 = .ok (.iconst 0, 1) := by decide +kernel
theorem dX12_oftenest_117 : decode cX12_oftenest 117 = .ok (.istore_n 3, 1) := by decide +kernel
theorem dX12_oftenest_118 : decode cX12_oftenest 118 = .ok (.iload_n 3, 1) := by decide +kernel
theorem dX12_oftenest_119 : decode cX12_oftenest 119 = .ok (.aload_n 0, 1) := by decide +kernel
theorem dX12_oftenest_120 : decode cX12_oftenest 120 = .ok (.getfield 34, 3) := by decide +kernel
theorem dX12_oftenest_123 : decode cX12_oftenest 123 = .ok (.iconst 0, 1) := by decide +kernel
theorem dX12_oftenest_124 : decode cX12_oftenest 124 = .ok (.iaload, 1) := by decide +kernel
theorem dX12_oftenest_125 : decode cX12_oftenest 125 = .ok (.if_icmp .ge 31, 3) := by decide +kernel
theorem dX12_oftenest_128 : decode cX12_oftenest 128 = .ok (.iload_n 2, 1) := by decide +kernel
theorem dX12_oftenest_129 : decode cX12_oftenest 129 = .ok (.iconst (-1), 1) := by decide +kernel
theorem dX12_oftenest_130 : decode cX12_oftenest 130 = .ok (.if_icmp .eq 18, 3) := by decide +kernel
theorem dX12_oftenest_133 : decode cX12_oftenest 133 = .ok (.aload_n 0, 1) := by decide +kernel
theorem dX12_oftenest_134 : decode cX12_oftenest 134 = .ok (.getfield 99, 3) := by decide +kernel
theorem dX12_oftenest_137 : decode cX12_oftenest 137 = .ok (.iload_n 3, 1) := by decide +kernel
theorem dX12_oftenest_138 : decode cX12_oftenest 138 = .ok (.iaload, 1) := by decide +kernel
theorem dX12_oftenest_139 : decode cX12_oftenest 139 = .ok (.aload_n 0, 1) := by decide +kernel
theorem dX12_oftenest_140 : decode cX12_oftenest 140 = .ok (.getfield 99, 3) := by decide +kernel
theorem dX12_oftenest_143 : decode cX12_oftenest 143 = .ok (.iload_n 2, 1) := by decide +kernel
theorem dX12_oftenest_144 : decode cX12_oftenest 144 = .ok (.iaload, 1) := by decide +kernel
theorem dX12_oftenest_145 : decode cX12_oftenest 145 = .ok (.if_icmp .le 5, 3) := by decide +kernel
theorem dX12_oftenest_148 : decode cX12_oftenest 148 = .ok (.iload_n 3, 1) := by decide +kernel
theorem dX12_oftenest_149 : decode cX12_oftenest 149 = .ok (.istore_n 2, 1) := by decide +kernel
theorem dX12_oftenest_150 : decode cX12_oftenest 150 = .ok (.iinc 3 1, 3) := by decide +kernel
theorem dX12_oftenest_153 : decode cX12_oftenest 153 = .ok (.goto (-35), 3) := by decide +kernel
theorem dX12_oftenest_156 : decode cX12_oftenest 156 = .ok (.iload_n 2, 1) := by decide +kernel
theorem dX12_oftenest_157 : decode cX12_oftenest 157 = .ok (.ireturn, 1) := by decide +kernel
theorem dX12_reachedBy_0 : decode cX12_reachedBy 0 = .ok (.aload_n 0, 1) := by decide +kernel
theorem dX12_reachedBy_1 : decode cX12_reachedBy 1 = .ok (.aload_n 0, 1) := by decide +kernel
theorem dX12_reachedBy_2 : decode cX12_reachedBy 2 = .ok (.getfield 102, 3) := by decide +kernel
theorem dX12_reachedBy_5 : decode cX12_reachedBy 5 = .ok (.iconst 0, 1) := by decide +kernel
theorem dX12_reachedBy_6 : decode cX12_reachedBy 6 = .ok (.invokevirtual 372, 3) := by decide +kernel
theorem dX12_reachedBy_9 : decode cX12_reachedBy 9 = .ok (.aload_n 0, 1) := by decide +kernel
theorem dX12_reachedBy_10 : decode cX12_reachedBy 10 = .ok (.invokevirtual 400, 3) := by decide +kernel
theorem dX12_reachedBy_13 : decode cX12_reachedBy 13 = .ok (.iconst 0, 1) := by decide +kernel
theorem dX12_reachedBy_14 : decode cX12_reachedBy 14 = .ok (.istore_n 3, 1) := by decide +kernel
theorem dX12_reachedBy_15 : decode cX12_reachedBy 15 = .ok (.iload_n 3, 1) := by decide +kernel
theorem dX12_reachedBy_16 : decode cX12_reachedBy 16 = .ok (.aload_n 0, 1) := by decide +kernel
theorem dX12_reachedBy_17 : decode cX12_reachedBy 17 = .ok (.getfield 34, 3) := by decide +kernel
theorem dX12_reachedBy_20 : decode cX12_reachedBy 20 = .ok (.iconst 0, 1) := by decide +kernel
theorem dX12_reachedBy_21 : decode cX12_reachedBy 21 = .ok (.iaload, 1) := by decide +kernel
theorem dX12_reachedBy_22 : decode cX12_reachedBy 22 = .ok (.if_icmp .ge 38, 3) := by decide +kernel
theorem dX12_reachedBy_25 : decode cX12_reachedBy 25 = .ok (.aload_n 0, 1) := by decide +kernel
theorem dX12_reachedBy_26 : decode cX12_reachedBy 26 = .ok (.getfield 72, 3) := by decide +kernel
theorem dX12_reachedBy_29 : decode cX12_reachedBy 29 = .ok (.iload_n 3, 1) := by decide +kernel
theorem dX12_reachedBy_30 : decode cX12_reachedBy 30 = .ok (.iconst 0, 1) := by decide +kernel
theorem dX12_reachedBy_31 : decode cX12_reachedBy 31 = .ok (.iastore, 1) := by decide +kernel
theorem dX12_reachedBy_32 : decode cX12_reachedBy 32 = .ok (.iload_n 1, 1) := by decide +kernel
theorem dX12_reachedBy_33 : decode cX12_reachedBy 33 = .ok (.aload_n 0, 1) := by decide +kernel
theorem dX12_reachedBy_34 : decode cX12_reachedBy 34 = .ok (.getfield 290, 3) := by decide +kernel
theorem dX12_reachedBy_37 : decode cX12_reachedBy 37 = .ok (.iconst (-1), 1) := by decide +kernel
theorem dX12_reachedBy_38 : decode cX12_reachedBy 38 = .ok (.ixor, 1) := by decide +kernel
theorem dX12_reachedBy_39 : decode cX12_reachedBy 39 = .ok (.iand, 1) := by decide +kernel
theorem dX12_reachedBy_40 : decode cX12_reachedBy 40 = .ok (.iload_n 3, 1) := by decide +kernel
theorem dX12_reachedBy_41 : decode cX12_reachedBy 41 = .ok (.invokestatic 332, 3) := by decide +kernel
theorem dX12_reachedBy_44 : decode cX12_reachedBy 44 = .ok (.ifCond .eq 10, 3) := by decide +kernel
theorem dX12_reachedBy_47 : decode cX12_reachedBy 47 = .ok (.aload_n 0, 1) := by decide +kernel
theorem dX12_reachedBy_48 : decode cX12_reachedBy 48 = .ok (.getfield 69, 3) := by decide +kernel
theorem dX12_reachedBy_51 : decode cX12_reachedBy 51 = .ok (.iload_n 3, 1) := by decide +kernel
theorem dX12_reachedBy_52 : decode cX12_reachedBy 52 = .ok (.iconst 1, 1) := by decide +kernel
theorem dX12_reachedBy_53 : decode cX12_reachedBy 53 = .ok (.iastore, 1) := by decide +kernel
theorem dX12_reachedBy_54 : decode cX12_reachedBy 54 = .ok (.iinc 3 1, 3) := by decide +kernel
theorem dX12_reachedBy_57 : decode cX12_reachedBy 57 = .ok (.goto (-42), 3) := by decide +kernel
theorem dX12_reachedBy_60 : decode cX12_reachedBy 60 = .ok (.iconst 0, 1) := by decide +kernel
theorem dX12_reachedBy_61 : decode cX12_reachedBy 61 = .ok (.istore_n 3, 1) := by decide +kernel
theorem dX12_reachedBy_62 : decode cX12_reachedBy 62 = .ok (.iconst 0, 1) := by decide +kernel
theorem dX12_reachedBy_63 : decode cX12_reachedBy 63 = .ok (.istore 4, 2) := by decide +kernel
theorem dX12_reachedBy_65 : decode cX12_reachedBy 65 = .ok (.iload 4, 2) := by decide +kernel
theorem dX12_reachedBy_67 : decode cX12_reachedBy 67 = .ok (.iload_n 2, 1) := by decide +kernel
theorem dX12_reachedBy_68 : decode cX12_reachedBy 68 = .ok (.if_icmp .ge 20, 3) := by decide +kernel
theorem dX12_reachedBy_71 : decode cX12_reachedBy 71 = .ok (.aload_n 0, 1) := by decide +kernel
theorem dX12_reachedBy_72 : decode cX12_reachedBy 72 = .ok (.invokevirtual 348, 3) := by decide +kernel
theorem dX12_reachedBy_75 : decode cX12_reachedBy 75 = .ok (.iload_n 3, 1) := by decide +kernel
theorem dX12_reachedBy_76 : decode cX12_reachedBy 76 = .ok (.aload_n 0, 1) := by decide +kernel
theorem dX12_reachedBy_77 : decode cX12_reachedBy 77 = .ok (.getfield 341, 3) := by decide +kernel
theorem dX12_reachedBy_80 : decode cX12_reachedBy 80 = .ok (.ior, 1) := by decide +kernel
theorem dX12_reachedBy_81 : decode cX12_reachedBy 81 = .ok (.istore_n 3, 1) := by decide +kernel
theorem dX12_reachedBy_82 : decode cX12_reachedBy 82 = .ok (.iinc 4 1, 3) := by decide +kernel
theorem dX12_reachedBy_85 : decode cX12_reachedBy 85 = .ok (.goto (-20), 3) := by decide +kernel
theorem dX12_reachedBy_88 : decode cX12_reachedBy 88 = .ok (.aload_n 0, 1) := by decide +kernel
theorem dX12_reachedBy_89 : decode cX12_reachedBy 89 = .ok (.aload_n 0, 1) := by decide +kernel
theorem dX12_reachedBy_90 : decode cX12_reachedBy 90 = .ok (.getfield 102, 3) := by decide +kernel
theorem dX12_reachedBy_93 : decode cX12_reachedBy 93 = .ok (.iconst 0, 1) := by decide +kernel
theorem dX12_reachedBy_94 : decode cX12_reachedBy 94 = .ok (.invokevirtual 403, 3) := by decide +kernel
theorem dX12_reachedBy_97 : decode cX12_reachedBy 97 = .ok (.iload_n 3, 1) := by decide +kernel
theorem dX12_reachedBy_98 : decode cX12_reachedBy 98 = .ok (.ireturn, 1) := by decide +kernel
theorem dX12_reachesIn_0 : decode cX12_reachesIn 0 = .ok (.aload_n 0, 1) := by decide +kernel
theorem dX12_reachesIn_1 : decode cX12_reachesIn 1 = .ok (.iconst 1, 1) := by decide +kernel
theorem dX12_reachesIn_2 : decode cX12_reachesIn 2 = .ok (.iload_n 1, 1) := by decide +kernel
theorem dX12_reachesIn_3 : decode cX12_reachesIn 3 = .ok (.ishl, 1) := by decide +kernel
theorem dX12_reachesIn_4 : decode cX12_reachesIn 4 = .ok (.iload_n 3, 1) := by decide +kernel
theorem dX12_reachesIn_5 : decode cX12_reachesIn 5 = .ok (.invokevirtual 408, 3) := by decide +kernel
theorem dX12_reachesIn_8 : decode cX12_reachesIn 8 = .ok (.iload_n 2, 1) := by decide +kernel
theorem dX12_reachesIn_9 : decode cX12_reachesIn 9 = .ok (.invokestatic 332, 3) := by decide +kernel
theorem dX12_reachesIn_12 : decode cX12_reachesIn 12 = .ok (.ireturn, 1) := by decide +kernel
theorem dX12_reaches_0 : decode cX12_reaches 0 = .ok (.aload_n 0, 1) := by decide +kernel
theorem dX12_reaches_1 : decode cX12_reaches 1 = .ok (.iconst 0, 1) := by decide +kernel
theorem dX12_reaches_2 : decode cX12_reaches 2 = .ok (.putfield 142, 3) := by decide +kernel
theorem dX12_reaches_5 : decode cX12_reaches 5 = .ok (.aload_n 0, 1) := by decide +kernel
theorem dX12_reaches_6 : decode cX12_reaches 6 = .ok (.iload_n 1, 1) := by decide +kernel
theorem dX12_reaches_7 : decode cX12_reaches 7 = .ok (.invokevirtual 369, 3) := by decide +kernel
theorem dX12_reaches_10 : decode cX12_reaches 10 = .ok (.ifCond .eq 11, 3) := by decide +kernel
theorem dX12_reaches_13 : decode cX12_reaches 13 = .ok (.aload_n 0, 1) := by decide +kernel
theorem dX12_reaches_14 : decode cX12_reaches 14 = .ok (.iload_n 2, 1) := by decide +kernel
theorem dX12_reaches_15 : decode cX12_reaches 15 = .ok (.invokevirtual 369, 3) := by decide +kernel
theorem dX12_reaches_18 : decode cX12_reaches 18 = .ok (.ifCond .ne 9, 3) := by decide +kernel
theorem dX12_reaches_21 : decode cX12_reaches 21 = .ok (.aload_n 0, 1) := by decide +kernel
theorem dX12_reaches_22 : decode cX12_reaches 22 = .ok (.iconst 1, 1) := by decide +kernel
theorem dX12_reaches_23 : decode cX12_reaches 23 = .ok (.invokevirtual 274, 3) := by decide +kernel
theorem dX12_reaches_26 : decode cX12_reaches 26 = .ok (.ireturn, 1) := by decide +kernel
theorem dX12_reaches_27 : decode cX12_reaches 27 = .ok (.aload_n 0, 1) := by decide +kernel
theorem dX12_reaches_28 : decode cX12_reaches 28 = .ok (.iload_n 1, 1) := by decide +kernel
theorem dX12_reaches_29 : decode cX12_reaches 29 = .ok (.iload_n 2, 1) := by decide +kernel
theorem dX12_reaches_30 : decode cX12_reaches 30 = .ok (.bipush 60, 2) := by decide +kernel
theorem dX12_reaches_32 : decode cX12_reaches 32 = .ok (.invokevirtual 411, 3) := by decide +kernel
theorem dX12_reaches_35 : decode cX12_reaches 35 = .ok (.ifCond .ne 5, 3) := by decide +kernel
theorem dX12_reaches_38 : decode cX12_reaches 38 = .ok (.iconst (-1), 1) := by decide +kernel
theorem dX12_reaches_39 : decode cX12_reaches 39 = .ok (.ireturn, 1) := by decide +kernel
theorem dX12_reaches_40 : decode cX12_reaches 40 = .ok (.iconst 1, 1) := by decide +kernel
theorem dX12_reaches_41 : decode cX12_reaches 41 = .ok (.istore_n 3, 1) := by decide +kernel
theorem dX12_reaches_42 : decode cX12_reaches 42 = .ok (.bipush 60, 2) := by decide +kernel
theorem dX12_reaches_44 : decode cX12_reaches 44 = .ok (.istore 4, 2) := by decide +kernel
theorem dX12_reaches_46 : decode cX12_reaches 46 = .ok (.iload_n 3, 1) := by decide +kernel
theorem dX12_reaches_47 : decode cX12_reaches 47 = .ok (.iload 4, 2) := by decide +kernel
theorem dX12_reaches_49 : decode cX12_reaches 49 = .ok (.if_icmp .ge 37, 3) := by decide +kernel
theorem dX12_reaches_52 : decode cX12_reaches 52 = .ok (.iload_n 3, 1) := by decide +kernel
theorem dX12_reaches_53 : decode cX12_reaches 53 = .ok (.iload 4, 2) := by decide +kernel
theorem dX12_reaches_55 : decode cX12_reaches 55 = .ok (.iadd, 1) := by decide +kernel
theorem dX12_reaches_56 : decode cX12_reaches 56 = .ok (.iconst 2, 1) := by decide +kernel
theorem dX12_reaches_57 : decode cX12_reaches 57 = .ok (.idiv, 1) := by decide +kernel
theorem dX12_reaches_58 : decode cX12_reaches 58 = .ok (.istore 5, 2) := by decide +kernel
theorem dX12_reaches_60 : decode cX12_reaches 60 = .ok (.aload_n 0, 1) := by decide +kernel
theorem dX12_reaches_61 : decode cX12_reaches 61 = .ok (.iload_n 1, 1) := by decide +kernel
theorem dX12_reaches_62 : decode cX12_reaches 62 = .ok (.iload_n 2, 1) := by decide +kernel
theorem dX12_reaches_63 : decode cX12_reaches 63 = .ok (.iload 5, 2) := by decide +kernel
theorem dX12_reaches_65 : decode cX12_reaches 65 = .ok (.invokevirtual 411, 3) := by decide +kernel
theorem dX12_reaches_68 : decode cX12_reaches 68 = .ok (.ifCond .eq 10, 3) := by decide +kernel
theorem dX12_reaches_71 : decode cX12_reaches 71 = .ok (.iload 5, 2) := by decide +kernel
theorem dX12_reaches_73 : decode cX12_reaches 73 = .ok (.istore 4, 2) := by decide +kernel
theorem dX12_reaches_75 : decode cX12_reaches 75 = .ok (.goto 8, 3) := by decide +kernel
theorem dX12_reaches_78 : decode cX12_reaches 78 = .ok (.iload 5, 2) := by decide +kernel
theorem dX12_reaches_80 : decode cX12_reaches 80 = .ok (.iconst 1, 1) := by decide +kernel
theorem dX12_reaches_81 : decode cX12_reaches 81 = .ok (.iadd, 1) := by decide +kernel
theorem dX12_reaches_82 : decode cX12_reaches 82 = .ok (.istore_n 3, 1) := by decide +kernel
theorem dX12_reaches_83 : decode cX12_reaches 83 = .ok (.goto (-37), 3) := by decide +kernel
theorem dX12_reaches_86 : decode cX12_reaches 86 = .ok (.iload_n 3, 1) := by decide +kernel
theorem dX12_reaches_87 : decode cX12_reaches 87 = .ok (.ireturn, 1) := by decide +kernel
theorem dX12_reached_0 : decode cX12_reached 0 = .ok (.aload_n 0, 1) := by decide +kernel
theorem dX12_reached_1 : decode cX12_reached 1 = .ok (.iconst 0, 1) := by decide +kernel
theorem dX12_reached_2 : decode cX12_reached 2 = .ok (.putfield 142, 3) := by decide +kernel
theorem dX12_reached_5 : decode cX12_reached 5 = .ok (.aload_n 0, 1) := by decide +kernel
theorem dX12_reached_6 : decode cX12_reached 6 = .ok (.iload_n 1, 1) := by decide +kernel
theorem dX12_reached_7 : decode cX12_reached 7 = .ok (.invokevirtual 369, 3) := by decide +kernel
theorem dX12_reached_10 : decode cX12_reached 10 = .ok (.ifCond .ne 9, 3) := by decide +kernel
theorem dX12_reached_13 : decode cX12_reached 13 = .ok (.aload_n 0, 1) := by decide +kernel
theorem dX12_reached_14 : decode cX12_reached 14 = .ok (.iconst 1, 1) := by decide +kernel
theorem dX12_reached_15 : decode cX12_reached 15 = .ok (.invokevirtual 274, 3) := by decide +kernel
theorem dX12_reached_18 : decode cX12_reached 18 = .ok (.ireturn, 1) := by decide +kernel
theorem dX12_reached_19 : decode cX12_reached 19 = .ok (.iload_n 2, 1) := by decide +kernel
theorem dX12_reached_20 : decode cX12_reached 20 = .ok (.i2l, 1) := by decide +kernel
theorem dX12_reached_21 : decode cX12_reached 21 = .ok (.lconst 0, 1) := by decide +kernel
theorem dX12_reached_22 : decode cX12_reached 22 = .ok (.ldc2_w 406, 3) := by decide +kernel
theorem dX12_reached_25 : decode cX12_reached 25 = .ok (.invokestatic 145, 3) := by decide +kernel
theorem dX12_reached_28 : decode cX12_reached 28 = .ok (.ifCond .eq 14, 3) := by decide +kernel
theorem dX12_reached_31 : decode cX12_reached 31 = .ok (.aload_n 0, 1) := by decide +kernel
theorem dX12_reached_32 : decode cX12_reached 32 = .ok (.iconst 1, 1) := by decide +kernel
theorem dX12_reached_33 : decode cX12_reached 33 = .ok (.iload_n 1, 1) := by decide +kernel
theorem dX12_reached_34 : decode cX12_reached 34 = .ok (.ishl, 1) := by decide +kernel
theorem dX12_reached_35 : decode cX12_reached 35 = .ok (.iload_n 2, 1) := by decide +kernel
theorem dX12_reached_36 : decode cX12_reached 36 = .ok (.invokevirtual 408, 3) := by decide +kernel
theorem dX12_reached_39 : decode cX12_reached 39 = .ok (.goto 8, 3) := by decide +kernel
theorem dX12_reached_42 : decode cX12_reached 42 = .ok (.aload_n 0, 1) := by decide +kernel
theorem dX12_reached_43 : decode cX12_reached 43 = .ok (.iconst 2, 1) := by decide +kernel
theorem dX12_reached_44 : decode cX12_reached 44 = .ok (.invokevirtual 274, 3) := by decide +kernel
theorem dX12_reached_47 : decode cX12_reached 47 = .ok (.ireturn, 1) := by decide +kernel
theorem dX12_through_0 : decode cX12_through 0 = .ok (.aload_n 0, 1) := by decide +kernel
theorem dX12_through_1 : decode cX12_through 1 = .ok (.iconst 0, 1) := by decide +kernel
theorem dX12_through_2 : decode cX12_through 2 = .ok (.putfield 142, 3) := by decide +kernel
theorem dX12_through_5 : decode cX12_through 5 = .ok (.aload_n 0, 1) := by decide +kernel
theorem dX12_through_6 : decode cX12_through 6 = .ok (.iload_n 1, 1) := by decide +kernel
theorem dX12_through_7 : decode cX12_through 7 = .ok (.invokevirtual 369, 3) := by decide +kernel
theorem dX12_through_10 : decode cX12_through 10 = .ok (.ifCond .eq 11, 3) := by decide +kernel
theorem dX12_through_13 : decode cX12_through 13 = .ok (.aload_n 0, 1) := by decide +kernel
theorem dX12_through_14 : decode cX12_through 14 = .ok (.iload_n 2, 1) := by decide +kernel
theorem dX12_through_15 : decode cX12_through 15 = .ok (.invokevirtual 369, 3) := by decide +kernel
theorem dX12_through_18 : decode cX12_through 18 = .ok (.ifCond .ne 9, 3) := by decide +kernel
theorem dX12_through_21 : decode cX12_through 21 = .ok (.aload_n 0, 1) := by decide +kernel
theorem dX12_through_22 : decode cX12_through 22 = .ok (.iconst 1, 1) := by decide +kernel
theorem dX12_through_23 : decode cX12_through 23 = .ok (.invokevirtual 274, 3) := by decide +kernel
theorem dX12_through_26 : decode cX12_through 26 = .ok (.ireturn, 1) := by decide +kernel
theorem dX12_through_27 : decode cX12_through 27 = .ok (.aload_n 0, 1) := by decide +kernel
theorem dX12_through_28 : decode cX12_through 28 = .ok (.iload_n 1, 1) := by decide +kernel
theorem dX12_through_29 : decode cX12_through 29 = .ok (.iload_n 2, 1) := by decide +kernel
theorem dX12_through_30 : decode cX12_through 30 = .ok (.bipush 60, 2) := by decide +kernel
theorem dX12_through_32 : decode cX12_through 32 = .ok (.invokevirtual 411, 3) := by decide +kernel
theorem dX12_through_35 : decode cX12_through 35 = .ok (.ifCond .ne 5, 3) := by decide +kernel
theorem dX12_through_38 : decode cX12_through 38 = .ok (.iconst 0, 1) := by decide +kernel
theorem dX12_through_39 : decode cX12_through 39 = .ok (.ireturn, 1) := by decide +kernel
theorem dX12_through_40 : decode cX12_through 40 = .ok (.aload_n 0, 1) := by decide +kernel
theorem dX12_through_41 : decode cX12_through 41 = .ok (.getfield 290, 3) := by decide +kernel
theorem dX12_through_44 : decode cX12_through 44 = .ok (.istore_n 3, 1) := by decide +kernel
theorem dX12_through_45 : decode cX12_through 45 = .ok (.iconst 0, 1) := by decide +kernel
theorem dX12_through_46 : decode cX12_through 46 = .ok (.istore 4, 2) := by decide +kernel
theorem dX12_through_48 : decode cX12_through 48 = .ok (.iconst 0, 1) := by decide +kernel
theorem dX12_through_49 : decode cX12_through 49 = .ok (.istore 5, 2) := by decide +kernel
theorem dX12_through_51 : decode cX12_through 51 = .ok (.iload 5, 2) := by decide +kernel
theorem dX12_through_53 : decode cX12_through 53 = .ok (.aload_n 0, 1) := by decide +kernel
theorem dX12_through_54 : decode cX12_through 54 = .ok (.getfield 34, 3) := by decide +kernel
theorem dX12_through_57 : decode cX12_through 57 = .ok (.iconst 0, 1) := by decide +kernel
theorem dX12_through_58 : decode cX12_through 58 = .ok (.iaload, 1) := by decide +kernel
theorem dX12_through_59 : decode cX12_through 59 = .ok (.if_icmp .ge 63, 3) := by decide +kernel
theorem dX12_through_62 : decode cX12_through 62 = .ok (.iload 5, 2) := by decide +kernel
theorem dX12_through_64 : decode cX12_through 64 = .ok (.iload_n 1, 1) := by decide +kernel
theorem dX12_through_65 : decode cX12_through 65 = .ok (.if_icmp .eq 51, 3) := by decide +kernel
theorem dX12_through_68 : decode cX12_through 68 = .ok (.iload 5, 2) := by decide +kernel
theorem dX12_through_70 : decode cX12_through 70 = .ok (.iload_n 2, 1) := by decide +kernel
theorem dX12_through_71 : decode cX12_through 71 = .ok (.if_icmp .ne 6, 3) := by decide +kernel
theorem dX12_through_74 : decode cX12_through 74 = .ok (.goto 42, 3) := by decide +kernel
theorem dX12_through_77 : decode cX12_through 77 = .ok (.aload_n 0, 1) := by decide +kernel
theorem dX12_through_78 : decode cX12_through 78 = .ok (.iload_n 3, 1) := by decide +kernel
theorem dX12_through_79 : decode cX12_through 79 = .ok (.iconst 1, 1) := by decide +kernel
theorem dX12_through_80 : decode cX12_through 80 = .ok (.iload 5, 2) := by decide +kernel
theorem dX12_through_82 : decode cX12_through 82 = .ok (.ishl, 1) := by decide +kernel
theorem dX12_through_83 : decode cX12_through 83 = .ok (.ior, 1) := by decide +kernel
theorem dX12_through_84 : decode cX12_through 84 = .ok (.putfield 290, 3) := by decide +kernel
theorem dX12_through_87 : decode cX12_through 87 = .ok (.iload 4, 2) := by decide +kernel
theorem dX12_through_89 : decode cX12_through 89 = .ok (.aload_n 0, 1) := by decide +kernel
theorem dX12_through_90 : decode cX12_through 90 = .ok (.iload_n 1, 1) := by decide +kernel
theorem dX12_through_91 : decode cX12_through 91 = .ok (.iload_n 2, 1) := by decide +kernel
theorem dX12_through_92 : decode cX12_through 92 = .ok (.bipush 60, 2) := by decide +kernel
theorem dX12_through_94 : decode cX12_through 94 = .ok (.invokevirtual 411, 3) := by decide +kernel
theorem dX12_through_97 : decode cX12_through 97 = .ok (.ifCond .eq 7, 3) := by decide +kernel
theorem dX12_through_100 : decode cX12_through 100 = .ok (.iconst 0, 1) := by decide +kernel
theorem dX12_through_101 : decode cX12_through 101 = .ok (.goto 7, 3) := by decide +kernel
theorem dX12_through_104 : decode cX12_through 104 = .ok (.iconst 1, 1) := by decide +kernel
theorem dX12_through_105 : decode cX12_through 105 = .ok (.iload 5, 2) := by decide +kernel
theorem dX12_through_107 : decode cX12_through 107 = .ok (.ishl, 1) := by decide +kernel
theorem dX12_through_108 : decode cX12_through 108 = .ok (.ior, 1) := by decide +kernel
theorem dX12_through_109 : decode cX12_through 109 = .ok (.istore 4, 2) := by decide +kernel
theorem dX12_through_111 : decode cX12_through 111 = .ok (.aload_n 0, 1) := by decide +kernel
theorem dX12_through_112 : decode cX12_through 112 = .ok (.iload_n 3, 1) := by decide +kernel
theorem dX12_through_113 : decode cX12_through 113 = .ok (.putfield 290, 3) := by decide +kernel
theorem dX12_through_116 : decode cX12_through 116 = .ok (.iinc 5 1, 3) := by decide +kernel
theorem dX12_through_119 : decode cX12_through 119 = .ok (.goto (-68), 3) := by decide +kernel
theorem dX12_through_122 : decode cX12_through 122 = .ok (.iload 4, 2) := by decide +kernel
theorem dX12_through_124 : decode cX12_through 124 = .ok (.ireturn, 1) := by decide +kernel
theorem dX12_best_0 : decode cX12_best 0 = .ok (.aload_n 0, 1) := by decide +kernel
theorem dX12_best_1 : decode cX12_best 1 = .ok (.iconst 0, 1) := by decide +kernel
theorem dX12_best_2 : decode cX12_best 2 = .ok (.putfield 142, 3) := by decide +kernel
theorem dX12_best_5 : decode cX12_best 5 = .ok (.iload_n 1, 1) := by decide +kernel
theorem dX12_best_6 : decode cX12_best 6 = .ok (.i2l, 1) := by decide +kernel
theorem dX12_best_7 : decode cX12_best 7 = .ok (.lconst 1, 1) := by decide +kernel
theorem dX12_best_8 : decode cX12_best 8 = .ok (.ldc2_w 406, 3) := by decide +kernel
theorem dX12_best_11 : decode cX12_best 11 = .ok (.invokestatic 145, 3) := by decide +kernel
theorem dX12_best_14 : decode cX12_best 14 = .ok (.ifCond .ne 9, 3) := by decide +kernel
theorem dX12_best_17 : decode cX12_best 17 = .ok (.aload_n 0, 1) := by decide +kernel
theorem dX12_best_18 : decode cX12_best 18 = .ok (.iconst 1, 1) := by decide +kernel
theorem dX12_best_19 : decode cX12_best 19 = .ok (.invokevirtual 274, 3) := by decide +kernel
theorem dX12_best_22 : decode cX12_best 22 = .ok (.ireturn, 1) := by decide +kernel
theorem dX12_best_23 : decode cX12_best 23 = .ok (.iconst (-1), 1) := by decide +kernel
theorem dX12_best_24 : decode cX12_best 24 = .ok (.istore_n 2, 1) := by decide +kernel
theorem dX12_best_25 : decode cX12_best 25 = .ok (.iconst (-1), 1) := by decide +kernel
theorem dX12_best_26 : decode cX12_best 26 = .ok (.istore_n 3, 1) := by decide +kernel
theorem dX12_best_27 : decode cX12_best 27 = .ok (.iconst 0, 1) := by decide +kernel
theorem dX12_best_28 : decode cX12_best 28 = .ok (.istore 4, 2) := by decide +kernel
theorem dX12_best_30 : decode cX12_best 30 = .ok (.iload 4, 2) := by decide +kernel
theorem dX12_best_32 : decode cX12_best 32 = .ok (.aload_n 0, 1) := by decide +kernel
theorem dX12_best_33 : decode cX12_best 33 = .ok (.getfield 34, 3) := by decide +kernel
theorem dX12_best_36 : decode cX12_best 36 = .ok (.iconst 0, 1) := by decide +kernel
theorem dX12_best_37 : decode cX12_best 37 = .ok (.iaload, 1) := by decide +kernel
theorem dX12_best_38 : decode cX12_best 38 = .ok (.if_icmp .ge 38, 3) := by decide +kernel
theorem dX12_best_41 : decode cX12_best 41 = .ok (.aload_n 0, 1) := by decide +kernel
theorem dX12_best_42 : decode cX12_best 42 = .ok (.iconst 1, 1) := by decide +kernel
theorem dX12_best_43 : decode cX12_best 43 = .ok (.iload 4, 2) := by decide +kernel
theorem dX12_best_45 : decode cX12_best 45 = .ok (.ishl, 1) := by decide +kernel
theorem dX12_best_46 : decode cX12_best 46 = .ok (.iload_n 1, 1) := by decide +kernel
theorem dX12_best_47 : decode cX12_best 47 = .ok (.invokevirtual 408, 3) := by decide +kernel
theorem dX12_best_50 : decode cX12_best 50 = .ok (.invokestatic 335, 3) := by decide +kernel
theorem dX12_best_53 : decode cX12_best 53 = .ok (.istore 5, 2) := by decide +kernel
theorem dX12_best_55 : decode cX12_best 55 = .ok (.iload 5, 2) := by decide +kernel
theorem dX12_best_57 : decode cX12_best 57 = .ok (.iload_n 3, 1) := by decide +kernel
theorem dX12_best_58 : decode cX12_best 58 = .ok (.if_icmp .gt 6, 3) := by decide +kernel
theorem dX12_best_61 : decode cX12_best 61 = .ok (.goto 9, 3) := by decide +kernel
theorem dX12_best_64 : decode cX12_best 64 = .ok (.iload 4, 2) := by decide +kernel
theorem dX12_best_66 : decode cX12_best 66 = .ok (.istore_n 2, 1) := by decide +kernel
theorem dX12_best_67 : decode cX12_best 67 = .ok (.iload 5, 2) := by decide +kernel
theorem dX12_best_69 : decode cX12_best 69 = .ok (.istore_n 3, 1) := by decide +kernel
theorem dX12_best_70 : decode cX12_best 70 = .ok (.iinc 4 1, 3) := by decide +kernel
theorem dX12_best_73 : decode cX12_best 73 = .ok (.goto (-43), 3) := by decide +kernel
theorem dX12_best_76 : decode cX12_best 76 = .ok (.iload_n 2, 1) := by decide +kernel
theorem dX12_best_77 : decode cX12_best 77 = .ok (.ireturn, 1) := by decide +kernel
theorem dX12_toBegin_0 : decode cX12_toBegin 0 = .ok (.aload_n 0, 1) := by decide +kernel
theorem dX12_toBegin_1 : decode cX12_toBegin 1 = .ok (.iconst 0, 1) := by decide +kernel
theorem dX12_toBegin_2 : decode cX12_toBegin 2 = .ok (.putfield 142, 3) := by decide +kernel
theorem dX12_toBegin_5 : decode cX12_toBegin 5 = .ok (.iload_n 1, 1) := by decide +kernel
theorem dX12_toBegin_6 : decode cX12_toBegin 6 = .ok (.i2l, 1) := by decide +kernel
theorem dX12_toBegin_7 : decode cX12_toBegin 7 = .ok (.lconst 1, 1) := by decide +kernel
theorem dX12_toBegin_8 : decode cX12_toBegin 8 = .ok (.ldc2_w 406, 3) := by decide +kernel
theorem dX12_toBegin_11 : decode cX12_toBegin 11 = .ok (.invokestatic 145, 3) := by decide +kernel
theorem dX12_toBegin_14 : decode cX12_toBegin 14 = .ok (.ifCond .ne 9, 3) := by decide +kernel
theorem dX12_toBegin_17 : decode cX12_toBegin 17 = .ok (.aload_n 0, 1) := by decide +kernel
theorem dX12_toBegin_18 : decode cX12_toBegin 18 = .ok (.iconst 1, 1) := by decide +kernel
theorem dX12_toBegin_19 : decode cX12_toBegin 19 = .ok (.invokevirtual 274, 3) := by decide +kernel
theorem dX12_toBegin_22 : decode cX12_toBegin 22 = .ok (.ireturn, 1) := by decide +kernel
theorem dX12_toBegin_23 : decode cX12_toBegin 23 = .ok (.aload_n 0, 1) := by decide +kernel
theorem dX12_toBegin_24 : decode cX12_toBegin 24 = .ok (.invokevirtual 354, 3) := by decide +kernel
theorem dX12_toBegin_27 : decode cX12_toBegin 27 = .ok (.aload_n 0, 1) := by decide +kernel
theorem dX12_toBegin_28 : decode cX12_toBegin 28 = .ok (.getfield 290, 3) := by decide +kernel
theorem dX12_toBegin_31 : decode cX12_toBegin 31 = .ok (.iconst (-1), 1) := by decide +kernel
theorem dX12_toBegin_32 : decode cX12_toBegin 32 = .ok (.ixor, 1) := by decide +kernel
theorem dX12_toBegin_33 : decode cX12_toBegin 33 = .ok (.iand, 1) := by decide +kernel
theorem dX12_toBegin_34 : decode cX12_toBegin 34 = .ok (.istore_n 2, 1) := by decide +kernel
theorem dX12_toBegin_35 : decode cX12_toBegin 35 = .ok (.iconst (-1), 1) := by decide +kernel
theorem dX12_toBegin_36 : decode cX12_toBegin 36 = .ok (.istore_n 3, 1) := by decide +kernel
theorem dX12_toBegin_37 : decode cX12_toBegin 37 = .ok (.iconst 0, 1) := by decide +kernel
theorem dX12_toBegin_38 : decode cX12_toBegin 38 = .ok (.istore 4, 2) := by decide +kernel
theorem dX12_toBegin_40 : decode cX12_toBegin 40 = .ok (.iload 4, 2) := by decide +kernel
theorem dX12_toBegin_42 : decode cX12_toBegin 42 = .ok (.iload_n 2, 1) := by decide +kernel
theorem dX12_toBegin_43 : decode cX12_toBegin 43 = .ok (.if_icmp .gt 56, 3) := by decide +kernel
theorem dX12_toBegin_46 : decode cX12_toBegin 46 = .ok (.iload 4, 2) := by decide +kernel
theorem dX12_toBegin_48 : decode cX12_toBegin 48 = .ok (.aload_n 0, 1) := by decide +kernel
theorem dX12_toBegin_49 : decode cX12_toBegin 49 = .ok (.getfield 290, 3) := by decide +kernel
theorem dX12_toBegin_52 : decode cX12_toBegin 52 = .ok (.iand, 1) := by decide +kernel
theorem dX12_toBegin_53 : decode cX12_toBegin 53 = .ok (.ifCond .ne 40, 3) := by decide +kernel
theorem dX12_toBegin_56 : decode cX12_toBegin 56 = .ok (.iload_n 3, 1) := by decide +kernel
theorem dX12_toBegin_57 : decode cX12_toBegin 57 = .ok (.iconst (-1), 1) := by decide +kernel
theorem dX12_toBegin_58 : decode cX12_toBegin 58 = .ok (.if_icmp .eq 18, 3) := by decide +kernel
theorem dX12_toBegin_61 : decode cX12_toBegin 61 = .ok (.iload 4, 2) := by decide +kernel
theorem dX12_toBegin_63 : decode cX12_toBegin 63 = .ok (.invokestatic 335, 3) := by decide +kernel
theorem dX12_toBegin_66 : decode cX12_toBegin 66 = .ok (.iload_n 3, 1) := by decide +kernel
theorem dX12_toBegin_67 : decode cX12_toBegin 67 = .ok (.invokestatic 335, 3) := by decide +kernel
theorem dX12_toBegin_70 : decode cX12_toBegin 70 = .ok (.if_icmp .lt 6, 3) := by decide +kernel
theorem dX12_toBegin_73 : decode cX12_toBegin 73 = .ok (.goto 20, 3) := by decide +kernel
theorem dX12_toBegin_76 : decode cX12_toBegin 76 = .ok (.iload_n 2, 1) := by decide +kernel
theorem dX12_toBegin_77 : decode cX12_toBegin 77 = .ok (.aload_n 0, 1) := by decide +kernel
theorem dX12_toBegin_78 : decode cX12_toBegin 78 = .ok (.iload 4, 2) := by decide +kernel
theorem dX12_toBegin_80 : decode cX12_toBegin 80 = .ok (.iload_n 1, 1) := by decide +kernel
theorem dX12_toBegin_81 : decode cX12_toBegin 81 = .ok (.invokevirtual 408, 3) := by decide +kernel
theorem dX12_toBegin_84 : decode cX12_toBegin 84 = .ok (.iconst (-1), 1) := by decide +kernel
theorem dX12_toBegin_85 : decode cX12_toBegin 85 = .ok (.ixor, 1) := by decide +kernel
theorem dX12_toBegin_86 : decode cX12_toBegin 86 = .ok (.iand, 1) := by decide +kernel
theorem dX12_toBegin_87 : decode cX12_toBegin 87 = .ok (.ifCond .ne 6, 3) := by decide +kernel
theorem dX12_toBegin_90 : decode cX12_toBegin 90 = .ok (.iload 4, 2) := by decide +kernel
theorem dX12_toBegin_92 : decode cX12_toBegin 92 = .ok (.istore_n 3, 1) := by decide +kernel
theorem dX12_toBegin_93 : decode cX12_toBegin 93 = .ok (.iinc 4 1, 3) := by decide +kernel
theorem dX12_toBegin_96 : decode cX12_toBegin 96 = .ok (.goto (-56), 3) := by decide +kernel
theorem dX12_toBegin_99 : decode cX12_toBegin 99 = .ok (.iload_n 3, 1) := by decide +kernel
theorem dX12_toBegin_100 : decode cX12_toBegin 100 = .ok (.ireturn, 1) := by decide +kernel
theorem dX12_way_0 : decode cX12_way 0 = .ok (.aload_n 0, 1) := by decide +kernel
theorem dX12_way_1 : decode cX12_way 1 = .ok (.iconst 0, 1) := by decide +kernel
theorem dX12_way_2 : decode cX12_way 2 = .ok (.putfield 142, 3) := by decide +kernel
theorem dX12_way_5 : decode cX12_way 5 = .ok (.aload_n 0, 1) := by decide +kernel
theorem dX12_way_6 : decode cX12_way 6 = .ok (.iload_n 1, 1) := by decide +kernel
theorem dX12_way_7 : decode cX12_way 7 = .ok (.invokevirtual 369, 3) := by decide +kernel
theorem dX12_way_10 : decode cX12_way 10 = .ok (.ifCond .eq 11, 3) := by decide +kernel
theorem dX12_way_13 : decode cX12_way 13 = .ok (.aload_n 0, 1) := by decide +kernel
theorem dX12_way_14 : decode cX12_way 14 = .ok (.iload_n 2, 1) := by decide +kernel
theorem dX12_way_15 : decode cX12_way 15 = .ok (.invokevirtual 369, 3) := by decide +kernel
theorem dX12_way_18 : decode cX12_way 18 = .ok (.ifCond .ne 9, 3) := by decide +kernel
theorem dX12_way_21 : decode cX12_way 21 = .ok (.aload_n 0, 1) := by decide +kernel
theorem dX12_way_22 : decode cX12_way 22 = .ok (.iconst 1, 1) := by decide +kernel
theorem dX12_way_23 : decode cX12_way 23 = .ok (.invokevirtual 274, 3) := by decide +kernel
theorem dX12_way_26 : decode cX12_way 26 = .ok (.ireturn, 1) := by decide +kernel
theorem dX12_way_27 : decode cX12_way 27 = .ok (.iconst 1, 1) := by decide +kernel
theorem dX12_way_28 : decode cX12_way 28 = .ok (.iload_n 1, 1) := by decide +kernel
theorem dX12_way_29 : decode cX12_way 29 = .ok (.ishl, 1) := by decide +kernel
theorem dX12_way_30 : decode cX12_way 30 = .ok (.istore_n 3, 1) := by decide +kernel
theorem dX12_way_31 : decode cX12_way 31 = .ok (.iconst 0, 1) := by decide +kernel
theorem dX12_way_32 : decode cX12_way 32 = .ok (.istore 4, 2) := by decide +kernel
theorem dX12_way_34 : decode cX12_way 34 = .ok (.iload 4, 2) := by decide +kernel
theorem dX12_way_36 : decode cX12_way 36 = .ok (.bipush 9, 2) := by decide +kernel
theorem dX12_way_38 : decode cX12_way 38 = .ok (.if_icmp .ge 70, 3) := by decide +kernel
theorem dX12_way_41 : decode cX12_way 41 = .ok (.iload_n 3, 1) := by decide +kernel
theorem dX12_way_42 : decode cX12_way 42 = .ok (.iload_n 2, 1) := by decide +kernel
theorem dX12_way_43 : decode cX12_way 43 = .ok (.invokestatic 332, 3) := by decide +kernel
theorem dX12_way_46 : decode cX12_way 46 = .ok (.ifCond .eq 6, 3) := by decide +kernel
theorem dX12_way_49 : decode cX12_way 49 = .ok (.iload 4, 2) := by decide +kernel
theorem dX12_way_51 : decode cX12_way 51 = .ok (.ireturn, 1) := by decide +kernel
theorem dX12_way_52 : decode cX12_way 52 = .ok (.iload_n 3, 1) := by decide +kernel
theorem dX12_way_53 : decode cX12_way 53 = .ok (.istore 5, 2) := by decide +kernel
theorem dX12_way_55 : decode cX12_way 55 = .ok (.iconst 0, 1) := by decide +kernel
theorem dX12_way_56 : decode cX12_way 56 = .ok (.istore 6, 2) := by decide +kernel
theorem dX12_way_58 : decode cX12_way 58 = .ok (.iload 6, 2) := by decide +kernel
theorem dX12_way_60 : decode cX12_way 60 = .ok (.aload_n 0, 1) := by decide +kernel
theorem dX12_way_61 : decode cX12_way 61 = .ok (.getfield 34, 3) := by decide +kernel
theorem dX12_way_64 : decode cX12_way 64 = .ok (.iconst 0, 1) := by decide +kernel
theorem dX12_way_65 : decode cX12_way 65 = .ok (.iaload, 1) := by decide +kernel
theorem dX12_way_66 : decode cX12_way 66 = .ok (.if_icmp .ge 33, 3) := by decide +kernel
theorem dX12_way_69 : decode cX12_way 69 = .ok (.iload 5, 2) := by decide +kernel
theorem dX12_way_71 : decode cX12_way 71 = .ok (.iload_n 3, 1) := by decide +kernel
theorem dX12_way_72 : decode cX12_way 72 = .ok (.iload 6, 2) := by decide +kernel
theorem dX12_way_74 : decode cX12_way 74 = .ok (.invokestatic 332, 3) := by decide +kernel
theorem dX12_way_77 : decode cX12_way 77 = .ok (.ifCond .eq 12, 3) := by decide +kernel
theorem dX12_way_80 : decode cX12_way 80 = .ok (.aload_n 0, 1) := by decide +kernel
theorem dX12_way_81 : decode cX12_way 81 = .ok (.iload 6, 2) := by decide +kernel
theorem dX12_way_83 : decode cX12_way 83 = .ok (.invokevirtual 343, 3) := by decide +kernel
theorem dX12_way_86 : decode cX12_way 86 = .ok (.goto 4, 3) := by decide +kernel
theorem dX12_way_89 : decode cX12_way 89 = .ok (.iconst 0, 1) := by decide +kernel
theorem dX12_way_90 : decode cX12_way 90 = .ok (.ior, 1) := by decide +kernel
theorem dX12_way_91 : decode cX12_way 91 = .ok (.istore 5, 2) := by decide +kernel
theorem dX12_way_93 : decode cX12_way 93 = .ok (.iinc 6 1, 3) := by decide +kernel
theorem dX12_way_96 : decode cX12_way 96 = .ok (.goto (-38), 3) := by decide +kernel
theorem dX12_way_99 : decode cX12_way 99 = .ok (.iload 5, 2) := by decide +kernel
theorem dX12_way_101 : decode cX12_way 101 = .ok (.istore_n 3, 1) := by decide +kernel
theorem dX12_way_102 : decode cX12_way 102 = .ok (.iinc 4 1, 3) := by decide +kernel
theorem dX12_way_105 : decode cX12_way 105 = .ok (.goto (-71), 3) := by decide +kernel
theorem dX12_way_108 : decode cX12_way 108 = .ok (.iconst (-1), 1) := by decide +kernel
theorem dX12_way_109 : decode cX12_way 109 = .ok (.ireturn, 1) := by decide +kernel
theorem dX12_toHat_0 : decode cX12_toHat 0 = .ok (.aload_n 0, 1) := by decide +kernel
theorem dX12_toHat_1 : decode cX12_toHat 1 = .ok (.iconst 0, 1) := by decide +kernel
theorem dX12_toHat_2 : decode cX12_toHat 2 = .ok (.putfield 142, 3) := by decide +kernel
theorem dX12_toHat_5 : decode cX12_toHat 5 = .ok (.aload_n 0, 1) := by decide +kernel
theorem dX12_toHat_6 : decode cX12_toHat 6 = .ok (.iload_n 1, 1) := by decide +kernel
theorem dX12_toHat_7 : decode cX12_toHat 7 = .ok (.invokevirtual 369, 3) := by decide +kernel
theorem dX12_toHat_10 : decode cX12_toHat 10 = .ok (.ifCond .eq 11, 3) := by decide +kernel
theorem dX12_toHat_13 : decode cX12_toHat 13 = .ok (.aload_n 0, 1) := by decide +kernel
theorem dX12_toHat_14 : decode cX12_toHat 14 = .ok (.iload_n 2, 1) := by decide +kernel
theorem dX12_toHat_15 : decode cX12_toHat 15 = .ok (.invokevirtual 369, 3) := by decide +kernel
theorem dX12_toHat_18 : decode cX12_toHat 18 = .ok (.ifCond .ne 9, 3) := by decide +kernel
theorem dX12_toHat_21 : decode cX12_toHat 21 = .ok (.aload_n 0, 1) := by decide +kernel
theorem dX12_toHat_22 : decode cX12_toHat 22 = .ok (.iconst 1, 1) := by decide +kernel
theorem dX12_toHat_23 : decode cX12_toHat 23 = .ok (.invokevirtual 274, 3) := by decide +kernel
theorem dX12_toHat_26 : decode cX12_toHat 26 = .ok (.ireturn, 1) := by decide +kernel
theorem dX12_toHat_27 : decode cX12_toHat 27 = .ok (.aload_n 0, 1) := by decide +kernel
theorem dX12_toHat_28 : decode cX12_toHat 28 = .ok (.getfield 78, 3) := by decide +kernel
theorem dX12_toHat_31 : decode cX12_toHat 31 = .ok (.iload_n 1, 1) := by decide +kernel
theorem dX12_toHat_32 : decode cX12_toHat 32 = .ok (.iaload, 1) := by decide +kernel
theorem dX12_toHat_33 : decode cX12_toHat 33 = .ok (.istore_n 3, 1) := by decide +kernel
theorem dX12_toHat_34 : decode cX12_toHat 34 = .ok (.iconst (-1), 1) := by decide +kernel
theorem dX12_toHat_35 : decode cX12_toHat 35 = .ok (.istore 4, 2) := by decide +kernel
theorem dX12_toHat_37 : decode cX12_toHat 37 = .ok (.bipush 20, 2) := by decide +kernel
theorem dX12_toHat_39 : decode cX12_toHat 39 = .ok (.istore 5, 2) := by decide +kernel
theorem dX12_toHat_41 : decode cX12_toHat 41 = .ok (.iload 5, 2) := by decide +kernel
theorem dX12_toHat_43 : decode cX12_toHat 43 = .ok (.ifCond .lt 30, 3) := by decide +kernel
theorem dX12_toHat_46 : decode cX12_toHat 46 = .ok (.aload_n 0, 1) := by decide +kernel
theorem dX12_toHat_47 : decode cX12_toHat 47 = .ok (.getfield 78, 3) := by decide +kernel
theorem dX12_toHat_50 : decode cX12_toHat 50 = .ok (.iload_n 1, 1) := by decide +kernel
theorem dX12_toHat_51 : decode cX12_toHat 51 = .ok (.iload 5, 2) := by decide +kernel
theorem dX12_toHat_53 : decode cX12_toHat 53 = .ok (.iastore, 1) := by decide +kernel
theorem dX12_toHat_54 : decode cX12_toHat 54 = .ok (.aload_n 0, 1) := by decide +kernel
theorem dX12_toHat_55 : decode cX12_toHat 55 = .ok (.iload_n 1, 1) := by decide +kernel
theorem dX12_toHat_56 : decode cX12_toHat 56 = .ok (.iload_n 2, 1) := by decide +kernel
theorem dX12_toHat_57 : decode cX12_toHat 57 = .ok (.invokevirtual 324, 3) := by decide +kernel
theorem dX12_toHat_60 : decode cX12_toHat 60 = .ok (.ifCond .eq 7, 3) := by decide +kernel
theorem dX12_toHat_63 : decode cX12_toHat 63 = .ok (.iload 5, 2) := by decide +kernel
theorem dX12_toHat_65 : decode cX12_toHat 65 = .ok (.istore 4, 2) := by decide +kernel
theorem dX12_toHat_67 : decode cX12_toHat 67 = .ok (.iinc 5 (-1), 3) := by decide +kernel
theorem dX12_toHat_70 : decode cX12_toHat 70 = .ok (.goto (-29), 3) := by decide +kernel
theorem dX12_toHat_73 : decode cX12_toHat 73 = .ok (.aload_n 0, 1) := by decide +kernel
theorem dX12_toHat_74 : decode cX12_toHat 74 = .ok (.getfield 78, 3) := by decide +kernel
theorem dX12_toHat_77 : decode cX12_toHat 77 = .ok (.iload_n 1, 1) := by decide +kernel
theorem dX12_toHat_78 : decode cX12_toHat 78 = .ok (.iload_n 3, 1) := by decide +kernel
theorem dX12_toHat_79 : decode cX12_toHat 79 = .ok (.iastore, 1) := by decide +kernel
theorem dX12_toHat_80 : decode cX12_toHat 80 = .ok (.iload 4, 2) := by decide +kernel
theorem dX12_toHat_82 : decode cX12_toHat 82 = .ok (.ireturn, 1) := by decide +kernel
theorem dX12_between_0 : decode cX12_between 0 = .ok (.aload_n 0, 1) := by decide +kernel
theorem dX12_between_1 : decode cX12_between 1 = .ok (.iconst 0, 1) := by decide +kernel
theorem dX12_between_2 : decode cX12_between 2 = .ok (.putfield 142, 3) := by decide +kernel
theorem dX12_between_5 : decode cX12_between 5 = .ok (.aload_n 0, 1) := by decide +kernel
theorem dX12_between_6 : decode cX12_between 6 = .ok (.iload_n 1, 1) := by decide +kernel
theorem dX12_between_7 : decode cX12_between 7 = .ok (.invokevirtual 369, 3) := by decide +kernel
theorem dX12_between_10 : decode cX12_between 10 = .ok (.ifCond .eq 20, 3) := by decide +kernel
theorem dX12_between_13 : decode cX12_between 13 = .ok (.aload_n 0, 1) := by decide +kernel
theorem dX12_between_14 : decode cX12_between 14 = .ok (.iload_n 2, 1) := by decide +kernel
theorem dX12_between_15 : decode cX12_between 15 = .ok (.invokevirtual 369, 3) := by decide +kernel
theorem dX12_between_18 : decode cX12_between 18 = .ok (.ifCond .eq 12, 3) := by decide +kernel
theorem dX12_between_21 : decode cX12_between 21 = .ok (.aload_n 0, 1) := by decide +kernel
theorem dX12_between_22 : decode cX12_between 22 = .ok (.iload_n 1, 1) := by decide +kernel
theorem dX12_between_23 : decode cX12_between 23 = .ok (.iload_n 2, 1) := by decide +kernel
theorem dX12_between_24 : decode cX12_between 24 = .ok (.invokevirtual 321, 3) := by decide +kernel
theorem dX12_between_27 : decode cX12_between 27 = .ok (.goto 8, 3) := by decide +kernel
theorem dX12_between_30 : decode cX12_between 30 = .ok (.aload_n 0, 1) := by decide +kernel
theorem dX12_between_31 : decode cX12_between 31 = .ok (.iconst 1, 1) := by decide +kernel
theorem dX12_between_32 : decode cX12_between 32 = .ok (.invokevirtual 274, 3) := by decide +kernel
theorem dX12_between_35 : decode cX12_between 35 = .ok (.ireturn, 1) := by decide +kernel
theorem dX12_nextTo_0 : decode cX12_nextTo 0 = .ok (.iconst (-1), 1) := by decide +kernel
theorem dX12_nextTo_1 : decode cX12_nextTo 1 = .ok (.istore_n 2, 1) := by decide +kernel
theorem dX12_nextTo_2 : decode cX12_nextTo 2 = .ok (.iconst 0, 1) := by decide +kernel
theorem dX12_nextTo_3 : decode cX12_nextTo 3 = .ok (.istore_n 3, 1) := by decide +kernel
theorem dX12_nextTo_4 : decode cX12_nextTo 4 = .ok (.iload_n 3, 1) := by decide +kernel
theorem dX12_nextTo_5 : decode cX12_nextTo 5 = .ok (.aload_n 0, 1) := by decide +kernel
theorem dX12_nextTo_6 : decode cX12_nextTo 6 = .ok (.getfield 34, 3) := by decide +kernel
theorem dX12_nextTo_9 : decode cX12_nextTo 9 = .ok (.iconst 0, 1) := by decide +kernel
theorem dX12_nextTo_10 : decode cX12_nextTo 10 = .ok (.iaload, 1) := by decide +kernel
theorem dX12_nextTo_11 : decode cX12_nextTo 11 = .ok (.if_icmp .ge 46, 3) := by decide +kernel
theorem dX12_nextTo_14 : decode cX12_nextTo 14 = .ok (.aload_n 0, 1) := by decide +kernel
theorem dX12_nextTo_15 : decode cX12_nextTo 15 = .ok (.getfield 41, 3) := by decide +kernel
theorem dX12_nextTo_18 : decode cX12_nextTo 18 = .ok (.iload_n 3, 1) := by decide +kernel
theorem dX12_nextTo_19 : decode cX12_nextTo 19 = .ok (.iaload, 1) := by decide +kernel
theorem dX12_nextTo_20 : decode cX12_nextTo 20 = .ok (.aload_n 0, 1) := by decide +kernel
theorem dX12_nextTo_21 : decode cX12_nextTo 21 = .ok (.getfield 41, 3) := by decide +kernel
theorem dX12_nextTo_24 : decode cX12_nextTo 24 = .ok (.iload_n 1, 1) := by decide +kernel
theorem dX12_nextTo_25 : decode cX12_nextTo 25 = .ok (.iaload, 1) := by decide +kernel
theorem dX12_nextTo_26 : decode cX12_nextTo 26 = .ok (.if_icmp .le 25, 3) := by decide +kernel
theorem dX12_nextTo_29 : decode cX12_nextTo 29 = .ok (.iload_n 2, 1) := by decide +kernel
theorem dX12_nextTo_30 : decode cX12_nextTo 30 = .ok (.iconst (-1), 1) := by decide +kernel
theorem dX12_nextTo_31 : decode cX12_nextTo 31 = .ok (.if_icmp .eq 18, 3) := by decide +kernel
theorem dX12_nextTo_34 : decode cX12_nextTo 34 = .ok (.aload_n 0, 1) := by decide +kernel
theorem dX12_nextTo_35 : decode cX12_nextTo 35 = .ok (.getfield 41, 3) := by decide +kernel
theorem dX12_nextTo_38 : decode cX12_nextTo 38 = .ok (.iload_n 3, 1) := by decide +kernel
theorem dX12_nextTo_39 : decode cX12_nextTo 39 = .ok (.iaload, 1) := by decide +kernel
theorem dX12_nextTo_40 : decode cX12_nextTo 40 = .ok (.aload_n 0, 1) := by decide +kernel
theorem dX12_nextTo_41 : decode cX12_nextTo 41 = .ok (.getfield 41, 3) := by decide +kernel
theorem dX12_nextTo_44 : decode cX12_nextTo 44 = .ok (.iload_n 2, 1) := by decide +kernel
theorem dX12_nextTo_45 : decode cX12_nextTo 45 = .ok (.iaload, 1) := by decide +kernel
theorem dX12_nextTo_46 : decode cX12_nextTo 46 = .ok (.if_icmp .ge 5, 3) := by decide +kernel
theorem dX12_nextTo_49 : decode cX12_nextTo 49 = .ok (.iload_n 3, 1) := by decide +kernel
theorem dX12_nextTo_50 : decode cX12_nextTo 50 = .ok (.istore_n 2, 1) := by decide +kernel
theorem dX12_nextTo_51 : decode cX12_nextTo 51 = .ok (.iinc 3 1, 3) := by decide +kernel
theorem dX12_nextTo_54 : decode cX12_nextTo 54 = .ok (.goto (-50), 3) := by decide +kernel
theorem dX12_nextTo_57 : decode cX12_nextTo 57 = .ok (.iload_n 2, 1) := by decide +kernel
theorem dX12_nextTo_58 : decode cX12_nextTo 58 = .ok (.ireturn, 1) := by decide +kernel
theorem dX12_line_0 : decode cX12_line 0 = .ok (.aload_n 0, 1) := by decide +kernel
theorem dX12_line_1 : decode cX12_line 1 = .ok (.iconst 0, 1) := by decide +kernel
theorem dX12_line_2 : decode cX12_line 2 = .ok (.putfield 142, 3) := by decide +kernel
theorem dX12_line_5 : decode cX12_line 5 = .ok (.iconst 0, 1) := by decide +kernel
theorem dX12_line_6 : decode cX12_line 6 = .ok (.istore_n 1, 1) := by decide +kernel
theorem dX12_line_7 : decode cX12_line 7 = .ok (.iconst 0, 1) := by decide +kernel
theorem dX12_line_8 : decode cX12_line 8 = .ok (.istore_n 2, 1) := by decide +kernel
theorem dX12_line_9 : decode cX12_line 9 = .ok (.iload_n 2, 1) := by decide +kernel
theorem dX12_line_10 : decode cX12_line 10 = .ok (.aload_n 0, 1) := by decide +kernel
theorem dX12_line_11 : decode cX12_line 11 = .ok (.getfield 34, 3) := by decide +kernel
theorem dX12_line_14 : decode cX12_line 14 = .ok (.iconst 0, 1) := by decide +kernel
theorem dX12_line_15 : decode cX12_line 15 = .ok (.iaload, 1) := by decide +kernel
theorem dX12_line_16 : decode cX12_line 16 = .ok (.if_icmp .ge 59, 3) := by decide +kernel
theorem dX12_line_19 : decode cX12_line 19 = .ok (.iconst 1, 1) := by decide +kernel
theorem dX12_line_20 : decode cX12_line 20 = .ok (.istore_n 3, 1) := by decide +kernel
theorem dX12_line_21 : decode cX12_line 21 = .ok (.iload_n 2, 1) := by decide +kernel
theorem dX12_line_22 : decode cX12_line 22 = .ok (.istore 4, 2) := by decide +kernel
theorem dX12_line_24 : decode cX12_line 24 = .ok (.aload_n 0, 1) := by decide +kernel
theorem dX12_line_25 : decode cX12_line 25 = .ok (.iload 4, 2) := by decide +kernel
theorem dX12_line_27 : decode cX12_line 27 = .ok (.invokevirtual 414, 3) := by decide +kernel
theorem dX12_line_30 : decode cX12_line 30 = .ok (.iconst (-1), 1) := by decide +kernel
theorem dX12_line_31 : decode cX12_line 31 = .ok (.if_icmp .eq 32, 3) := by decide +kernel
theorem dX12_line_34 : decode cX12_line 34 = .ok (.aload_n 0, 1) := by decide +kernel
theorem dX12_line_35 : decode cX12_line 35 = .ok (.iload 4, 2) := by decide +kernel
theorem dX12_line_37 : decode cX12_line 37 = .ok (.aload_n 0, 1) := by decide +kernel
theorem dX12_line_38 : decode cX12_line 38 = .ok (.iload 4, 2) := by decide +kernel
theorem dX12_line_40 : decode cX12_line 40 = .ok (.invokevirtual 414, 3) := by decide +kernel
theorem dX12_line_43 : decode cX12_line 43 = .ok (.invokevirtual 324, 3) := by decide +kernel
theorem dX12_line_46 : decode cX12_line 46 = .ok (.ifCond .eq 17, 3) := by decide +kernel
theorem dX12_line_49 : decode cX12_line 49 = .ok (.aload_n 0, 1) := by decide +kernel
theorem dX12_line_50 : decode cX12_line 50 = .ok (.iload 4, 2) := by decide +kernel
theorem dX12_line_52 : decode cX12_line 52 = .ok (.invokevirtual 414, 3) := by decide +kernel
theorem dX12_line_55 : decode cX12_line 55 = .ok (.istore 4, 2) := by decide +kernel
theorem dX12_line_57 : decode cX12_line 57 = .ok (.iinc 3 1, 3) := by decide +kernel
theorem dX12_line_60 : decode cX12_line 60 = .ok (.goto (-36), 3) := by decide +kernel
theorem dX12_line_63 : decode cX12_line 63 = .ok (.iload_n 1, 1) := by decide +kernel
theorem dX12_line_64 : decode cX12_line 64 = .ok (.iload_n 3, 1) := by decide +kernel
theorem dX12_line_65 : decode cX12_line 65 = .ok (.invokestatic 302, 3) := by decide +kernel
theorem dX12_line_68 : decode cX12_line 68 = .ok (.istore_n 1, 1) := by decide +kernel
theorem dX12_line_69 : decode cX12_line 69 = .ok (.iinc 2 1, 3) := by decide +kernel
theorem dX12_line_72 : decode cX12_line 72 = .ok (.goto (-63), 3) := by decide +kernel
theorem dX12_line_75 : decode cX12_line 75 = .ok (.iload_n 1, 1) := by decide +kernel
theorem dX12_line_76 : decode cX12_line 76 = .ok (.ireturn, 1) := by decide +kernel
theorem dX12_hidden_0 : decode cX12_hidden 0 = .ok (.aload_n 0, 1) := by decide +kernel
theorem dX12_hidden_1 : decode cX12_hidden 1 = .ok (.iconst 0, 1) := by decide +kernel
theorem dX12_hidden_2 : decode cX12_hidden 2 = .ok (.putfield 142, 3) := by decide +kernel
theorem dX12_hidden_5 : decode cX12_hidden 5 = .ok (.aload_n 0, 1) := by decide +kernel
theorem dX12_hidden_6 : decode cX12_hidden 6 = .ok (.iload_n 1, 1) := by decide +kernel
theorem dX12_hidden_7 : decode cX12_hidden 7 = .ok (.invokevirtual 369, 3) := by decide +kernel
theorem dX12_hidden_10 : decode cX12_hidden 10 = .ok (.ifCond .eq 24, 3) := by decide +kernel
theorem dX12_hidden_13 : decode cX12_hidden 13 = .ok (.aload_n 0, 1) := by decide +kernel
theorem dX12_hidden_14 : decode cX12_hidden 14 = .ok (.invokevirtual 354, 3) := by decide +kernel
theorem dX12_hidden_17 : decode cX12_hidden 17 = .ok (.aload_n 0, 1) := by decide +kernel
theorem dX12_hidden_18 : decode cX12_hidden 18 = .ok (.iload_n 1, 1) := by decide +kernel
theorem dX12_hidden_19 : decode cX12_hidden 19 = .ok (.invokevirtual 343, 3) := by decide +kernel
theorem dX12_hidden_22 : decode cX12_hidden 22 = .ok (.iconst (-1), 1) := by decide +kernel
theorem dX12_hidden_23 : decode cX12_hidden 23 = .ok (.ixor, 1) := by decide +kernel
theorem dX12_hidden_24 : decode cX12_hidden 24 = .ok (.iand, 1) := by decide +kernel
theorem dX12_hidden_25 : decode cX12_hidden 25 = .ok (.iconst 1, 1) := by decide +kernel
theorem dX12_hidden_26 : decode cX12_hidden 26 = .ok (.iload_n 1, 1) := by decide +kernel
theorem dX12_hidden_27 : decode cX12_hidden 27 = .ok (.ishl, 1) := by decide +kernel
theorem dX12_hidden_28 : decode cX12_hidden 28 = .ok (.iconst (-1), 1) := by decide +kernel
theorem dX12_hidden_29 : decode cX12_hidden 29 = .ok (.ixor, 1) := by decide +kernel
theorem dX12_hidden_30 : decode cX12_hidden 30 = .ok (.iand, 1) := by decide +kernel
theorem dX12_hidden_31 : decode cX12_hidden 31 = .ok (.goto 8, 3) := by decide +kernel
theorem dX12_hidden_34 : decode cX12_hidden 34 = .ok (.aload_n 0, 1) := by decide +kernel
theorem dX12_hidden_35 : decode cX12_hidden 35 = .ok (.iconst 1, 1) := by decide +kernel
theorem dX12_hidden_36 : decode cX12_hidden 36 = .ok (.invokevirtual 274, 3) := by decide +kernel
theorem dX12_hidden_39 : decode cX12_hidden 39 = .ok (.ireturn, 1) := by decide +kernel
theorem dX12_crowd_0 : decode cX12_crowd 0 = .ok (.aload_n 0, 1) := by decide +kernel
theorem dX12_crowd_1 : decode cX12_crowd 1 = .ok (.iconst 0, 1) := by decide +kernel
theorem dX12_crowd_2 : decode cX12_crowd 2 = .ok (.putfield 142, 3) := by decide +kernel
theorem dX12_crowd_5 : decode cX12_crowd 5 = .ok (.iload_n 2, 1) := by decide +kernel
theorem dX12_crowd_6 : decode cX12_crowd 6 = .ok (.ifCond .lt 8, 3) := by decide +kernel
theorem dX12_crowd_9 : decode cX12_crowd 9 = .ok (.iload_n 2, 1) := by decide +kernel
theorem dX12_crowd_10 : decode cX12_crowd 10 = .ok (.iconst 1, 1) := by decide +kernel
theorem dX12_crowd_11 : decode cX12_crowd 11 = .ok (.if_icmp .le 9, 3) := by decide +kernel
theorem dX12_crowd_14 : decode cX12_crowd 14 = .ok (.aload_n 0, 1) := by decide +kernel
theorem dX12_crowd_15 : decode cX12_crowd 15 = .ok (.iconst 1, 1) := by decide +kernel
theorem dX12_crowd_16 : decode cX12_crowd 16 = .ok (.invokevirtual 274, 3) := by decide +kernel
theorem dX12_crowd_19 : decode cX12_crowd 19 = .ok (.ireturn, 1) := by decide +kernel
theorem dX12_crowd_20 : decode cX12_crowd 20 = .ok (.iload_n 1, 1) := by decide +kernel
theorem dX12_crowd_21 : decode cX12_crowd 21 = .ok (.i2l, 1) := by decide +kernel
theorem dX12_crowd_22 : decode cX12_crowd 22 = .ok (.lconst 1, 1) := by decide +kernel
theorem dX12_crowd_23 : decode cX12_crowd 23 = .ok (.ldc2_w 406, 3) := by decide +kernel
theorem dX12_crowd_26 : decode cX12_crowd 26 = .ok (.invokestatic 145, 3) := by decide +kernel
theorem dX12_crowd_29 : decode cX12_crowd 29 = .ok (.ifCond .ne 9, 3) := by decide +kernel
theorem dX12_crowd_32 : decode cX12_crowd 32 = .ok (.aload_n 0, 1) := by decide +kernel
theorem dX12_crowd_33 : decode cX12_crowd 33 = .ok (.iconst 2, 1) := by decide +kernel
theorem dX12_crowd_34 : decode cX12_crowd 34 = .ok (.invokevirtual 274, 3) := by decide +kernel
theorem dX12_crowd_37 : decode cX12_crowd 37 = .ok (.ireturn, 1) := by decide +kernel
theorem dX12_crowd_38 : decode cX12_crowd 38 = .ok (.aload_n 0, 1) := by decide +kernel
theorem dX12_crowd_39 : decode cX12_crowd 39 = .ok (.aload_n 0, 1) := by decide +kernel
theorem dX12_crowd_40 : decode cX12_crowd 40 = .ok (.getfield 96, 3) := by decide +kernel
theorem dX12_crowd_43 : decode cX12_crowd 43 = .ok (.iconst 0, 1) := by decide +kernel
theorem dX12_crowd_44 : decode cX12_crowd 44 = .ok (.invokevirtual 372, 3) := by decide +kernel
theorem dX12_crowd_47 : decode cX12_crowd 47 = .ok (.iconst 0, 1) := by decide +kernel
theorem dX12_crowd_48 : decode cX12_crowd 48 = .ok (.istore_n 3, 1) := by decide +kernel
theorem dX12_crowd_49 : decode cX12_crowd 49 = .ok (.iconst 0, 1) := by decide +kernel
theorem dX12_crowd_50 : decode cX12_crowd 50 = .ok (.istore 4, 2) := by decide +kernel
theorem dX12_crowd_52 : decode cX12_crowd 52 = .ok (.iconst 0, 1) := by decide +kernel
theorem dX12_crowd_53 : decode cX12_crowd 53 = .ok (.istore 5, 2) := by decide +kernel
theorem dX12_crowd_55 : decode cX12_crowd 55 = .ok (.iload 5, 2) := by decide +kernel
theorem dX12_crowd_57 : decode cX12_crowd 57 = .ok (.iload_n 1, 1) := by decide +kernel
theorem dX12_crowd_58 : decode cX12_crowd 58 = .ok (.if_icmp .ge 42, 3) := by decide +kernel
theorem dX12_crowd_61 : decode cX12_crowd 61 = .ok (.aload_n 0, 1) := by decide +kernel
theorem dX12_crowd_62 : decode cX12_crowd 62 = .ok (.invokevirtual 348, 3) := by decide +kernel
theorem dX12_crowd_65 : decode cX12_crowd 65 = .ok (.iload_n 3, 1) := by decide +kernel
theorem dX12_crowd_66 : decode cX12_crowd 66 = .ok (.aload_n 0, 1) := by decide +kernel
theorem dX12_crowd_67 : decode cX12_crowd 67 = .ok (.getfield 341, 3) := by decide +kernel
theorem dX12_crowd_70 : decode cX12_crowd 70 = .ok (.invokestatic 335, 3) := by decide +kernel
theorem dX12_crowd_73 : decode cX12_crowd 73 = .ok (.invokestatic 302, 3) := by decide +kernel
theorem dX12_crowd_76 : decode cX12_crowd 76 = .ok (.istore_n 3, 1) := by decide +kernel
theorem dX12_crowd_77 : decode cX12_crowd 77 = .ok (.iload 4, 2) := by decide +kernel
theorem dX12_crowd_79 : decode cX12_crowd 79 = .ok (.aload_n 0, 1) := by decide +kernel
theorem dX12_crowd_80 : decode cX12_crowd 80 = .ok (.getfield 341, 3) := by decide +kernel
theorem dX12_crowd_83 : decode cX12_crowd 83 = .ok (.ifCond .ne 7, 3) := by decide +kernel
theorem dX12_crowd_86 : decode cX12_crowd 86 = .ok (.iconst 1, 1) := by decide +kernel
theorem dX12_crowd_87 : decode cX12_crowd 87 = .ok (.goto 4, 3) := by decide +kernel
theorem dX12_crowd_90 : decode cX12_crowd 90 = .ok (.iconst 0, 1) := by decide +kernel
theorem dX12_crowd_91 : decode cX12_crowd 91 = .ok (.iadd, 1) := by decide +kernel
theorem dX12_crowd_92 : decode cX12_crowd 92 = .ok (.istore 4, 2) := by decide +kernel
theorem dX12_crowd_94 : decode cX12_crowd 94 = .ok (.iinc 5 1, 3) := by decide +kernel
theorem dX12_crowd_97 : decode cX12_crowd 97 = .ok (.goto (-42), 3) := by decide +kernel
theorem dX12_crowd_100 : decode cX12_crowd 100 = .ok (.aload_n 0, 1) := by decide +kernel
theorem dX12_crowd_101 : decode cX12_crowd 101 = .ok (.aload_n 0, 1) := by decide +kernel
theorem dX12_crowd_102 : decode cX12_crowd 102 = .ok (.getfield 96, 3) := by decide +kernel
theorem dX12_crowd_105 : decode cX12_crowd 105 = .ok (.iconst 0, 1) := by decide +kernel
theorem dX12_crowd_106 : decode cX12_crowd 106 = .ok (.invokevirtual 403, 3) := by decide +kernel
theorem dX12_crowd_109 : decode cX12_crowd 109 = .ok (.iload_n 2, 1) := by decide +kernel
theorem dX12_crowd_110 : decode cX12_crowd 110 = .ok (.ifCond .ne 7, 3) := by decide +kernel
theorem dX12_crowd_113 : decode cX12_crowd 113 = .ok (.iload_n 3, 1) := by decide +kernel
theorem dX12_crowd_114 : decode cX12_crowd 114 = .ok (.goto 5, 3) := by decide +kernel
theorem dX12_crowd_117 : decode cX12_crowd 117 = .ok (.iload 4, 2) := by decide +kernel
theorem dX12_crowd_119 : decode cX12_crowd 119 = .ok (.ireturn, 1) := by decide +kernel
theorem dX12_see_0 : decode cX12_see 0 = .ok (.aload_n 0, 1) := by decide +kernel
theorem dX12_see_1 : decode cX12_see 1 = .ok (.iconst 0, 1) := by decide +kernel
theorem dX12_see_2 : decode cX12_see 2 = .ok (.putfield 142, 3) := by decide +kernel
theorem dX12_see_5 : decode cX12_see 5 = .ok (.aload_n 0, 1) := by decide +kernel
theorem dX12_see_6 : decode cX12_see 6 = .ok (.iload_n 1, 1) := by decide +kernel
theorem dX12_see_7 : decode cX12_see 7 = .ok (.invokevirtual 369, 3) := by decide +kernel
theorem dX12_see_10 : decode cX12_see 10 = .ok (.ifCond .ne 9, 3) := by decide +kernel
theorem dX12_see_13 : decode cX12_see 13 = .ok (.aload_n 0, 1) := by decide +kernel
theorem dX12_see_14 : decode cX12_see 14 = .ok (.iconst 1, 1) := by decide +kernel
theorem dX12_see_15 : decode cX12_see 15 = .ok (.invokevirtual 274, 3) := by decide +kernel
theorem dX12_see_18 : decode cX12_see 18 = .ok (.ireturn, 1) := by decide +kernel
theorem dX12_see_19 : decode cX12_see 19 = .ok (.aload_n 0, 1) := by decide +kernel
theorem dX12_see_20 : decode cX12_see 20 = .ok (.getfield 296, 3) := by decide +kernel
theorem dX12_see_23 : decode cX12_see 23 = .ok (.bipush 8, 2) := by decide +kernel
theorem dX12_see_25 : decode cX12_see 25 = .ok (.if_icmp .eq 15, 3) := by decide +kernel
theorem dX12_see_28 : decode cX12_see 28 = .ok (.iload_n 2, 1) := by decide +kernel
theorem dX12_see_29 : decode cX12_see 29 = .ok (.i2l, 1) := by decide +kernel
theorem dX12_see_30 : decode cX12_see 30 = .ok (.lconst 1, 1) := by decide +kernel
theorem dX12_see_31 : decode cX12_see 31 = .ok (.ldc2_w 376, 3) := by decide +kernel
theorem dX12_see_34 : decode cX12_see 34 = .ok (.invokestatic 145, 3) := by decide +kernel
theorem dX12_see_37 : decode cX12_see 37 = .ok (.ifCond .ne 9, 3) := by decide +kernel
theorem dX12_see_40 : decode cX12_see 40 = .ok (.aload_n 0, 1) := by decide +kernel
theorem dX12_see_41 : decode cX12_see 41 = .ok (.iconst 2, 1) := by decide +kernel
theorem dX12_see_42 : decode cX12_see 42 = .ok (.invokevirtual 378, 3) := by decide +kernel
theorem dX12_see_45 : decode cX12_see 45 = .ok (.ireturn, 1) := by decide +kernel
theorem dX12_see_46 : decode cX12_see 46 = .ok (.aload_n 0, 1) := by decide +kernel
theorem dX12_see_47 : decode cX12_see 47 = .ok (.getfield 105, 3) := by decide +kernel
theorem dX12_see_50 : decode cX12_see 50 = .ok (.aload_n 0, 1) := by decide +kernel
theorem dX12_see_51 : decode cX12_see 51 = .ok (.getfield 296, 3) := by decide +kernel
theorem dX12_see_54 : decode cX12_see 54 = .ok (.iload_n 1, 1) := by decide +kernel
theorem dX12_see_55 : decode cX12_see 55 = .ok (.iastore, 1) := by decide +kernel
theorem dX12_see_56 : decode cX12_see 56 = .ok (.aload_n 0, 1) := by decide +kernel
theorem dX12_see_57 : decode cX12_see 57 = .ok (.getfield 108, 3) := by decide +kernel
theorem dX12_see_60 : decode cX12_see 60 = .ok (.aload_n 0, 1) := by decide +kernel
theorem dX12_see_61 : decode cX12_see 61 = .ok (.getfield 296, 3) := by decide +kernel
theorem dX12_see_64 : decode cX12_see 64 = .ok (.iload_n 2, 1) := by decide +kernel
theorem dX12_see_65 : decode cX12_see 65 = .ok (.iastore, 1) := by decide +kernel
theorem dX12_see_66 : decode cX12_see 66 = .ok (.aload_n 0, 1) := by decide +kernel
theorem dX12_see_67 : decode cX12_see 67 = .ok (.getfield 114, 3) := by decide +kernel
theorem dX12_see_70 : decode cX12_see 70 = .ok (.aload_n 0, 1) := by decide +kernel
theorem dX12_see_71 : decode cX12_see 71 = .ok (.getfield 296, 3) := by decide +kernel
theorem dX12_see_74 : decode cX12_see 74 = .ok (.iload_n 3, 1) := by decide +kernel
theorem dX12_see_75 : decode cX12_see 75 = .ok (.bastore, 1) := by decide +kernel
theorem dX12_see_76 : decode cX12_see 76 = .ok (.aload_n 0, 1) := by decide +kernel
theorem dX12_see_77 : decode cX12_see 77 = .ok (.dup, 1) := by decide +kernel
theorem dX12_see_78 : decode cX12_see 78 = .ok (.getfield 296, 3) := by decide +kernel
theorem dX12_see_81 : decode cX12_see 81 = .ok (.iconst 1, 1) := by decide +kernel
theorem dX12_see_82 : decode cX12_see 82 = .ok (.iadd, 1) := by decide +kernel
theorem dX12_see_83 : decode cX12_see 83 = .ok (.putfield 296, 3) := by decide +kernel
theorem dX12_see_86 : decode cX12_see 86 = .ok (.aload_n 0, 1) := by decide +kernel
theorem dX12_see_87 : decode cX12_see 87 = .ok (.getfield 296, 3) := by decide +kernel
theorem dX12_see_90 : decode cX12_see 90 = .ok (.ireturn, 1) := by decide +kernel
theorem dX12_isAsSeen_0 : decode cX12_isAsSeen 0 = .ok (.aload_n 0, 1) := by decide +kernel
theorem dX12_isAsSeen_1 : decode cX12_isAsSeen 1 = .ok (.aload_n 0, 1) := by decide +kernel
theorem dX12_isAsSeen_2 : decode cX12_isAsSeen 2 = .ok (.getfield 111, 3) := by decide +kernel
theorem dX12_isAsSeen_5 : decode cX12_isAsSeen 5 = .ok (.iconst 0, 1) := by decide +kernel
theorem dX12_isAsSeen_6 : decode cX12_isAsSeen 6 = .ok (.invokevirtual 372, 3) := by decide +kernel
theorem dX12_isAsSeen_9 : decode cX12_isAsSeen 9 = .ok (.iconst 1, 1) := by decide +kernel
theorem dX12_isAsSeen_10 : decode cX12_isAsSeen 10 = .ok (.istore_n 1, 1) := by decide +kernel
theorem dX12_isAsSeen_11 : decode cX12_isAsSeen 11 = .ok (.iconst 1, 1) := by decide +kernel
theorem dX12_isAsSeen_12 : decode cX12_isAsSeen 12 = .ok (.istore_n 2, 1) := by decide +kernel
theorem dX12_isAsSeen_13 : decode cX12_isAsSeen 13 = .ok (.iload_n 2, 1) := by decide +kernel
theorem dX12_isAsSeen_14 : decode cX12_isAsSeen 14 = .ok (.bipush 20, 2) := by decide +kernel
theorem dX12_isAsSeen_16 : decode cX12_isAsSeen 16 = .ok (.if_icmp .gt 75, 3) := by decide +kernel
theorem dX12_isAsSeen_19 : decode cX12_isAsSeen 19 = .ok (.iload_n 1, 1) := by decide +kernel
theorem dX12_isAsSeen_20 : decode cX12_isAsSeen 20 = .ok (.ifCond .eq 71, 3) := by decide +kernel
theorem dX12_isAsSeen_23 : decode cX12_isAsSeen 23 = .ok (.aload_n 0, 1) := by decide +kernel
theorem dX12_isAsSeen_24 : decode cX12_isAsSeen 24 = .ok (.invokevirtual 348, 3) := by decide +kernel
theorem dX12_isAsSeen_27 : decode cX12_isAsSeen 27 = .ok (.iconst 0, 1) := by decide +kernel
theorem dX12_isAsSeen_28 : decode cX12_isAsSeen 28 = .ok (.istore_n 3, 1) := by decide +kernel
theorem dX12_isAsSeen_29 : decode cX12_isAsSeen 29 = .ok (.iload_n 3, 1) := by decide +kernel
theorem dX12_isAsSeen_30 : decode cX12_isAsSeen 30 = .ok (.aload_n 0, 1) := by decide +kernel
theorem dX12_isAsSeen_31 : decode cX12_isAsSeen 31 = .ok (.getfield 296, 3) := by decide +kernel
theorem dX12_isAsSeen_34 : decode cX12_isAsSeen 34 = .ok (.if_icmp .ge 51, 3) := by decide +kernel
theorem dX12_isAsSeen_37 : decode cX12_isAsSeen 37 = .ok (.iload_n 1, 1) := by decide +kernel
theorem dX12_isAsSeen_38 : decode cX12_isAsSeen 38 = .ok (.ifCond .eq 39, 3) := by decide +kernel
theorem dX12_isAsSeen_41 : decode cX12_isAsSeen 41 = .ok (.aload_n 0, 1) := by decide +kernel
theorem dX12_isAsSeen_42 : decode cX12_isAsSeen 42 = .ok (.getfield 108, 3) := by decide +kernel
theorem dX12_isAsSeen_45 : decode cX12_isAsSeen 45 = .ok (.iload_n 3, 1) := by decide +kernel
theorem dX12_isAsSeen_46 : decode cX12_isAsSeen 46 = .ok (.iaload, 1) := by decide +kernel
theorem dX12_isAsSeen_47 : decode cX12_isAsSeen 47 = .ok (.iload_n 2, 1) := by decide +kernel
theorem dX12_isAsSeen_48 : decode cX12_isAsSeen 48 = .ok (.if_icmp .ne 25, 3) := by decide +kernel
theorem dX12_isAsSeen_51 : decode cX12_isAsSeen 51 = .ok (.aload_n 0, 1) := by decide +kernel
theorem dX12_isAsSeen_52 : decode cX12_isAsSeen 52 = .ok (.getfield 341, 3) := by decide +kernel
theorem dX12_isAsSeen_55 : decode cX12_isAsSeen 55 = .ok (.aload_n 0, 1) := by decide +kernel
theorem dX12_isAsSeen_56 : decode cX12_isAsSeen 56 = .ok (.getfield 105, 3) := by decide +kernel
theorem dX12_isAsSeen_59 : decode cX12_isAsSeen 59 = .ok (.iload_n 3, 1) := by decide +kernel
theorem dX12_isAsSeen_60 : decode cX12_isAsSeen 60 = .ok (.iaload, 1) := by decide +kernel
theorem dX12_isAsSeen_61 : decode cX12_isAsSeen 61 = .ok (.invokestatic 332, 3) := by decide +kernel
theorem dX12_isAsSeen_64 : decode cX12_isAsSeen 64 = .ok (.aload_n 0, 1) := by decide +kernel
theorem dX12_isAsSeen_65 : decode cX12_isAsSeen 65 = .ok (.getfield 114, 3) := by decide +kernel
theorem dX12_isAsSeen_68 : decode cX12_isAsSeen 68 = .ok (.iload_n 3, 1) := by decide +kernel
theorem dX12_isAsSeen_69 : decode cX12_isAsSeen 69 = .ok (.baload, 1) := by decide +kernel
theorem dX12_isAsSeen_70 : decode cX12_isAsSeen 70 = .ok (.if_icmp .ne 7, 3) := by decide +kernel
theorem dX12_isAsSeen_73 : decode cX12_isAsSeen 73 = .ok (.iconst 1, 1) := by decide +kernel
theorem dX12_isAsSeen_74 : decode cX12_isAsSeen 74 = .ok (.goto 4, 3) := by decide +kernel
theorem dX12_isAsSeen_77 : decode cX12_isAsSeen 77 = .ok (.iconst 0, 1) := by decide +kernel
theorem dX12_isAsSeen_78 : decode cX12_isAsSeen 78 = .ok (.istore_n 1, 1) := by decide +kernel
theorem dX12_isAsSeen_79 : decode cX12_isAsSeen 79 = .ok (.iinc 3 1, 3) := by decide +kernel
theorem dX12_isAsSeen_82 : decode cX12_isAsSeen 82 = .ok (.goto (-53), 3) := by decide +kernel
theorem dX12_isAsSeen_85 : decode cX12_isAsSeen 85 = .ok (.iinc 2 1, 3) := by decide +kernel
theorem dX12_isAsSeen_88 : decode cX12_isAsSeen 88 = .ok (.goto (-75), 3) := by decide +kernel
theorem dX12_isAsSeen_91 : decode cX12_isAsSeen 91 = .ok (.aload_n 0, 1) := by decide +kernel
theorem dX12_isAsSeen_92 : decode cX12_isAsSeen 92 = .ok (.aload_n 0, 1) := by decide +kernel
theorem dX12_isAsSeen_93 : decode cX12_isAsSeen 93 = .ok (.getfield 111, 3) := by decide +kernel
theorem dX12_isAsSeen_96 : decode cX12_isAsSeen 96 = .ok (.iconst 0, 1) := by decide +kernel
theorem dX12_isAsSeen_97 : decode cX12_isAsSeen 97 = .ok (.invokevirtual 403, 3) := by decide +kernel
theorem dX12_isAsSeen_100 : decode cX12_isAsSeen 100 = .ok (.iload_n 1, 1) := by decide +kernel
theorem dX12_isAsSeen_101 : decode cX12_isAsSeen 101 = .ok (.ireturn, 1) := by decide +kernel
theorem dX12_tellFits_0 : decode cX12_tellFits 0 = .ok (.aload_n 0, 1) := by decide +kernel
theorem dX12_tellFits_1 : decode cX12_tellFits 1 = .ok (.iconst 0, 1) := by decide +kernel
theorem dX12_tellFits_2 : decode cX12_tellFits 2 = .ok (.putfield 417, 3) := by decide +kernel
theorem dX12_tellFits_5 : decode cX12_tellFits 5 = .ok (.iconst 0, 1) := by decide +kernel
theorem dX12_tellFits_6 : decode cX12_tellFits 6 = .ok (.istore_n 1, 1) := by decide +kernel
theorem dX12_tellFits_7 : decode cX12_tellFits 7 = .ok (.iload_n 1, 1) := by decide +kernel
theorem dX12_tellFits_8 : decode cX12_tellFits 8 = .ok (.aload_n 0, 1) := by decide +kernel
theorem dX12_tellFits_9 : decode cX12_tellFits 9 = .ok (.getfield 34, 3) := by decide +kernel
theorem dX12_tellFits_12 : decode cX12_tellFits 12 = .ok (.iconst 0, 1) := by decide +kernel
theorem dX12_tellFits_13 : decode cX12_tellFits 13 = .ok (.iaload, 1) := by decide +kernel
theorem dX12_tellFits_14 : decode cX12_tellFits 14 = .ok (.if_icmp .ge 61, 3) := by decide +kernel
theorem dX12_tellFits_17 : decode cX12_tellFits 17 = .ok (.aload_n 0, 1) := by decide +kernel
theorem dX12_tellFits_18 : decode cX12_tellFits 18 = .ok (.getfield 69, 3) := by decide +kernel
theorem dX12_tellFits_21 : decode cX12_tellFits 21 = .ok (.iload_n 1, 1) := by decide +kernel
theorem dX12_tellFits_22 : decode cX12_tellFits 22 = .ok (.iaload, 1) := by decide +kernel
theorem dX12_tellFits_23 : decode cX12_tellFits 23 = .ok (.istore_n 2, 1) := by decide +kernel
theorem dX12_tellFits_24 : decode cX12_tellFits 24 = .ok (.aload_n 0, 1) := by decide +kernel
theorem dX12_tellFits_25 : decode cX12_tellFits 25 = .ok (.getfield 69, 3) := by decide +kernel
theorem dX12_tellFits_28 : decode cX12_tellFits 28 = .ok (.iload_n 1, 1) := by decide +kernel
theorem dX12_tellFits_29 : decode cX12_tellFits 29 = .ok (.iconst 1, 1) := by decide +kernel
theorem dX12_tellFits_30 : decode cX12_tellFits 30 = .ok (.iastore, 1) := by decide +kernel
theorem dX12_tellFits_31 : decode cX12_tellFits 31 = .ok (.aload_n 0, 1) := by decide +kernel
theorem dX12_tellFits_32 : decode cX12_tellFits 32 = .ok (.dup, 1) := by decide +kernel
theorem dX12_tellFits_33 : decode cX12_tellFits 33 = .ok (.getfield 417, 3) := by decide +kernel
theorem dX12_tellFits_36 : decode cX12_tellFits 36 = .ok (.aload_n 0, 1) := by decide +kernel
theorem dX12_tellFits_37 : decode cX12_tellFits 37 = .ok (.iload_n 1, 1) := by decide +kernel
theorem dX12_tellFits_38 : decode cX12_tellFits 38 = .ok (.invokevirtual 390, 3) := by decide +kernel
theorem dX12_tellFits_41 : decode cX12_tellFits 41 = .ok (.ifCond .ne 16, 3) := by decide +kernel
theorem dX12_tellFits_44 : decode cX12_tellFits 44 = .ok (.aload_n 0, 1) := by decide +kernel
theorem dX12_tellFits_45 : decode cX12_tellFits 45 = .ok (.invokevirtual 420, 3) := by decide +kernel
theorem dX12_tellFits_48 : decode cX12_tellFits 48 = .ok (.ifCond .eq 9, 3) := by decide +kernel
theorem dX12_tellFits_51 : decode cX12_tellFits 51 = .ok (.iconst 1, 1) := by decide +kernel
theorem dX12_tellFits_52 : decode cX12_tellFits 52 = .ok (.iload_n 1, 1) := by decide +kernel
theorem dX12_tellFits_53 : decode cX12_tellFits 53 = .ok (.ishl, 1) := by decide +kernel
theorem dX12_tellFits_54 : decode cX12_tellFits 54 = .ok (.goto 4, 3) := by decide +kernel
theorem dX12_tellFits_57 : decode cX12_tellFits 57 = .ok (.iconst 0, 1) := by decide +kernel
theorem dX12_tellFits_58 : decode cX12_tellFits 58 = .ok (.ior, 1) := by decide +kernel
theorem dX12_tellFits_59 : decode cX12_tellFits 59 = .ok (.putfield 417, 3) := by decide +kernel
theorem dX12_tellFits_62 : decode cX12_tellFits 62 = .ok (.aload_n 0, 1) := by decide +kernel
theorem dX12_tellFits_63 : decode cX12_tellFits 63 = .ok (.getfield 69, 3) := by decide +kernel
theorem dX12_tellFits_66 : decode cX12_tellFits 66 = .ok (.iload_n 1, 1) := by decide +kernel
theorem dX12_tellFits_67 : decode cX12_tellFits 67 = .ok (.iload_n 2, 1) := by decide +kernel
theorem dX12_tellFits_68 : decode cX12_tellFits 68 = .ok (.iastore, 1) := by decide +kernel
theorem dX12_tellFits_69 : decode cX12_tellFits 69 = .ok (.iinc 1 1, 3) := by decide +kernel
theorem dX12_tellFits_72 : decode cX12_tellFits 72 = .ok (.goto (-65), 3) := by decide +kernel
theorem dX12_tellFits_75 : decode cX12_tellFits 75 = .ok (.return_, 1) := by decide +kernel
theorem dX12_begun_0 : decode cX12_begun 0 = .ok (.aload_n 0, 1) := by decide +kernel
theorem dX12_begun_1 : decode cX12_begun 1 = .ok (.iconst 0, 1) := by decide +kernel
theorem dX12_begun_2 : decode cX12_begun 2 = .ok (.putfield 142, 3) := by decide +kernel
theorem dX12_begun_5 : decode cX12_begun 5 = .ok (.iload_n 1, 1) := by decide +kernel
theorem dX12_begun_6 : decode cX12_begun 6 = .ok (.i2l, 1) := by decide +kernel
theorem dX12_begun_7 : decode cX12_begun 7 = .ok (.lconst 0, 1) := by decide +kernel
theorem dX12_begun_8 : decode cX12_begun 8 = .ok (.ldc2_w 423, 3) := by decide +kernel
theorem dX12_begun_11 : decode cX12_begun 11 = .ok (.invokestatic 145, 3) := by decide +kernel
theorem dX12_begun_14 : decode cX12_begun 14 = .ok (.ifCond .ne 9, 3) := by decide +kernel
theorem dX12_begun_17 : decode cX12_begun 17 = .ok (.aload_n 0, 1) := by decide +kernel
theorem dX12_begun_18 : decode cX12_begun 18 = .ok (.iconst 1, 1) := by decide +kernel
theorem dX12_begun_19 : decode cX12_begun 19 = .ok (.invokevirtual 274, 3) := by decide +kernel
theorem dX12_begun_22 : decode cX12_begun 22 = .ok (.ireturn, 1) := by decide +kernel
theorem dX12_begun_23 : decode cX12_begun 23 = .ok (.iload_n 1, 1) := by decide +kernel
theorem dX12_begun_24 : decode cX12_begun 24 = .ok (.iconst 2, 1) := by decide +kernel
theorem dX12_begun_25 : decode cX12_begun 25 = .ok (.if_icmp .ne 16, 3) := by decide +kernel
theorem dX12_begun_28 : decode cX12_begun 28 = .ok (.aload_n 0, 1) := by decide +kernel
theorem dX12_begun_29 : decode cX12_begun 29 = .ok (.invokevirtual 420, 3) := by decide +kernel
theorem dX12_begun_32 : decode cX12_begun 32 = .ok (.ifCond .eq 7, 3) := by decide +kernel
theorem dX12_begun_35 : decode cX12_begun 35 = .ok (.iconst 1, 1) := by decide +kernel
theorem dX12_begun_36 : decode cX12_begun 36 = .ok (.goto 4, 3) := by decide +kernel
theorem dX12_begun_39 : decode cX12_begun 39 = .ok (.iconst 0, 1) := by decide +kernel
theorem dX12_begun_40 : decode cX12_begun 40 = .ok (.ireturn, 1) := by decide +kernel
theorem dX12_begun_41 : decode cX12_begun 41 = .ok (.aload_n 0, 1) := by decide +kernel
theorem dX12_begun_42 : decode cX12_begun 42 = .ok (.invokevirtual 425, 3) := by decide +kernel
theorem dX12_begun_45 : decode cX12_begun 45 = .ok (.iconst (-1), 1) := by decide +kernel
theorem dX12_begun_46 : decode cX12_begun 46 = .ok (.istore_n 2, 1) := by decide +kernel
theorem dX12_begun_47 : decode cX12_begun 47 = .ok (.bipush 8, 2) := by decide +kernel
theorem dX12_begun_49 : decode cX12_begun 49 = .ok (.istore_n 3, 1) := by decide +kernel
theorem dX12_begun_50 : decode cX12_begun 50 = .ok (.iload_n 3, 1) := by decide +kernel
theorem dX12_begun_51 : decode cX12_begun 51 = .ok (.ifCond .lt 22, 3) := by decide +kernel
theorem dX12_begun_54 : decode cX12_begun 54 = .ok (.aload_n 0, 1) := by decide +kernel
theorem dX12_begun_55 : decode cX12_begun 55 = .ok (.getfield 417, 3) := by decide +kernel
theorem dX12_begun_58 : decode cX12_begun 58 = .ok (.iload_n 3, 1) := by decide +kernel
theorem dX12_begun_59 : decode cX12_begun 59 = .ok (.invokestatic 332, 3) := by decide +kernel
theorem dX12_begun_62 : decode cX12_begun 62 = .ok (.ifCond .eq 5, 3) := by decide +kernel
theorem dX12_begun_65 : decode cX12_begun 65 = .ok (.iload_n 3, 1) := by decide +kernel
theorem dX12_begun_66 : decode cX12_begun 66 = .ok (.istore_n 2, 1) := by decide +kernel
theorem dX12_begun_67 : decode cX12_begun 67 = .ok (.iinc 3 (-1), 3) := by decide +kernel
theorem dX12_begun_70 : decode cX12_begun 70 = .ok (.goto (-20), 3) := by decide +kernel
theorem dX12_begun_73 : decode cX12_begun 73 = .ok (.iload_n 1, 1) := by decide +kernel
theorem dX12_begun_74 : decode cX12_begun 74 = .ok (.ifCond .ne 13, 3) := by decide +kernel
theorem dX12_begun_77 : decode cX12_begun 77 = .ok (.aload_n 0, 1) := by decide +kernel
theorem dX12_begun_78 : decode cX12_begun 78 = .ok (.getfield 417, 3) := by decide +kernel
theorem dX12_begun_81 : decode cX12_begun 81 = .ok (.invokestatic 335, 3) := by decide +kernel
theorem dX12_begun_84 : decode cX12_begun 84 = .ok (.goto 4, 3) := by decide +kernel
theorem dX12_begun_87 : decode cX12_begun 87 = .ok (.iload_n 2, 1) := by decide +kernel
theorem dX12_begun_88 : decode cX12_begun 88 = .ok (.ireturn, 1) := by decide +kernel
theorem dX12_unlike_0 : decode cX12_unlike 0 = .ok (.iconst 0, 1) := by decide +kernel
theorem dX12_unlike_1 : decode cX12_unlike 1 = .ok (.istore_n 2, 1) := by decide +kernel
theorem dX12_unlike_2 : decode cX12_unlike 2 = .ok (.iconst 0, 1) := by decide +kernel
theorem dX12_unlike_3 : decode cX12_unlike 3 = .ok (.istore_n 3, 1) := by decide +kernel
theorem dX12_unlike_4 : decode cX12_unlike 4 = .ok (.iload_n 3, 1) := by decide +kernel
theorem dX12_unlike_5 : decode cX12_unlike 5 = .ok (.aload_n 0, 1) := by decide +kernel
theorem dX12_unlike_6 : decode cX12_unlike 6 = .ok (.getfield 34, 3) := by decide +kernel
theorem dX12_unlike_9 : decode cX12_unlike 9 = .ok (.iconst 0, 1) := by decide +kernel
theorem dX12_unlike_10 : decode cX12_unlike 10 = .ok (.iaload, 1) := by decide +kernel
theorem dX12_unlike_11 : decode cX12_unlike 11 = .ok (.if_icmp .ge 97, 3) := by decide +kernel
theorem dX12_unlike_14 : decode cX12_unlike 14 = .ok (.aload_n 0, 1) := by decide +kernel
theorem dX12_unlike_15 : decode cX12_unlike 15 = .ok (.getfield 417, 3) := by decide +kernel
theorem dX12_unlike_18 : decode cX12_unlike 18 = .ok (.iload_n 3, 1) := by decide +kernel
theorem dX12_unlike_19 : decode cX12_unlike 19 = .ok (.invokestatic 332, 3) := by decide +kernel
theorem dX12_unlike_22 : decode cX12_unlike 22 = .ok (.istore 4, 2) := by decide +kernel
theorem dX12_unlike_24 : decode cX12_unlike 24 = .ok (.iconst 0, 1) := by decide +kernel
theorem dX12_unlike_25 : decode cX12_unlike 25 = .ok (.istore 5, 2) := by decide +kernel
theorem dX12_unlike_27 : decode cX12_unlike 27 = .ok (.iload 5, 2) := by decide +kernel
theorem dX12_unlike_29 : decode cX12_unlike 29 = .ok (.iload_n 3, 1) := by decide +kernel
theorem dX12_unlike_30 : decode cX12_unlike 30 = .ok (.if_icmp .ge 59, 3) := by decide +kernel
theorem dX12_unlike_33 : decode cX12_unlike 33 = .ok (.iload 4, 2) := by decide +kernel
theorem dX12_unlike_35 : decode cX12_unlike 35 = .ok (.ifCond .eq 54, 3) := by decide +kernel
theorem dX12_unlike_38 : decode cX12_unlike 38 = .ok (.aload_n 0, 1) := by decide +kernel
theorem dX12_unlike_39 : decode cX12_unlike 39 = .ok (.getfield 417, 3) := by decide +kernel
theorem dX12_unlike_42 : decode cX12_unlike 42 = .ok (.iload 5, 2) := by decide +kernel
theorem dX12_unlike_44 : decode cX12_unlike 44 = .ok (.invokestatic 332, 3) := by decide +kernel
theorem dX12_unlike_47 : decode cX12_unlike 47 = .ok (.ifCond .eq 29, 3) := by decide +kernel
theorem dX12_unlike_50 : decode cX12_unlike 50 = .ok (.aload_n 0, 1) := by decide +kernel
theorem dX12_unlike_51 : decode cX12_unlike 51 = .ok (.getfield 118, 3) := by decide +kernel
theorem dX12_unlike_54 : decode cX12_unlike 54 = .ok (.bipush 20, 2) := by decide +kernel
theorem dX12_unlike_56 : decode cX12_unlike 56 = .ok (.iload 5, 2) := by decide +kernel
theorem dX12_unlike_58 : decode cX12_unlike 58 = .ok (.imul, 1) := by decide +kernel
theorem dX12_unlike_59 : decode cX12_unlike 59 = .ok (.iload_n 1, 1) := by decide +kernel
theorem dX12_unlike_60 : decode cX12_unlike 60 = .ok (.iadd, 1) := by decide +kernel
theorem dX12_unlike_61 : decode cX12_unlike 61 = .ok (.iaload, 1) := by decide +kernel
theorem dX12_unlike_62 : decode cX12_unlike 62 = .ok (.aload_n 0, 1) := by decide +kernel
theorem dX12_unlike_63 : decode cX12_unlike 63 = .ok (.getfield 118, 3) := by decide +kernel
theorem dX12_unlike_66 : decode cX12_unlike 66 = .ok (.bipush 20, 2) := by decide +kernel
theorem dX12_unlike_68 : decode cX12_unlike 68 = .ok (.iload_n 3, 1) := by decide +kernel
theorem dX12_unlike_69 : decode cX12_unlike 69 = .ok (.imul, 1) := by decide +kernel
theorem dX12_unlike_70 : decode cX12_unlike 70 = .ok (.iload_n 1, 1) := by decide +kernel
theorem dX12_unlike_71 : decode cX12_unlike 71 = .ok (.iadd, 1) := by decide +kernel
theorem dX12_unlike_72 : decode cX12_unlike 72 = .ok (.iaload, 1) := by decide +kernel
theorem dX12_unlike_73 : decode cX12_unlike 73 = .ok (.if_icmp .eq 7, 3) := by decide +kernel
theorem dX12_unlike_76 : decode cX12_unlike 76 = .ok (.iconst 1, 1) := by decide +kernel
theorem dX12_unlike_77 : decode cX12_unlike 77 = .ok (.goto 4, 3) := by decide +kernel
theorem dX12_unlike_80 : decode cX12_unlike 80 = .ok (.iconst 0, 1) := by decide +kernel
theorem dX12_unlike_81 : decode cX12_unlike 81 = .ok (.istore 4, 2) := by decide +kernel
theorem dX12_unlike_83 : decode cX12_unlike 83 = .ok (.iinc 5 1, 3) := by decide +kernel
theorem dX12_unlike_86 : decode cX12_unlike 86 = .ok (.goto (-59), 3) := by decide +kernel
theorem dX12_unlike_89 : decode cX12_unlike 89 = .ok (.iload_n 2, 1) := by decide +kernel
theorem dX12_unlike_90 : decode cX12_unlike 90 = .ok (.iload 4, 2) := by decide +kernel
theorem dX12_unlike_92 : decode cX12_unlike 92 = .ok (.ifCond .eq 7, 3) := by decide +kernel
theorem dX12_unlike_95 : decode cX12_unlike 95 = .ok (.iconst 1, 1) := by decide +kernel
theorem dX12_unlike_96 : decode cX12_unlike 96 = .ok (.goto 4, 3) := by decide +kernel
theorem dX12_unlike_99 : decode cX12_unlike 99 = .ok (.iconst 0, 1) := by decide +kernel
theorem dX12_unlike_100 : decode cX12_unlike 100 = .ok (.iadd, 1) := by decide +kernel
theorem dX12_unlike_101 : decode cX12_unlike 101 = .ok (.istore_n 2, 1) := by decide +kernel
theorem dX12_unlike_102 : decode cX12_unlike 102 = .ok (.iinc 3 1, 3) := by decide +kernel
theorem dX12_unlike_105 : decode cX12_unlike 105 = .ok (.goto (-101), 3) := by decide +kernel
theorem dX12_unlike_108 : decode cX12_unlike 108 = .ok (.iload_n 2, 1) := by decide +kernel
theorem dX12_unlike_109 : decode cX12_unlike 109 = .ok (.ireturn, 1) := by decide +kernel
theorem dX12_look_0 : decode cX12_look 0 = .ok (.aload_n 0, 1) := by decide +kernel
theorem dX12_look_1 : decode cX12_look 1 = .ok (.iconst 0, 1) := by decide +kernel
theorem dX12_look_2 : decode cX12_look 2 = .ok (.putfield 142, 3) := by decide +kernel
theorem dX12_look_5 : decode cX12_look 5 = .ok (.iload_n 1, 1) := by decide +kernel
theorem dX12_look_6 : decode cX12_look 6 = .ok (.ifCond .lt 8, 3) := by decide +kernel
theorem dX12_look_9 : decode cX12_look 9 = .ok (.iload_n 1, 1) := by decide +kernel
theorem dX12_look_10 : decode cX12_look 10 = .ok (.iconst 1, 1) := by decide +kernel
theorem dX12_look_11 : decode cX12_look 11 = .ok (.if_icmp .le 9, 3) := by decide +kernel
theorem dX12_look_14 : decode cX12_look 14 = .ok (.aload_n 0, 1) := by decide +kernel
theorem dX12_look_15 : decode cX12_look 15 = .ok (.iconst 1, 1) := by decide +kernel
theorem dX12_look_16 : decode cX12_look 16 = .ok (.invokevirtual 274, 3) := by decide +kernel
theorem dX12_look_19 : decode cX12_look 19 = .ok (.ireturn, 1) := by decide +kernel
theorem dX12_look_20 : decode cX12_look 20 = .ok (.aload_n 0, 1) := by decide +kernel
theorem dX12_look_21 : decode cX12_look 21 = .ok (.invokevirtual 425, 3) := by decide +kernel
theorem dX12_look_24 : decode cX12_look 24 = .ok (.aload_n 0, 1) := by decide +kernel
theorem dX12_look_25 : decode cX12_look 25 = .ok (.aload_n 0, 1) := by decide +kernel
theorem dX12_look_26 : decode cX12_look 26 = .ok (.getfield 96, 3) := by decide +kernel
theorem dX12_look_29 : decode cX12_look 29 = .ok (.iconst 0, 1) := by decide +kernel
theorem dX12_look_30 : decode cX12_look 30 = .ok (.invokevirtual 372, 3) := by decide +kernel
theorem dX12_look_33 : decode cX12_look 33 = .ok (.iconst 0, 1) := by decide +kernel
theorem dX12_look_34 : decode cX12_look 34 = .ok (.istore_n 2, 1) := by decide +kernel
theorem dX12_look_35 : decode cX12_look 35 = .ok (.iload_n 2, 1) := by decide +kernel
theorem dX12_look_36 : decode cX12_look 36 = .ok (.aload_n 0, 1) := by decide +kernel
theorem dX12_look_37 : decode cX12_look 37 = .ok (.getfield 34, 3) := by decide +kernel
theorem dX12_look_40 : decode cX12_look 40 = .ok (.iconst 0, 1) := by decide +kernel
theorem dX12_look_41 : decode cX12_look 41 = .ok (.iaload, 1) := by decide +kernel
theorem dX12_look_42 : decode cX12_look 42 = .ok (.if_icmp .ge 72, 3) := by decide +kernel
theorem dX12_look_45 : decode cX12_look 45 = .ok (.aload_n 0, 1) := by decide +kernel
theorem dX12_look_46 : decode cX12_look 46 = .ok (.getfield 417, 3) := by decide +kernel
theorem dX12_look_49 : decode cX12_look 49 = .ok (.iload_n 2, 1) := by decide +kernel
theorem dX12_look_50 : decode cX12_look 50 = .ok (.invokestatic 332, 3) := by decide +kernel
theorem dX12_look_53 : decode cX12_look 53 = .ok (.ifCond .ne 6, 3) := by decide +kernel
theorem dX12_look_56 : decode cX12_look 56 = .ok (.goto 52, 3) := by decide +kernel
theorem dX12_look_59 : decode cX12_look 59 = .ok (.aload_n 0, 1) := by decide +kernel
theorem dX12_look_60 : decode cX12_look 60 = .ok (.getfield 69, 3) := by decide +kernel
theorem dX12_look_63 : decode cX12_look 63 = .ok (.iload_n 2, 1) := by decide +kernel
theorem dX12_look_64 : decode cX12_look 64 = .ok (.iconst 1, 1) := by decide +kernel
theorem dX12_look_65 : decode cX12_look 65 = .ok (.iastore, 1) := by decide +kernel
theorem dX12_look_66 : decode cX12_look 66 = .ok (.iconst 0, 1) := by decide +kernel
theorem dX12_look_67 : decode cX12_look 67 = .ok (.istore_n 3, 1) := by decide +kernel
theorem dX12_look_68 : decode cX12_look 68 = .ok (.iload_n 3, 1) := by decide +kernel
theorem dX12_look_69 : decode cX12_look 69 = .ok (.bipush 20, 2) := by decide +kernel
theorem dX12_look_71 : decode cX12_look 71 = .ok (.if_icmp .ge 28, 3) := by decide +kernel
theorem dX12_look_74 : decode cX12_look 74 = .ok (.aload_n 0, 1) := by decide +kernel
theorem dX12_look_75 : decode cX12_look 75 = .ok (.invokevirtual 348, 3) := by decide +kernel
theorem dX12_look_78 : decode cX12_look 78 = .ok (.aload_n 0, 1) := by decide +kernel
theorem dX12_look_79 : decode cX12_look 79 = .ok (.getfield 118, 3) := by decide +kernel
theorem dX12_look_82 : decode cX12_look 82 = .ok (.bipush 20, 2) := by decide +kernel
theorem dX12_look_84 : decode cX12_look 84 = .ok (.iload_n 2, 1) := by decide +kernel
theorem dX12_look_85 : decode cX12_look 85 = .ok (.imul, 1) := by decide +kernel
theorem dX12_look_86 : decode cX12_look 86 = .ok (.iload_n 3, 1) := by decide +kernel
theorem dX12_look_87 : decode cX12_look 87 = .ok (.iadd, 1) := by decide +kernel
theorem dX12_look_88 : decode cX12_look 88 = .ok (.aload_n 0, 1) := by decide +kernel
theorem dX12_look_89 : decode cX12_look 89 = .ok (.getfield 341, 3) := by decide +kernel
theorem dX12_look_92 : decode cX12_look 92 = .ok (.iastore, 1) := by decide +kernel
theorem dX12_look_93 : decode cX12_look 93 = .ok (.iinc 3 1, 3) := by decide +kernel
theorem dX12_look_96 : decode cX12_look 96 = .ok (.goto (-28), 3) := by decide +kernel
theorem dX12_look_99 : decode cX12_look 99 = .ok (.aload_n 0, 1) := by decide +kernel
theorem dX12_look_100 : decode cX12_look 100 = .ok (.aload_n 0, 1) := by decide +kernel
theorem dX12_look_101 : decode cX12_look 101 = .ok (.getfield 96, 3) := by decide +kernel
theorem dX12_look_104 : decode cX12_look 104 = .ok (.iconst 0, 1) := by decide +kernel
theorem dX12_look_105 : decode cX12_look 105 = .ok (.invokevirtual 403, 3) := by decide +kernel
theorem dX12_look_108 : decode cX12_look 108 = .ok (.iinc 2 1, 3) := by decide +kernel
theorem dX12_look_111 : decode cX12_look 111 = .ok (.goto (-76), 3) := by decide +kernel
theorem dX12_look_114 : decode cX12_look 114 = .ok (.iconst (-1), 1) := by decide +kernel
theorem dX12_look_115 : decode cX12_look 115 = .ok (.istore_n 2, 1) := by decide +kernel
theorem dX12_look_116 : decode cX12_look 116 = .ok (.iconst 0, 1) := by decide +kernel
theorem dX12_look_117 : decode cX12_look 117 = .ok (.istore_n 3, 1) := by decide +kernel
theorem dX12_look_118 : decode cX12_look 118 = .ok (.iconst 0, 1) := by decide +kernel
theorem dX12_look_119 : decode cX12_look 119 = .ok (.istore 4, 2) := by decide +kernel
theorem dX12_look_121 : decode cX12_look 121 = .ok (.iload 4, 2) := by decide +kernel
theorem dX12_look_123 : decode cX12_look 123 = .ok (.bipush 20, 2) := by decide +kernel
theorem dX12_look_125 : decode cX12_look 125 = .ok (.if_icmp .ge 34, 3) := by decide +kernel
theorem dX12_look_128 : decode cX12_look 128 = .ok (.aload_n 0, 1) := by decide +kernel
theorem dX12_look_129 : decode cX12_look 129 = .ok (.iload 4, 2) := by decide +kernel
theorem dX12_look_131 : decode cX12_look 131 = .ok (.invokevirtual 428, 3) := by decide +kernel
theorem dX12_look_134 : decode cX12_look 134 = .ok (.istore 5, 2) := by decide +kernel
theorem dX12_look_136 : decode cX12_look 136 = .ok (.iload 5, 2) := by decide +kernel
theorem dX12_look_138 : decode cX12_look 138 = .ok (.iload_n 3, 1) := by decide +kernel
theorem dX12_look_139 : decode cX12_look 139 = .ok (.if_icmp .gt 6, 3) := by decide +kernel
theorem dX12_look_142 : decode cX12_look 142 = .ok (.goto 11, 3) := by decide +kernel
theorem dX12_look_145 : decode cX12_look 145 = .ok (.iload 4, 2) := by decide +kernel
theorem dX12_look_147 : decode cX12_look 147 = .ok (.iconst 1, 1) := by decide +kernel
theorem dX12_look_148 : decode cX12_look 148 = .ok (.iadd, 1) := by decide +kernel
theorem dX12_look_149 : decode cX12_look 149 = .ok (.istore_n 2, 1) := by decide +kernel
theorem dX12_look_150 : decode cX12_look 150 = .ok (.iload 5, 2) := by decide +kernel
theorem dX12_look_152 : decode cX12_look 152 = .ok (.istore_n 3, 1) := by decide +kernel
theorem dX12_look_153 : decode cX12_look 153 = .ok (.iinc 4 1, 3) := by decide +kernel
theorem dX12_look_156 : decode cX12_look 156 = .ok (.goto (-35), 3) := by decide +kernel
theorem dX12_look_159 : decode cX12_look 159 = .ok (.iload_n 1, 1) := by decide +kernel
theorem dX12_look_160 : decode cX12_look 160 = .ok (.ifCond .ne 7, 3) := by decide +kernel
theorem dX12_look_163 : decode cX12_look 163 = .ok (.iload_n 2, 1) := by decide +kernel
theorem dX12_look_164 : decode cX12_look 164 = .ok (.goto 4, 3) := by decide +kernel
theorem dX12_look_167 : decode cX12_look 167 = .ok (.iload_n 3, 1) := by decide +kernel
theorem dX12_look_168 : decode cX12_look 168 = .ok (.ireturn, 1) := by decide +kernel
theorem dX12_forget_0 : decode cX12_forget 0 = .ok (.aload_n 0, 1) := by decide +kernel
theorem dX12_forget_1 : decode cX12_forget 1 = .ok (.iconst 0, 1) := by decide +kernel
theorem dX12_forget_2 : decode cX12_forget 2 = .ok (.putfield 142, 3) := by decide +kernel
theorem dX12_forget_5 : decode cX12_forget 5 = .ok (.aload_n 0, 1) := by decide +kernel
theorem dX12_forget_6 : decode cX12_forget 6 = .ok (.iconst 0, 1) := by decide +kernel
theorem dX12_forget_7 : decode cX12_forget 7 = .ok (.putfield 296, 3) := by decide +kernel
theorem dX12_forget_10 : decode cX12_forget 10 = .ok (.return_, 1) := by decide +kernel
theorem dX12_byMist_0 : decode cX12_byMist 0 = .ok (.aload_n 0, 1) := by decide +kernel
theorem dX12_byMist_1 : decode cX12_byMist 1 = .ok (.iconst 0, 1) := by decide +kernel
theorem dX12_byMist_2 : decode cX12_byMist 2 = .ok (.putfield 142, 3) := by decide +kernel
theorem dX12_byMist_5 : decode cX12_byMist 5 = .ok (.aload_n 0, 1) := by decide +kernel
theorem dX12_byMist_6 : decode cX12_byMist 6 = .ok (.iload_n 1, 1) := by decide +kernel
theorem dX12_byMist_7 : decode cX12_byMist 7 = .ok (.invokevirtual 369, 3) := by decide +kernel
theorem dX12_byMist_10 : decode cX12_byMist 10 = .ok (.ifCond .ne 9, 3) := by decide +kernel
theorem dX12_byMist_13 : decode cX12_byMist 13 = .ok (.aload_n 0, 1) := by decide +kernel
theorem dX12_byMist_14 : decode cX12_byMist 14 = .ok (.iconst 1, 1) := by decide +kernel
theorem dX12_byMist_15 : decode cX12_byMist 15 = .ok (.invokevirtual 274, 3) := by decide +kernel
theorem dX12_byMist_18 : decode cX12_byMist 18 = .ok (.ireturn, 1) := by decide +kernel
theorem dX12_byMist_19 : decode cX12_byMist 19 = .ok (.iload_n 2, 1) := by decide +kernel
theorem dX12_byMist_20 : decode cX12_byMist 20 = .ok (.i2l, 1) := by decide +kernel
theorem dX12_byMist_21 : decode cX12_byMist 21 = .ok (.lconst 1, 1) := by decide +kernel
theorem dX12_byMist_22 : decode cX12_byMist 22 = .ok (.ldc2_w 431, 3) := by decide +kernel
theorem dX12_byMist_25 : decode cX12_byMist 25 = .ok (.invokestatic 145, 3) := by decide +kernel
theorem dX12_byMist_28 : decode cX12_byMist 28 = .ok (.ifCond .eq 15, 3) := by decide +kernel
theorem dX12_byMist_31 : decode cX12_byMist 31 = .ok (.iload_n 3, 1) := by decide +kernel
theorem dX12_byMist_32 : decode cX12_byMist 32 = .ok (.i2l, 1) := by decide +kernel
theorem dX12_byMist_33 : decode cX12_byMist 33 = .ok (.lconst 0, 1) := by decide +kernel
theorem dX12_byMist_34 : decode cX12_byMist 34 = .ok (.ldc2_w 433, 3) := by decide +kernel
theorem dX12_byMist_37 : decode cX12_byMist 37 = .ok (.invokestatic 145, 3) := by decide +kernel
theorem dX12_byMist_40 : decode cX12_byMist 40 = .ok (.ifCond .ne 9, 3) := by decide +kernel
theorem dX12_byMist_43 : decode cX12_byMist 43 = .ok (.aload_n 0, 1) := by decide +kernel
theorem dX12_byMist_44 : decode cX12_byMist 44 = .ok (.iconst 2, 1) := by decide +kernel
theorem dX12_byMist_45 : decode cX12_byMist 45 = .ok (.invokevirtual 274, 3) := by decide +kernel
theorem dX12_byMist_48 : decode cX12_byMist 48 = .ok (.ireturn, 1) := by decide +kernel
theorem dX12_byMist_49 : decode cX12_byMist 49 = .ok (.iconst 0, 1) := by decide +kernel
theorem dX12_byMist_50 : decode cX12_byMist 50 = .ok (.istore 4, 2) := by decide +kernel
theorem dX12_byMist_52 : decode cX12_byMist 52 = .ok (.aload_n 0, 1) := by decide +kernel
theorem dX12_byMist_53 : decode cX12_byMist 53 = .ok (.aload_n 0, 1) := by decide +kernel
theorem dX12_byMist_54 : decode cX12_byMist 54 = .ok (.getfield 96, 3) := by decide +kernel
theorem dX12_byMist_57 : decode cX12_byMist 57 = .ok (.iconst 0, 1) := by decide +kernel
theorem dX12_byMist_58 : decode cX12_byMist 58 = .ok (.invokevirtual 372, 3) := by decide +kernel
theorem dX12_byMist_61 : decode cX12_byMist 61 = .ok (.iconst 0, 1) := by decide +kernel
theorem dX12_byMist_62 : decode cX12_byMist 62 = .ok (.istore 5, 2) := by decide +kernel
theorem dX12_byMist_64 : decode cX12_byMist 64 = .ok (.iload 5, 2) := by decide +kernel
theorem dX12_byMist_66 : decode cX12_byMist 66 = .ok (.iconst 1, 1) := by decide +kernel
theorem dX12_byMist_67 : decode cX12_byMist 67 = .ok (.iload_n 2, 1) := by decide +kernel
theorem dX12_byMist_68 : decode cX12_byMist 68 = .ok (.ishl, 1) := by decide +kernel
theorem dX12_byMist_69 : decode cX12_byMist 69 = .ok (.if_icmp .ge 116, 3) := by decide +kernel
theorem dX12_byMist_72 : decode cX12_byMist 72 = .ok (.iconst 1, 1) := by decide +kernel
theorem dX12_byMist_73 : decode cX12_byMist 73 = .ok (.istore 6, 2) := by decide +kernel
theorem dX12_byMist_75 : decode cX12_byMist 75 = .ok (.iconst 0, 1) := by decide +kernel
theorem dX12_byMist_76 : decode cX12_byMist 76 = .ok (.istore 7, 2) := by decide +kernel
theorem dX12_byMist_78 : decode cX12_byMist 78 = .ok (.iconst 0, 1) := by decide +kernel
theorem dX12_byMist_79 : decode cX12_byMist 79 = .ok (.istore 8, 2) := by decide +kernel
theorem dX12_byMist_81 : decode cX12_byMist 81 = .ok (.iload 8, 2) := by decide +kernel
theorem dX12_byMist_83 : decode cX12_byMist 83 = .ok (.iload_n 2, 1) := by decide +kernel
theorem dX12_byMist_84 : decode cX12_byMist 84 = .ok (.if_icmp .ge 65, 3) := by decide +kernel
theorem dX12_byMist_87 : decode cX12_byMist 87 = .ok (.aload_n 0, 1) := by decide +kernel
theorem dX12_byMist_88 : decode cX12_byMist 88 = .ok (.iload 5, 2) := by decide +kernel
theorem dX12_byMist_90 : decode cX12_byMist 90 = .ok (.iload 8, 2) := by decide +kernel
theorem dX12_byMist_92 : decode cX12_byMist 92 = .ok (.invokestatic 332, 3) := by decide +kernel
theorem dX12_byMist_95 : decode cX12_byMist 95 = .ok (.ifCond .eq 8, 3) := by decide +kernel
theorem dX12_byMist_98 : decode cX12_byMist 98 = .ok (.bipush 9, 2) := by decide +kernel
theorem dX12_byMist_100 : decode cX12_byMist 100 = .ok (.goto 4, 3) := by decide +kernel
theorem dX12_byMist_103 : decode cX12_byMist 103 = .ok (.iconst 0, 1) := by decide +kernel
theorem dX12_byMist_104 : decode cX12_byMist 104 = .ok (.putfield 84, 3) := by decide +kernel
theorem dX12_byMist_107 : decode cX12_byMist 107 = .ok (.iload 6, 2) := by decide +kernel
theorem dX12_byMist_109 : decode cX12_byMist 109 = .ok (.iload 5, 2) := by decide +kernel
theorem dX12_byMist_111 : decode cX12_byMist 111 = .ok (.iload 8, 2) := by decide +kernel
theorem dX12_byMist_113 : decode cX12_byMist 113 = .ok (.invokestatic 332, 3) := by decide +kernel
theorem dX12_byMist_116 : decode cX12_byMist 116 = .ok (.ifCond .eq 7, 3) := by decide +kernel
theorem dX12_byMist_119 : decode cX12_byMist 119 = .ok (.iload_n 3, 1) := by decide +kernel
theorem dX12_byMist_120 : decode cX12_byMist 120 = .ok (.goto 7, 3) := by decide +kernel
theorem dX12_byMist_123 : decode cX12_byMist 123 = .ok (.bipush 10, 2) := by decide +kernel
theorem dX12_byMist_125 : decode cX12_byMist 125 = .ok (.iload_n 3, 1) := by decide +kernel
theorem dX12_byMist_126 : decode cX12_byMist 126 = .ok (.isub, 1) := by decide +kernel
theorem dX12_byMist_127 : decode cX12_byMist 127 = .ok (.imul, 1) := by decide +kernel
theorem dX12_byMist_128 : decode cX12_byMist 128 = .ok (.istore 6, 2) := by decide +kernel
theorem dX12_byMist_130 : decode cX12_byMist 130 = .ok (.aload_n 0, 1) := by decide +kernel
theorem dX12_byMist_131 : decode cX12_byMist 131 = .ok (.invokevirtual 348, 3) := by decide +kernel
theorem dX12_byMist_134 : decode cX12_byMist 134 = .ok (.iload 7, 2) := by decide +kernel
theorem dX12_byMist_136 : decode cX12_byMist 136 = .ok (.aload_n 0, 1) := by decide +kernel
theorem dX12_byMist_137 : decode cX12_byMist 137 = .ok (.getfield 341, 3) := by decide +kernel
theorem dX12_byMist_140 : decode cX12_byMist 140 = .ok (.ior, 1) := by decide +kernel
theorem dX12_byMist_141 : decode cX12_byMist 141 = .ok (.istore 7, 2) := by decide +kernel
theorem dX12_byMist_143 : decode cX12_byMist 143 = .ok (.iinc 8 1, 3) := by decide +kernel
theorem dX12_byMist_146 : decode cX12_byMist 146 = .ok (.goto (-65), 3) := by decide +kernel
theorem dX12_byMist_149 : decode cX12_byMist 149 = .ok (.aload_n 0, 1) := by decide +kernel
theorem dX12_byMist_150 : decode cX12_byMist 150 = .ok (.aload_n 0, 1) := by decide +kernel
theorem dX12_byMist_151 : decode cX12_byMist 151 = .ok (.getfield 96, 3) := by decide +kernel
theorem dX12_byMist_154 : decode cX12_byMist 154 = .ok (.iconst 0, 1) := by decide +kernel
theorem dX12_byMist_155 : decode cX12_byMist 155 = .ok (.invokevirtual 403, 3) := by decide +kernel
theorem dX12_byMist_158 : decode cX12_byMist 158 = .ok (.iload 4, 2) := by decide +kernel
theorem dX12_byMist_160 : decode cX12_byMist 160 = .ok (.aload_n 0, 1) := by decide +kernel
theorem dX12_byMist_161 : decode cX12_byMist 161 = .ok (.iload_n 1, 1) := by decide +kernel
theorem dX12_byMist_162 : decode cX12_byMist 162 = .ok (.iload 7, 2) := by decide +kernel
theorem dX12_byMist_164 : decode cX12_byMist 164 = .ok (.invokevirtual 435, 3) := by decide +kernel
theorem dX12_byMist_167 : decode cX12_byMist 167 = .ok (.ifCond .eq 8, 3) := by decide +kernel
theorem dX12_byMist_170 : decode cX12_byMist 170 = .ok (.iload 6, 2) := by decide +kernel
theorem dX12_byMist_172 : decode cX12_byMist 172 = .ok (.goto 4, 3) := by decide +kernel
theorem dX12_byMist_175 : decode cX12_byMist 175 = .ok (.iconst 0, 1) := by decide +kernel
theorem dX12_byMist_176 : decode cX12_byMist 176 = .ok (.iadd, 1) := by decide +kernel
theorem dX12_byMist_177 : decode cX12_byMist 177 = .ok (.istore 4, 2) := by decide +kernel
theorem dX12_byMist_179 : decode cX12_byMist 179 = .ok (.iinc 5 1, 3) := by decide +kernel
theorem dX12_byMist_182 : decode cX12_byMist 182 = .ok (.goto (-118), 3) := by decide +kernel
theorem dX12_byMist_185 : decode cX12_byMist 185 = .ok (.aload_n 0, 1) := by decide +kernel
theorem dX12_byMist_186 : decode cX12_byMist 186 = .ok (.iconst (-1), 1) := by decide +kernel
theorem dX12_byMist_187 : decode cX12_byMist 187 = .ok (.putfield 84, 3) := by decide +kernel
theorem dX12_byMist_190 : decode cX12_byMist 190 = .ok (.iload 4, 2) := by decide +kernel
theorem dX12_byMist_192 : decode cX12_byMist 192 = .ok (.ireturn, 1) := by decide +kernel
theorem dX12_nodsMore_0 : decode cX12_nodsMore 0 = .ok (.iload_n 2, 1) := by decide +kernel
theorem dX12_nodsMore_1 : decode cX12_nodsMore 1 = .ok (.iload_n 1, 1) := by decide +kernel
theorem dX12_nodsMore_2 : decode cX12_nodsMore 2 = .ok (.invokestatic 332, 3) := by decide +kernel
theorem dX12_nodsMore_5 : decode cX12_nodsMore 5 = .ok (.ifCond .eq 19, 3) := by decide +kernel
theorem dX12_nodsMore_8 : decode cX12_nodsMore 8 = .ok (.aload_n 0, 1) := by decide +kernel
theorem dX12_nodsMore_9 : decode cX12_nodsMore 9 = .ok (.getfield 75, 3) := by decide +kernel
theorem dX12_nodsMore_12 : decode cX12_nodsMore 12 = .ok (.iload_n 1, 1) := by decide +kernel
theorem dX12_nodsMore_13 : decode cX12_nodsMore 13 = .ok (.iaload, 1) := by decide +kernel
theorem dX12_nodsMore_14 : decode cX12_nodsMore 14 = .ok (.sipush 999, 3) := by decide +kernel
theorem dX12_nodsMore_17 : decode cX12_nodsMore 17 = .ok (.if_icmp .ge 7, 3) := by decide +kernel
theorem dX12_nodsMore_20 : decode cX12_nodsMore 20 = .ok (.iconst 1, 1) := by decide +kernel
theorem dX12_nodsMore_21 : decode cX12_nodsMore 21 = .ok (.goto 4, 3) := by decide +kernel
theorem dX12_nodsMore_24 : decode cX12_nodsMore 24 = .ok (.iconst 0, 1) := by decide +kernel
theorem dX12_nodsMore_25 : decode cX12_nodsMore 25 = .ok (.ireturn, 1) := by decide +kernel
theorem dX12_tellGains_0 : decode cX12_tellGains 0 = .ok (.aload_n 0, 1) := by decide +kernel
theorem dX12_tellGains_1 : decode cX12_tellGains 1 = .ok (.aload_n 0, 1) := by decide +kernel
theorem dX12_tellGains_2 : decode cX12_tellGains 2 = .ok (.getfield 96, 3) := by decide +kernel
theorem dX12_tellGains_5 : decode cX12_tellGains 5 = .ok (.iconst 0, 1) := by decide +kernel
theorem dX12_tellGains_6 : decode cX12_tellGains 6 = .ok (.invokevirtual 372, 3) := by decide +kernel
theorem dX12_tellGains_9 : decode cX12_tellGains 9 = .ok (.iconst 0, 1) := by decide +kernel
theorem dX12_tellGains_10 : decode cX12_tellGains 10 = .ok (.istore_n 3, 1) := by decide +kernel
theorem dX12_tellGains_11 : decode cX12_tellGains 11 = .ok (.iload_n 3, 1) := by decide +kernel
theorem dX12_tellGains_12 : decode cX12_tellGains 12 = .ok (.iconst 4, 1) := by decide +kernel
theorem dX12_tellGains_13 : decode cX12_tellGains 13 = .ok (.if_icmp .ge 168, 3) := by decide +kernel
theorem dX12_tellGains_16 : decode cX12_tellGains 16 = .ok (.iload_n 3, 1) := by decide +kernel
theorem dX12_tellGains_17 : decode cX12_tellGains 17 = .ok (.iconst 2, 1) := by decide +kernel
theorem dX12_tellGains_18 : decode cX12_tellGains 18 = .ok (.idiv, 1) := by decide +kernel
theorem dX12_tellGains_19 : decode cX12_tellGains 19 = .ok (.iconst 1, 1) := by decide +kernel
theorem dX12_tellGains_20 : decode cX12_tellGains 20 = .ok (.if_icmp .ne 10, 3) := by decide +kernel
theorem dX12_tellGains_23 : decode cX12_tellGains 23 = .ok (.aload_n 0, 1) := by decide +kernel
theorem dX12_tellGains_24 : decode cX12_tellGains 24 = .ok (.getfield 69, 3) := by decide +kernel
theorem dX12_tellGains_27 : decode cX12_tellGains 27 = .ok (.iload_n 1, 1) := by decide +kernel
theorem dX12_tellGains_28 : decode cX12_tellGains 28 = .ok (.iconst 1, 1) := by decide +kernel
theorem dX12_tellGains_29 : decode cX12_tellGains 29 = .ok (.iastore, 1) := by decide +kernel
theorem dX12_tellGains_30 : decode cX12_tellGains 30 = .ok (.iload_n 3, 1) := by decide +kernel
theorem dX12_tellGains_31 : decode cX12_tellGains 31 = .ok (.iconst 2, 1) := by decide +kernel
theorem dX12_tellGains_32 : decode cX12_tellGains 32 = .ok (.irem, 1) := by decide +kernel
theorem dX12_tellGains_33 : decode cX12_tellGains 33 = .ok (.iconst 1, 1) := by decide +kernel
theorem dX12_tellGains_34 : decode cX12_tellGains 34 = .ok (.if_icmp .ne 10, 3) := by decide +kernel
theorem dX12_tellGains_37 : decode cX12_tellGains 37 = .ok (.aload_n 0, 1) := by decide +kernel
theorem dX12_tellGains_38 : decode cX12_tellGains 38 = .ok (.getfield 69, 3) := by decide +kernel
theorem dX12_tellGains_41 : decode cX12_tellGains 41 = .ok (.iload_n 2, 1) := by decide +kernel
theorem dX12_tellGains_42 : decode cX12_tellGains 42 = .ok (.iconst 1, 1) := by decide +kernel
theorem dX12_tellGains_43 : decode cX12_tellGains 43 = .ok (.iastore, 1) := by decide +kernel
theorem dX12_tellGains_44 : decode cX12_tellGains 44 = .ok (.iconst 0, 1) := by decide +kernel
theorem dX12_tellGains_45 : decode cX12_tellGains 45 = .ok (.istore 4, 2) := by decide +kernel
theorem dX12_tellGains_47 : decode cX12_tellGains 47 = .ok (.iconst 0, 1) := by decide +kernel
theorem dX12_tellGains_48 : decode cX12_tellGains 48 = .ok (.istore 5, 2) := by decide +kernel
theorem dX12_tellGains_50 : decode cX12_tellGains 50 = .ok (.iconst 0, 1) := by decide +kernel
theorem dX12_tellGains_51 : decode cX12_tellGains 51 = .ok (.istore 6, 2) := by decide +kernel
theorem dX12_tellGains_53 : decode cX12_tellGains 53 = .ok (.iconst 0, 1) := by decide +kernel
theorem dX12_tellGains_54 : decode cX12_tellGains 54 = .ok (.istore 7, 2) := by decide +kernel
theorem dX12_tellGains_56 : decode cX12_tellGains 56 = .ok (.iload 7, 2) := by decide +kernel
theorem dX12_tellGains_58 : decode cX12_tellGains 58 = .ok (.bipush 9, 2) := by decide +kernel
theorem dX12_tellGains_60 : decode cX12_tellGains 60 = .ok (.if_icmp .ge 48, 3) := by decide +kernel
theorem dX12_tellGains_63 : decode cX12_tellGains 63 = .ok (.aload_n 0, 1) := by decide +kernel
theorem dX12_tellGains_64 : decode cX12_tellGains 64 = .ok (.invokevirtual 348, 3) := by decide +kernel
theorem dX12_tellGains_67 : decode cX12_tellGains 67 = .ok (.iload 4, 2) := by decide +kernel
theorem dX12_tellGains_69 : decode cX12_tellGains 69 = .ok (.aload_n 0, 1) := by decide +kernel
theorem dX12_tellGains_70 : decode cX12_tellGains 70 = .ok (.getfield 341, 3) := by decide +kernel
theorem dX12_tellGains_73 : decode cX12_tellGains 73 = .ok (.ior, 1) := by decide +kernel
theorem dX12_tellGains_74 : decode cX12_tellGains 74 = .ok (.istore 4, 2) := by decide +kernel
theorem dX12_tellGains_76 : decode cX12_tellGains 76 = .ok (.iload 5, 2) := by decide +kernel
theorem dX12_tellGains_78 : decode cX12_tellGains 78 = .ok (.aload_n 0, 1) := by decide +kernel
theorem dX12_tellGains_79 : decode cX12_tellGains 79 = .ok (.getfield 341, 3) := by decide +kernel
theorem dX12_tellGains_82 : decode cX12_tellGains 82 = .ok (.iload_n 1, 1) := by decide +kernel
theorem dX12_tellGains_83 : decode cX12_tellGains 83 = .ok (.ishr, 1) := by decide +kernel
theorem dX12_tellGains_84 : decode cX12_tellGains 84 = .ok (.iconst 1, 1) := by decide +kernel
theorem dX12_tellGains_85 : decode cX12_tellGains 85 = .ok (.iand, 1) := by decide +kernel
theorem dX12_tellGains_86 : decode cX12_tellGains 86 = .ok (.iadd, 1) := by decide +kernel
theorem dX12_tellGains_87 : decode cX12_tellGains 87 = .ok (.istore 5, 2) := by decide +kernel
theorem dX12_tellGains_89 : decode cX12_tellGains 89 = .ok (.iload 6, 2) := by decide +kernel
theorem dX12_tellGains_91 : decode cX12_tellGains 91 = .ok (.aload_n 0, 1) := by decide +kernel
theorem dX12_tellGains_92 : decode cX12_tellGains 92 = .ok (.getfield 341, 3) := by decide +kernel
theorem dX12_tellGains_95 : decode cX12_tellGains 95 = .ok (.iload_n 2, 1) := by decide +kernel
theorem dX12_tellGains_96 : decode cX12_tellGains 96 = .ok (.ishr, 1) := by decide +kernel
theorem dX12_tellGains_97 : decode cX12_tellGains 97 = .ok (.iconst 1, 1) := by decide +kernel
theorem dX12_tellGains_98 : decode cX12_tellGains 98 = .ok (.iand, 1) := by decide +kernel
theorem dX12_tellGains_99 : decode cX12_tellGains 99 = .ok (.iadd, 1) := by decide +kernel
theorem dX12_tellGains_100 : decode cX12_tellGains 100 = .ok (.istore 6, 2) := by decide +kernel
theorem dX12_tellGains_102 : decode cX12_tellGains 102 = .ok (.iinc 7 1, 3) := by decide +kernel
theorem dX12_tellGains_105 : decode cX12_tellGains 105 = .ok (.goto (-49), 3) := by decide +kernel
theorem dX12_tellGains_108 : decode cX12_tellGains 108 = .ok (.aload_n 0, 1) := by decide +kernel
theorem dX12_tellGains_109 : decode cX12_tellGains 109 = .ok (.getfield 121, 3) := by decide +kernel
theorem dX12_tellGains_112 : decode cX12_tellGains 112 = .ok (.iconst 2, 1) := by decide +kernel
theorem dX12_tellGains_113 : decode cX12_tellGains 113 = .ok (.iload_n 3, 1) := by decide +kernel
theorem dX12_tellGains_114 : decode cX12_tellGains 114 = .ok (.imul, 1) := by decide +kernel
theorem dX12_tellGains_115 : decode cX12_tellGains 115 = .ok (.iload 4, 2) := by decide +kernel
theorem dX12_tellGains_117 : decode cX12_tellGains 117 = .ok (.iconst 1, 1) := by decide +kernel
theorem dX12_tellGains_118 : decode cX12_tellGains 118 = .ok (.iload_n 1, 1) := by decide +kernel
theorem dX12_tellGains_119 : decode cX12_tellGains 119 = .ok (.ishl, 1) := by decide +kernel
theorem dX12_tellGains_120 : decode cX12_tellGains 120 = .ok (.iconst (-1), 1) := by decide +kernel
theorem dX12_tellGains_121 : decode cX12_tellGains 121 = .ok (.ixor, 1) := by decide +kernel
theorem dX12_tellGains_122 : decode cX12_tellGains 122 = .ok (.iand, 1) := by decide +kernel
theorem dX12_tellGains_123 : decode cX12_tellGains 123 = .ok (.invokestatic 335, 3) := by decide +kernel
theorem dX12_tellGains_126 : decode cX12_tellGains 126 = .ok (.iconst 2, 1) := by decide +kernel
theorem dX12_tellGains_127 : decode cX12_tellGains 127 = .ok (.iload_n 3, 1) := by decide +kernel
theorem dX12_tellGains_128 : decode cX12_tellGains 128 = .ok (.iconst 2, 1) := by decide +kernel
theorem dX12_tellGains_129 : decode cX12_tellGains 129 = .ok (.idiv, 1) := by decide +kernel
theorem dX12_tellGains_130 : decode cX12_tellGains 130 = .ok (.imul, 1) := by decide +kernel
theorem dX12_tellGains_131 : decode cX12_tellGains 131 = .ok (.isub, 1) := by decide +kernel
theorem dX12_tellGains_132 : decode cX12_tellGains 132 = .ok (.iload 5, 2) := by decide +kernel
theorem dX12_tellGains_134 : decode cX12_tellGains 134 = .ok (.isub, 1) := by decide +kernel
theorem dX12_tellGains_135 : decode cX12_tellGains 135 = .ok (.iastore, 1) := by decide +kernel
theorem dX12_tellGains_136 : decode cX12_tellGains 136 = .ok (.aload_n 0, 1) := by decide +kernel
theorem dX12_tellGains_137 : decode cX12_tellGains 137 = .ok (.getfield 121, 3) := by decide +kernel
theorem dX12_tellGains_140 : decode cX12_tellGains 140 = .ok (.iconst 2, 1) := by decide +kernel
theorem dX12_tellGains_141 : decode cX12_tellGains 141 = .ok (.iload_n 3, 1) := by decide +kernel
theorem dX12_tellGains_142 : decode cX12_tellGains 142 = .ok (.imul, 1) := by decide +kernel
theorem dX12_tellGains_143 : decode cX12_tellGains 143 = .ok (.iconst 1, 1) := by decide +kernel
theorem dX12_tellGains_144 : decode cX12_tellGains 144 = .ok (.iadd, 1) := by decide +kernel
theorem dX12_tellGains_145 : decode cX12_tellGains 145 = .ok (.iload 4, 2) := by decide +kernel
theorem dX12_tellGains_147 : decode cX12_tellGains 147 = .ok (.iconst 1, 1) := by decide +kernel
theorem dX12_tellGains_148 : decode cX12_tellGains 148 = .ok (.iload_n 2, 1) := by decide +kernel
theorem dX12_tellGains_149 : decode cX12_tellGains 149 = .ok (.ishl, 1) := by decide +kernel
theorem dX12_tellGains_150 : decode cX12_tellGains 150 = .ok (.iconst (-1), 1) := by decide +kernel
theorem dX12_tellGains_151 : decode cX12_tellGains 151 = .ok (.ixor, 1) := by decide +kernel
theorem dX12_tellGains_152 : decode cX12_tellGains 152 = .ok (.iand, 1) := by decide +kernel
theorem dX12_tellGains_153 : decode cX12_tellGains 153 = .ok (.invokestatic 335, 3) := by decide +kernel
theorem dX12_tellGains_156 : decode cX12_tellGains 156 = .ok (.iconst 2, 1) := by decide +kernel
theorem dX12_tellGains_157 : decode cX12_tellGains 157 = .ok (.iload_n 3, 1) := by decide +kernel
theorem dX12_tellGains_158 : decode cX12_tellGains 158 = .ok (.iconst 2, 1) := by decide +kernel
theorem dX12_tellGains_159 : decode cX12_tellGains 159 = .ok (.irem, 1) := by decide +kernel
theorem dX12_tellGains_160 : decode cX12_tellGains 160 = .ok (.imul, 1) := by decide +kernel
theorem dX12_tellGains_161 : decode cX12_tellGains 161 = .ok (.isub, 1) := by decide +kernel
theorem dX12_tellGains_162 : decode cX12_tellGains 162 = .ok (.iload 6, 2) := by decide +kernel
theorem dX12_tellGains_164 : decode cX12_tellGains 164 = .ok (.isub, 1) := by decide +kernel
theorem dX12_tellGains_165 : decode cX12_tellGains 165 = .ok (.iastore, 1) := by decide +kernel
theorem dX12_tellGains_166 : decode cX12_tellGains 166 = .ok (.aload_n 0, 1) := by decide +kernel
theorem dX12_tellGains_167 : decode cX12_tellGains 167 = .ok (.aload_n 0, 1) := by decide +kernel
theorem dX12_tellGains_168 : decode cX12_tellGains 168 = .ok (.getfield 96, 3) := by decide +kernel
theorem dX12_tellGains_171 : decode cX12_tellGains 171 = .ok (.iconst 0, 1) := by decide +kernel
theorem dX12_tellGains_172 : decode cX12_tellGains 172 = .ok (.invokevirtual 403, 3) := by decide +kernel
theorem dX12_tellGains_175 : decode cX12_tellGains 175 = .ok (.iinc 3 1, 3) := by decide +kernel
theorem dX12_tellGains_178 : decode cX12_tellGains 178 = .ok (.goto (-167), 3) := by decide +kernel
theorem dX12_tellGains_181 : decode cX12_tellGains 181 = .ok (.return_, 1) := by decide +kernel
theorem dX12_game_0 : decode cX12_game 0 = .ok (.aload_n 0, 1) := by decide +kernel
theorem dX12_game_1 : decode cX12_game 1 = .ok (.iconst 0, 1) := by decide +kernel
theorem dX12_game_2 : decode cX12_game 2 = .ok (.putfield 142, 3) := by decide +kernel
theorem dX12_game_5 : decode cX12_game 5 = .ok (.aload_n 0, 1) := by decide +kernel
theorem dX12_game_6 : decode cX12_game 6 = .ok (.iload_n 1, 1) := by decide +kernel
theorem dX12_game_7 : decode cX12_game 7 = .ok (.invokevirtual 369, 3) := by decide +kernel
theorem dX12_game_10 : decode cX12_game 10 = .ok (.ifCond .eq 20, 3) := by decide +kernel
theorem dX12_game_13 : decode cX12_game 13 = .ok (.aload_n 0, 1) := by decide +kernel
theorem dX12_game_14 : decode cX12_game 14 = .ok (.iload_n 2, 1) := by decide +kernel
theorem dX12_game_15 : decode cX12_game 15 = .ok (.invokevirtual 369, 3) := by decide +kernel
theorem dX12_game_18 : decode cX12_game 18 = .ok (.ifCond .eq 12, 3) := by decide +kernel
theorem dX12_game_21 : decode cX12_game 21 = .ok (.iload_n 3, 1) := by decide +kernel
theorem dX12_game_22 : decode cX12_game 22 = .ok (.ifCond .lt 8, 3) := by decide +kernel
theorem dX12_game_25 : decode cX12_game 25 = .ok (.iload_n 3, 1) := by decide +kernel
theorem dX12_game_26 : decode cX12_game 26 = .ok (.iconst 1, 1) := by decide +kernel
theorem dX12_game_27 : decode cX12_game 27 = .ok (.if_icmp .le 9, 3) := by decide +kernel
theorem dX12_game_30 : decode cX12_game 30 = .ok (.aload_n 0, 1) := by decide +kernel
theorem dX12_game_31 : decode cX12_game 31 = .ok (.iconst 1, 1) := by decide +kernel
theorem dX12_game_32 : decode cX12_game 32 = .ok (.invokevirtual 274, 3) := by decide +kernel
theorem dX12_game_35 : decode cX12_game 35 = .ok (.ireturn, 1) := by decide +kernel
theorem dX12_game_36 : decode cX12_game 36 = .ok (.iload_n 1, 1) := by decide +kernel
theorem dX12_game_37 : decode cX12_game 37 = .ok (.iload_n 2, 1) := by decide +kernel
theorem dX12_game_38 : decode cX12_game 38 = .ok (.if_icmp .ne 9, 3) := by decide +kernel
theorem dX12_game_41 : decode cX12_game 41 = .ok (.aload_n 0, 1) := by decide +kernel
theorem dX12_game_42 : decode cX12_game 42 = .ok (.iconst 2, 1) := by decide +kernel
theorem dX12_game_43 : decode cX12_game 43 = .ok (.invokevirtual 274, 3) := by decide +kernel
theorem dX12_game_46 : decode cX12_game 46 = .ok (.ireturn, 1) := by decide +kernel
theorem dX12_game_47 : decode cX12_game 47 = .ok (.aload_n 0, 1) := by decide +kernel
theorem dX12_game_48 : decode cX12_game 48 = .ok (.iload_n 1, 1) := by decide +kernel
theorem dX12_game_49 : decode cX12_game 49 = .ok (.invokevirtual 390, 3) := by decide +kernel
theorem dX12_game_52 : decode cX12_game 52 = .ok (.ifCond .ne 11, 3) := by decide +kernel
theorem dX12_game_55 : decode cX12_game 55 = .ok (.aload_n 0, 1) := by decide +kernel
theorem dX12_game_56 : decode cX12_game 56 = .ok (.iload_n 2, 1) := by decide +kernel
theorem dX12_game_57 : decode cX12_game 57 = .ok (.invokevirtual 390, 3) := by decide +kernel
theorem dX12_game_60 : decode cX12_game 60 = .ok (.ifCond .eq 5, 3) := by decide +kernel
theorem dX12_game_63 : decode cX12_game 63 = .ok (.iconst (-1), 1) := by decide +kernel
theorem dX12_game_64 : decode cX12_game 64 = .ok (.ireturn, 1) := by decide +kernel
theorem dX12_game_65 : decode cX12_game 65 = .ok (.aload_n 0, 1) := by decide +kernel
theorem dX12_game_66 : decode cX12_game 66 = .ok (.iload_n 1, 1) := by decide +kernel
theorem dX12_game_67 : decode cX12_game 67 = .ok (.iload_n 2, 1) := by decide +kernel
theorem dX12_game_68 : decode cX12_game 68 = .ok (.invokevirtual 438, 3) := by decide +kernel
theorem dX12_game_71 : decode cX12_game 71 = .ok (.iconst 0, 1) := by decide +kernel
theorem dX12_game_72 : decode cX12_game 72 = .ok (.istore 4, 2) := by decide +kernel
theorem dX12_game_74 : decode cX12_game 74 = .ok (.iconst (-1), 1) := by decide +kernel
theorem dX12_game_75 : decode cX12_game 75 = .ok (.istore 5, 2) := by decide +kernel
theorem dX12_game_77 : decode cX12_game 77 = .ok (.iconst 0, 1) := by decide +kernel
theorem dX12_game_78 : decode cX12_game 78 = .ok (.istore 6, 2) := by decide +kernel
theorem dX12_game_80 : decode cX12_game 80 = .ok (.iload 6, 2) := by decide +kernel
theorem dX12_game_82 : decode cX12_game 82 = .ok (.iconst 4, 1) := by decide +kernel
theorem dX12_game_83 : decode cX12_game 83 = .ok (.if_icmp .ge 90, 3) := by decide +kernel
theorem dX12_game_86 : decode cX12_game 86 = .ok (.aload_n 0, 1) := by decide +kernel
theorem dX12_game_87 : decode cX12_game 87 = .ok (.getfield 121, 3) := by decide +kernel
theorem dX12_game_90 : decode cX12_game 90 = .ok (.iconst 2, 1) := by decide +kernel
theorem dX12_game_91 : decode cX12_game 91 = .ok (.iload 6, 2) := by decide +kernel
theorem dX12_game_93 : decode cX12_game 93 = .ok (.iconst 2, 1) := by decide +kernel
theorem dX12_game_94 : decode cX12_game 94 = .ok (.ixor, 1) := by decide +kernel
theorem dX12_game_95 : decode cX12_game 95 = .ok (.imul, 1) := by decide +kernel
theorem dX12_game_96 : decode cX12_game 96 = .ok (.iaload, 1) := by decide +kernel
theorem dX12_game_97 : decode cX12_game 97 = .ok (.aload_n 0, 1) := by decide +kernel
theorem dX12_game_98 : decode cX12_game 98 = .ok (.getfield 121, 3) := by decide +kernel
theorem dX12_game_101 : decode cX12_game 101 = .ok (.iconst 2, 1) := by decide +kernel
theorem dX12_game_102 : decode cX12_game 102 = .ok (.iload 6, 2) := by decide +kernel
theorem dX12_game_104 : decode cX12_game 104 = .ok (.imul, 1) := by decide +kernel
theorem dX12_game_105 : decode cX12_game 105 = .ok (.iaload, 1) := by decide +kernel
theorem dX12_game_106 : decode cX12_game 106 = .ok (.if_icmp .gt 61, 3) := by decide +kernel
theorem dX12_game_109 : decode cX12_game 109 = .ok (.aload_n 0, 1) := by decide +kernel
theorem dX12_game_110 : decode cX12_game 110 = .ok (.getfield 121, 3) := by decide +kernel
theorem dX12_game_113 : decode cX12_game 113 = .ok (.iconst 2, 1) := by decide +kernel
theorem dX12_game_114 : decode cX12_game 114 = .ok (.iload 6, 2) := by decide +kernel
theorem dX12_game_116 : decode cX12_game 116 = .ok (.iconst 1, 1) := by decide +kernel
theorem dX12_game_117 : decode cX12_game 117 = .ok (.ixor, 1) := by decide +kernel
theorem dX12_game_118 : decode cX12_game 118 = .ok (.imul, 1) := by decide +kernel
theorem dX12_game_119 : decode cX12_game 119 = .ok (.iconst 1, 1) := by decide +kernel
theorem dX12_game_120 : decode cX12_game 120 = .ok (.iadd, 1) := by decide +kernel
theorem dX12_game_121 : decode cX12_game 121 = .ok (.iaload, 1) := by decide +kernel
theorem dX12_game_122 : decode cX12_game 122 = .ok (.aload_n 0, 1) := by decide +kernel
theorem dX12_game_123 : decode cX12_game 123 = .ok (.getfield 121, 3) := by decide +kernel
theorem dX12_game_126 : decode cX12_game 126 = .ok (.iconst 2, 1) := by decide +kernel
theorem dX12_game_127 : decode cX12_game 127 = .ok (.iload 6, 2) := by decide +kernel
theorem dX12_game_129 : decode cX12_game 129 = .ok (.imul, 1) := by decide +kernel
theorem dX12_game_130 : decode cX12_game 130 = .ok (.iconst 1, 1) := by decide +kernel
theorem dX12_game_131 : decode cX12_game 131 = .ok (.iadd, 1) := by decide +kernel
theorem dX12_game_132 : decode cX12_game 132 = .ok (.iaload, 1) := by decide +kernel
theorem dX12_game_133 : decode cX12_game 133 = .ok (.if_icmp .le 6, 3) := by decide +kernel
theorem dX12_game_136 : decode cX12_game 136 = .ok (.goto 31, 3) := by decide +kernel
theorem dX12_game_139 : decode cX12_game 139 = .ok (.iinc 4 1, 3) := by decide +kernel
theorem dX12_game_142 : decode cX12_game 142 = .ok (.iload 5, 2) := by decide +kernel
theorem dX12_game_144 : decode cX12_game 144 = .ok (.iconst (-1), 1) := by decide +kernel
theorem dX12_game_145 : decode cX12_game 145 = .ok (.if_icmp .ne 18, 3) := by decide +kernel
theorem dX12_game_148 : decode cX12_game 148 = .ok (.bipush 10, 2) := by decide +kernel
theorem dX12_game_150 : decode cX12_game 150 = .ok (.iload 6, 2) := by decide +kernel
theorem dX12_game_152 : decode cX12_game 152 = .ok (.iconst 2, 1) := by decide +kernel
theorem dX12_game_153 : decode cX12_game 153 = .ok (.idiv, 1) := by decide +kernel
theorem dX12_game_154 : decode cX12_game 154 = .ok (.imul, 1) := by decide +kernel
theorem dX12_game_155 : decode cX12_game 155 = .ok (.iload 6, 2) := by decide +kernel
theorem dX12_game_157 : decode cX12_game 157 = .ok (.iconst 2, 1) := by decide +kernel
theorem dX12_game_158 : decode cX12_game 158 = .ok (.irem, 1) := by decide +kernel
theorem dX12_game_159 : decode cX12_game 159 = .ok (.iadd, 1) := by decide +kernel
theorem dX12_game_160 : decode cX12_game 160 = .ok (.goto 5, 3) := by decide +kernel
theorem dX12_game_163 : decode cX12_game 163 = .ok (.iload 5, 2) := by decide +kernel
theorem dX12_game_165 : decode cX12_game 165 = .ok (.istore 5, 2) := by decide +kernel
theorem dX12_game_167 : decode cX12_game 167 = .ok (.iinc 6 1, 3) := by decide +kernel
theorem dX12_game_170 : decode cX12_game 170 = .ok (.goto (-90), 3) := by decide +kernel
theorem dX12_game_173 : decode cX12_game 173 = .ok (.iload_n 3, 1) := by decide +kernel
theorem dX12_game_174 : decode cX12_game 174 = .ok (.ifCond .ne 8, 3) := by decide +kernel
theorem dX12_game_177 : decode cX12_game 177 = .ok (.iload 4, 2) := by decide +kernel
theorem dX12_game_179 : decode cX12_game 179 = .ok (.goto 5, 3) := by decide +kernel
theorem dX12_game_182 : decode cX12_game 182 = .ok (.iload 5, 2) := by decide +kernel
theorem dX12_game_184 : decode cX12_game 184 = .ok (.ireturn, 1) := by decide +kernel
theorem dX12_drawOf_0 : decode cX12_drawOf 0 = .ok (.aload_n 0, 1) := by decide +kernel
theorem dX12_drawOf_1 : decode cX12_drawOf 1 = .ok (.aload_n 0, 1) := by decide +kernel
theorem dX12_drawOf_2 : decode cX12_drawOf 2 = .ok (.getfield 442, 3) := by decide +kernel
theorem dX12_drawOf_5 : decode cX12_drawOf 5 = .ok (.ldc_w 445, 3) := by decide +kernel
theorem dX12_drawOf_8 : decode cX12_drawOf 8 = .ok (.imul, 1) := by decide +kernel
theorem dX12_drawOf_9 : decode cX12_drawOf 9 = .ok (.sipush 12345, 3) := by decide +kernel
theorem dX12_drawOf_12 : decode cX12_drawOf 12 = .ok (.iadd, 1) := by decide +kernel
theorem dX12_drawOf_13 : decode cX12_drawOf 13 = .ok (.putfield 442, 3) := by decide +kernel
theorem dX12_drawOf_16 : decode cX12_drawOf 16 = .ok (.aload_n 0, 1) := by decide +kernel
theorem dX12_drawOf_17 : decode cX12_drawOf 17 = .ok (.getfield 442, 3) := by decide +kernel
theorem dX12_drawOf_20 : decode cX12_drawOf 20 = .ok (.bipush 16, 2) := by decide +kernel
theorem dX12_drawOf_22 : decode cX12_drawOf 22 = .ok (.ishr, 1) := by decide +kernel
theorem dX12_drawOf_23 : decode cX12_drawOf 23 = .ok (.sipush 32767, 3) := by decide +kernel
theorem dX12_drawOf_26 : decode cX12_drawOf 26 = .ok (.iand, 1) := by decide +kernel
theorem dX12_drawOf_27 : decode cX12_drawOf 27 = .ok (.iload_n 1, 1) := by decide +kernel
theorem dX12_drawOf_28 : decode cX12_drawOf 28 = .ok (.irem, 1) := by decide +kernel
theorem dX12_drawOf_29 : decode cX12_drawOf 29 = .ok (.ireturn, 1) := by decide +kernel
theorem dX12_something_0 : decode cX12_something 0 = .ok (.aload_n 0, 1) := by decide +kernel
theorem dX12_something_1 : decode cX12_something 1 = .ok (.bipush 6, 2) := by decide +kernel
theorem dX12_something_3 : decode cX12_something 3 = .ok (.invokevirtual 446, 3) := by decide +kernel
theorem dX12_something_6 : decode cX12_something 6 = .ok (.istore_n 1, 1) := by decide +kernel
theorem dX12_something_7 : decode cX12_something 7 = .ok (.iload_n 1, 1) := by decide +kernel
theorem dX12_something_8 : decode cX12_something 8 = .ok (.iconst 3, 1) := by decide +kernel
theorem dX12_something_9 : decode cX12_something 9 = .ok (.if_icmp .ge 69, 3) := by decide +kernel
theorem dX12_something_12 : decode cX12_something 12 = .ok (.aload_n 0, 1) := by decide +kernel
theorem dX12_something_13 : decode cX12_something 13 = .ok (.getfield 34, 3) := by decide +kernel
theorem dX12_something_16 : decode cX12_something 16 = .ok (.iconst 0, 1) := by decide +kernel
theorem dX12_something_17 : decode cX12_something 17 = .ok (.iaload, 1) := by decide +kernel
theorem dX12_something_18 : decode cX12_something 18 = .ok (.ifCond .le 60, 3) := by decide +kernel
theorem dX12_something_21 : decode cX12_something 21 = .ok (.aload_n 0, 1) := by decide +kernel
theorem dX12_something_22 : decode cX12_something 22 = .ok (.aload_n 0, 1) := by decide +kernel
theorem dX12_something_23 : decode cX12_something 23 = .ok (.getfield 34, 3) := by decide +kernel
theorem dX12_something_26 : decode cX12_something 26 = .ok (.iconst 0, 1) := by decide +kernel
theorem dX12_something_27 : decode cX12_something 27 = .ok (.iaload, 1) := by decide +kernel
theorem dX12_something_28 : decode cX12_something 28 = .ok (.invokevirtual 446, 3) := by decide +kernel
theorem dX12_something_31 : decode cX12_something 31 = .ok (.istore_n 2, 1) := by decide +kernel
theorem dX12_something_32 : decode cX12_something 32 = .ok (.iload_n 1, 1) := by decide +kernel
theorem dX12_something_33 : decode cX12_something 33 = .ok (.ifCond .ne 18, 3) := by decide +kernel
theorem dX12_something_36 : decode cX12_something 36 = .ok (.aload_n 0, 1) := by decide +kernel
theorem dX12_something_37 : decode cX12_something 37 = .ok (.iload_n 2, 1) := by decide +kernel
theorem dX12_something_38 : decode cX12_something 38 = .ok (.invokevirtual 390, 3) := by decide +kernel
theorem dX12_something_41 : decode cX12_something 41 = .ok (.ifCond .ne 10, 3) := by decide +kernel
theorem dX12_something_44 : decode cX12_something 44 = .ok (.aload_n 0, 1) := by decide +kernel
theorem dX12_something_45 : decode cX12_something 45 = .ok (.getfield 69, 3) := by decide +kernel
theorem dX12_something_48 : decode cX12_something 48 = .ok (.iload_n 2, 1) := by decide +kernel
theorem dX12_something_49 : decode cX12_something 49 = .ok (.iconst 1, 1) := by decide +kernel
theorem dX12_something_50 : decode cX12_something 50 = .ok (.iastore, 1) := by decide +kernel
theorem dX12_something_51 : decode cX12_something 51 = .ok (.iload_n 1, 1) := by decide +kernel
theorem dX12_something_52 : decode cX12_something 52 = .ok (.iconst 1, 1) := by decide +kernel
theorem dX12_something_53 : decode cX12_something 53 = .ok (.if_icmp .ne 8, 3) := by decide +kernel
theorem dX12_something_56 : decode cX12_something 56 = .ok (.aload_n 0, 1) := by decide +kernel
theorem dX12_something_57 : decode cX12_something 57 = .ok (.iload_n 2, 1) := by decide +kernel
theorem dX12_something_58 : decode cX12_something 58 = .ok (.invokevirtual 397, 3) := by decide +kernel
theorem dX12_something_61 : decode cX12_something 61 = .ok (.iload_n 1, 1) := by decide +kernel
theorem dX12_something_62 : decode cX12_something 62 = .ok (.iconst 2, 1) := by decide +kernel
theorem dX12_something_63 : decode cX12_something 63 = .ok (.if_icmp .ne 15, 3) := by decide +kernel
theorem dX12_something_66 : decode cX12_something 66 = .ok (.aload_n 0, 1) := by decide +kernel
theorem dX12_something_67 : decode cX12_something 67 = .ok (.getfield 78, 3) := by decide +kernel
theorem dX12_something_70 : decode cX12_something 70 = .ok (.iload_n 2, 1) := by decide +kernel
theorem dX12_something_71 : decode cX12_something 71 = .ok (.aload_n 0, 1) := by decide +kernel
theorem dX12_something_72 : decode cX12_something 72 = .ok (.bipush 21, 2) := by decide +kernel
theorem dX12_something_74 : decode cX12_something 74 = .ok (.invokevirtual 446, 3) := by decide +kernel
theorem dX12_something_77 : decode cX12_something 77 = .ok (.iastore, 1) := by decide +kernel
theorem dX12_something_78 : decode cX12_something 78 = .ok (.aload_n 0, 1) := by decide +kernel
theorem dX12_something_79 : decode cX12_something 79 = .ok (.aload_n 0, 1) := by decide +kernel
theorem dX12_something_80 : decode cX12_something 80 = .ok (.bipush 10, 2) := by decide +kernel
theorem dX12_something_82 : decode cX12_something 82 = .ok (.invokevirtual 446, 3) := by decide +kernel
theorem dX12_something_85 : decode cX12_something 85 = .ok (.putfield 84, 3) := by decide +kernel
theorem dX12_something_88 : decode cX12_something 88 = .ok (.return_, 1) := by decide +kernel
theorem dX12_years_0 : decode cX12_years 0 = .ok (.aload_n 0, 1) := by decide +kernel
theorem dX12_years_1 : decode cX12_years 1 = .ok (.iconst 0, 1) := by decide +kernel
theorem dX12_years_2 : decode cX12_years 2 = .ok (.putfield 142, 3) := by decide +kernel
theorem dX12_years_5 : decode cX12_years 5 = .ok (.iload_n 3, 1) := by decide +kernel
theorem dX12_years_6 : decode cX12_years 6 = .ok (.i2l, 1) := by decide +kernel
theorem dX12_years_7 : decode cX12_years 7 = .ok (.lconst 0, 1) := by decide +kernel
theorem dX12_years_8 : decode cX12_years 8 = .ok (.ldc2_w 423, 3) := by decide +kernel
theorem dX12_years_11 : decode cX12_years 11 = .ok (.invokestatic 145, 3) := by decide +kernel
theorem dX12_years_14 : decode cX12_years 14 = .ok (.ifCond .ne 9, 3) := by decide +kernel
theorem dX12_years_17 : decode cX12_years 17 = .ok (.aload_n 0, 1) := by decide +kernel
theorem dX12_years_18 : decode cX12_years 18 = .ok (.iconst 1, 1) := by decide +kernel
theorem dX12_years_19 : decode cX12_years 19 = .ok (.invokevirtual 274, 3) := by decide +kernel
theorem dX12_years_22 : decode cX12_years 22 = .ok (.ireturn, 1) := by decide +kernel
theorem dX12_years_23 : decode cX12_years 23 = .ok (.iload_n 2, 1) := by decide +kernel
theorem dX12_years_24 : decode cX12_years 24 = .ok (.i2l, 1) := by decide +kernel
theorem dX12_years_25 : decode cX12_years 25 = .ok (.lconst 0, 1) := by decide +kernel
theorem dX12_years_26 : decode cX12_years 26 = .ok (.ldc2_w 406, 3) := by decide +kernel
theorem dX12_years_29 : decode cX12_years 29 = .ok (.invokestatic 145, 3) := by decide +kernel
theorem dX12_years_32 : decode cX12_years 32 = .ok (.ifCond .ne 9, 3) := by decide +kernel
theorem dX12_years_35 : decode cX12_years 35 = .ok (.aload_n 0, 1) := by decide +kernel
theorem dX12_years_36 : decode cX12_years 36 = .ok (.iconst 2, 1) := by decide +kernel
theorem dX12_years_37 : decode cX12_years 37 = .ok (.invokevirtual 274, 3) := by decide +kernel
theorem dX12_years_40 : decode cX12_years 40 = .ok (.ireturn, 1) := by decide +kernel
theorem dX12_years_41 : decode cX12_years 41 = .ok (.aload_n 0, 1) := by decide +kernel
theorem dX12_years_42 : decode cX12_years 42 = .ok (.aload_n 0, 1) := by decide +kernel
theorem dX12_years_43 : decode cX12_years 43 = .ok (.getfield 96, 3) := by decide +kernel
theorem dX12_years_46 : decode cX12_years 46 = .ok (.iconst 0, 1) := by decide +kernel
theorem dX12_years_47 : decode cX12_years 47 = .ok (.invokevirtual 372, 3) := by decide +kernel
theorem dX12_years_50 : decode cX12_years 50 = .ok (.aload_n 0, 1) := by decide +kernel
theorem dX12_years_51 : decode cX12_years 51 = .ok (.iload_n 1, 1) := by decide +kernel
theorem dX12_years_52 : decode cX12_years 52 = .ok (.putfield 442, 3) := by decide +kernel
theorem dX12_years_55 : decode cX12_years 55 = .ok (.iconst 0, 1) := by decide +kernel
theorem dX12_years_56 : decode cX12_years 56 = .ok (.istore 4, 2) := by decide +kernel
theorem dX12_years_58 : decode cX12_years 58 = .ok (.iconst 0, 1) := by decide +kernel
theorem dX12_years_59 : decode cX12_years 59 = .ok (.istore 5, 2) := by decide +kernel
theorem dX12_years_61 : decode cX12_years 61 = .ok (.iconst 0, 1) := by decide +kernel
theorem dX12_years_62 : decode cX12_years 62 = .ok (.istore 6, 2) := by decide +kernel
theorem dX12_years_64 : decode cX12_years 64 = .ok (.iload 6, 2) := by decide +kernel
theorem dX12_years_66 : decode cX12_years 66 = .ok (.iload_n 2, 1) := by decide +kernel
theorem dX12_years_67 : decode cX12_years 67 = .ok (.if_icmp .ge 38, 3) := by decide +kernel
theorem dX12_years_70 : decode cX12_years 70 = .ok (.aload_n 0, 1) := by decide +kernel
theorem dX12_years_71 : decode cX12_years 71 = .ok (.invokevirtual 449, 3) := by decide +kernel
theorem dX12_years_74 : decode cX12_years 74 = .ok (.aload_n 0, 1) := by decide +kernel
theorem dX12_years_75 : decode cX12_years 75 = .ok (.invokevirtual 348, 3) := by decide +kernel
theorem dX12_years_78 : decode cX12_years 78 = .ok (.iload 4, 2) := by decide +kernel
theorem dX12_years_80 : decode cX12_years 80 = .ok (.aload_n 0, 1) := by decide +kernel
theorem dX12_years_81 : decode cX12_years 81 = .ok (.getfield 341, 3) := by decide +kernel
theorem dX12_years_84 : decode cX12_years 84 = .ok (.ior, 1) := by decide +kernel
theorem dX12_years_85 : decode cX12_years 85 = .ok (.istore 4, 2) := by decide +kernel
theorem dX12_years_87 : decode cX12_years 87 = .ok (.iload 5, 2) := by decide +kernel
theorem dX12_years_89 : decode cX12_years 89 = .ok (.aload_n 0, 1) := by decide +kernel
theorem dX12_years_90 : decode cX12_years 90 = .ok (.getfield 341, 3) := by decide +kernel
theorem dX12_years_93 : decode cX12_years 93 = .ok (.invokestatic 335, 3) := by decide +kernel
theorem dX12_years_96 : decode cX12_years 96 = .ok (.iadd, 1) := by decide +kernel
theorem dX12_years_97 : decode cX12_years 97 = .ok (.istore 5, 2) := by decide +kernel
theorem dX12_years_99 : decode cX12_years 99 = .ok (.iinc 6 1, 3) := by decide +kernel
theorem dX12_years_102 : decode cX12_years 102 = .ok (.goto (-38), 3) := by decide +kernel
theorem dX12_years_105 : decode cX12_years 105 = .ok (.aload_n 0, 1) := by decide +kernel
theorem dX12_years_106 : decode cX12_years 106 = .ok (.iconst (-1), 1) := by decide +kernel
theorem dX12_years_107 : decode cX12_years 107 = .ok (.putfield 84, 3) := by decide +kernel
theorem dX12_years_110 : decode cX12_years 110 = .ok (.iload_n 3, 1) := by decide +kernel
theorem dX12_years_111 : decode cX12_years 111 = .ok (.ifCond .ne 8, 3) := by decide +kernel
theorem dX12_years_114 : decode cX12_years 114 = .ok (.iload 5, 2) := by decide +kernel
theorem dX12_years_116 : decode cX12_years 116 = .ok (.goto 27, 3) := by decide +kernel
theorem dX12_years_119 : decode cX12_years 119 = .ok (.iload_n 3, 1) := by decide +kernel
theorem dX12_years_120 : decode cX12_years 120 = .ok (.iconst 1, 1) := by decide +kernel
theorem dX12_years_121 : decode cX12_years 121 = .ok (.if_icmp .ne 10, 3) := by decide +kernel
theorem dX12_years_124 : decode cX12_years 124 = .ok (.aload_n 0, 1) := by decide +kernel
theorem dX12_years_125 : decode cX12_years 125 = .ok (.getfield 290, 3) := by decide +kernel
theorem dX12_years_128 : decode cX12_years 128 = .ok (.goto 15, 3) := by decide +kernel
theorem dX12_years_131 : decode cX12_years 131 = .ok (.aload_n 0, 1) := by decide +kernel
theorem dX12_years_132 : decode cX12_years 132 = .ok (.getfield 34, 3) := by decide +kernel
theorem dX12_years_135 : decode cX12_years 135 = .ok (.iconst 0, 1) := by decide +kernel
theorem dX12_years_136 : decode cX12_years 136 = .ok (.iaload, 1) := by decide +kernel
theorem dX12_years_137 : decode cX12_years 137 = .ok (.iload 4, 2) := by decide +kernel
theorem dX12_years_139 : decode cX12_years 139 = .ok (.invokestatic 335, 3) := by decide +kernel
theorem dX12_years_142 : decode cX12_years 142 = .ok (.isub, 1) := by decide +kernel
theorem dX12_years_143 : decode cX12_years 143 = .ok (.istore 6, 2) := by decide +kernel
theorem dX12_years_145 : decode cX12_years 145 = .ok (.aload_n 0, 1) := by decide +kernel
theorem dX12_years_146 : decode cX12_years 146 = .ok (.aload_n 0, 1) := by decide +kernel
theorem dX12_years_147 : decode cX12_years 147 = .ok (.getfield 96, 3) := by decide +kernel
theorem dX12_years_150 : decode cX12_years 150 = .ok (.iconst 0, 1) := by decide +kernel
theorem dX12_years_151 : decode cX12_years 151 = .ok (.invokevirtual 403, 3) := by decide +kernel
theorem dX12_years_154 : decode cX12_years 154 = .ok (.iload 6, 2) := by decide +kernel
theorem dX12_years_156 : decode cX12_years 156 = .ok (.ireturn, 1) := by decide +kernel
theorem dX12_copyTo_0 : decode cX12_copyTo 0 = .ok (.iconst 0, 1) := by decide +kernel
theorem dX12_copyTo_1 : decode cX12_copyTo 1 = .ok (.istore_n 2, 1) := by decide +kernel
theorem dX12_copyTo_2 : decode cX12_copyTo 2 = .ok (.iload_n 2, 1) := by decide +kernel
theorem dX12_copyTo_3 : decode cX12_copyTo 3 = .ok (.aload_n 0, 1) := by decide +kernel
theorem dX12_copyTo_4 : decode cX12_copyTo 4 = .ok (.arraylength, 1) := by decide +kernel
theorem dX12_copyTo_5 : decode cX12_copyTo 5 = .ok (.if_icmp .ge 15, 3) := by decide +kernel
theorem dX12_copyTo_8 : decode cX12_copyTo 8 = .ok (.aload_n 0, 1) := by decide +kernel
theorem dX12_copyTo_9 : decode cX12_copyTo 9 = .ok (.iload_n 2, 1) := by decide +kernel
theorem dX12_copyTo_10 : decode cX12_copyTo 10 = .ok (.aload_n 1, 1) := by decide +kernel
theorem dX12_copyTo_11 : decode cX12_copyTo 11 = .ok (.iload_n 2, 1) := by decide +kernel
theorem dX12_copyTo_12 : decode cX12_copyTo 12 = .ok (.iaload, 1) := by decide +kernel
theorem dX12_copyTo_13 : decode cX12_copyTo 13 = .ok (.iastore, 1) := by decide +kernel
theorem dX12_copyTo_14 : decode cX12_copyTo 14 = .ok (.iinc 2 1, 3) := by decide +kernel
theorem dX12_copyTo_17 : decode cX12_copyTo 17 = .ok (.goto (-15), 3) := by decide +kernel
theorem dX12_copyTo_20 : decode cX12_copyTo 20 = .ok (.return_, 1) := by decide +kernel
theorem dX12_image_0 : decode cX12_image 0 = .ok (.aload_n 0, 1) := by decide +kernel
theorem dX12_image_1 : decode cX12_image 1 = .ok (.iconst 0, 1) := by decide +kernel
theorem dX12_image_2 : decode cX12_image 2 = .ok (.putfield 142, 3) := by decide +kernel
theorem dX12_image_5 : decode cX12_image 5 = .ok (.aload_n 0, 1) := by decide +kernel
theorem dX12_image_6 : decode cX12_image 6 = .ok (.iconst 1, 1) := by decide +kernel
theorem dX12_image_7 : decode cX12_image 7 = .ok (.putfield 298, 3) := by decide +kernel
theorem dX12_image_10 : decode cX12_image 10 = .ok (.aload_n 0, 1) := by decide +kernel
theorem dX12_image_11 : decode cX12_image 11 = .ok (.aload_n 0, 1) := by decide +kernel
theorem dX12_image_12 : decode cX12_image 12 = .ok (.getfield 293, 3) := by decide +kernel
theorem dX12_image_15 : decode cX12_image 15 = .ok (.putfield 452, 3) := by decide +kernel
theorem dX12_image_18 : decode cX12_image 18 = .ok (.aload_n 0, 1) := by decide +kernel
theorem dX12_image_19 : decode cX12_image 19 = .ok (.aload_n 0, 1) := by decide +kernel
theorem dX12_image_20 : decode cX12_image 20 = .ok (.getfield 296, 3) := by decide +kernel
theorem dX12_image_23 : decode cX12_image 23 = .ok (.putfield 455, 3) := by decide +kernel
theorem dX12_image_26 : decode cX12_image 26 = .ok (.aload_n 0, 1) := by decide +kernel
theorem dX12_image_27 : decode cX12_image 27 = .ok (.aload_n 0, 1) := by decide +kernel
theorem dX12_image_28 : decode cX12_image 28 = .ok (.getfield 124, 3) := by decide +kernel
theorem dX12_image_31 : decode cX12_image 31 = .ok (.iconst 0, 1) := by decide +kernel
theorem dX12_image_32 : decode cX12_image 32 = .ok (.invokevirtual 372, 3) := by decide +kernel
theorem dX12_image_35 : decode cX12_image 35 = .ok (.aload_n 0, 1) := by decide +kernel
theorem dX12_image_36 : decode cX12_image 36 = .ok (.getfield 127, 3) := by decide +kernel
theorem dX12_image_39 : decode cX12_image 39 = .ok (.aload_n 0, 1) := by decide +kernel
theorem dX12_image_40 : decode cX12_image 40 = .ok (.getfield 81, 3) := by decide +kernel
theorem dX12_image_43 : decode cX12_image 43 = .ok (.invokestatic 458, 3) := by decide +kernel
theorem dX12_image_46 : decode cX12_image 46 = .ok (.aload_n 0, 1) := by decide +kernel
theorem dX12_image_47 : decode cX12_image 47 = .ok (.getfield 130, 3) := by decide +kernel
theorem dX12_image_50 : decode cX12_image 50 = .ok (.aload_n 0, 1) := by decide +kernel
theorem dX12_image_51 : decode cX12_image 51 = .ok (.getfield 105, 3) := by decide +kernel
theorem dX12_image_54 : decode cX12_image 54 = .ok (.invokestatic 458, 3) := by decide +kernel
theorem dX12_image_57 : decode cX12_image 57 = .ok (.aload_n 0, 1) := by decide +kernel
theorem dX12_image_58 : decode cX12_image 58 = .ok (.getfield 133, 3) := by decide +kernel
theorem dX12_image_61 : decode cX12_image 61 = .ok (.aload_n 0, 1) := by decide +kernel
theorem dX12_image_62 : decode cX12_image 62 = .ok (.getfield 108, 3) := by decide +kernel
theorem dX12_image_65 : decode cX12_image 65 = .ok (.invokestatic 458, 3) := by decide +kernel
theorem dX12_image_68 : decode cX12_image 68 = .ok (.iconst 0, 1) := by decide +kernel
theorem dX12_image_69 : decode cX12_image 69 = .ok (.istore_n 1, 1) := by decide +kernel
theorem dX12_image_70 : decode cX12_image 70 = .ok (.iload_n 1, 1) := by decide +kernel
theorem dX12_image_71 : decode cX12_image 71 = .ok (.bipush 8, 2) := by decide +kernel
theorem dX12_image_73 : decode cX12_image 73 = .ok (.if_icmp .ge 21, 3) := by decide +kernel
theorem dX12_image_76 : decode cX12_image 76 = .ok (.aload_n 0, 1) := by decide +kernel
theorem dX12_image_77 : decode cX12_image 77 = .ok (.getfield 139, 3) := by decide +kernel
theorem dX12_image_80 : decode cX12_image 80 = .ok (.iload_n 1, 1) := by decide +kernel
theorem dX12_image_81 : decode cX12_image 81 = .ok (.aload_n 0, 1) := by decide +kernel
theorem dX12_image_82 : decode cX12_image 82 = .ok (.getfield 114, 3) := by decide +kernel
theorem dX12_image_85 : decode cX12_image 85 = .ok (.iload_n 1, 1) := by decide +kernel
theorem dX12_image_86 : decode cX12_image 86 = .ok (.baload, 1) := by decide +kernel
theorem dX12_image_87 : decode cX12_image 87 = .ok (.bastore, 1) := by decide +kernel
theorem dX12_image_88 : decode cX12_image 88 = .ok (.iinc 1 1, 3) := by decide +kernel
theorem dX12_image_91 : decode cX12_image 91 = .ok (.goto (-21), 3) := by decide +kernel
theorem dX12_image_94 : decode cX12_image 94 = .ok (.aload_n 0, 1) := by decide +kernel
theorem dX12_image_95 : decode cX12_image 95 = .ok (.getfield 136, 3) := by decide +kernel
theorem dX12_image_98 : decode cX12_image 98 = .ok (.aload_n 0, 1) := by decide +kernel
theorem dX12_image_99 : decode cX12_image 99 = .ok (.getfield 59, 3) := by decide +kernel
theorem dX12_image_102 : decode cX12_image 102 = .ok (.invokestatic 458, 3) := by decide +kernel
theorem dX12_image_105 : decode cX12_image 105 = .ok (.return_, 1) := by decide +kernel
theorem dX12_restore_0 : decode cX12_restore 0 = .ok (.aload_n 0, 1) := by decide +kernel
theorem dX12_restore_1 : decode cX12_restore 1 = .ok (.iconst 0, 1) := by decide +kernel
theorem dX12_restore_2 : decode cX12_restore 2 = .ok (.putfield 142, 3) := by decide +kernel
theorem dX12_restore_5 : decode cX12_restore 5 = .ok (.aload_n 0, 1) := by decide +kernel
theorem dX12_restore_6 : decode cX12_restore 6 = .ok (.getfield 298, 3) := by decide +kernel
theorem dX12_restore_9 : decode cX12_restore 9 = .ok (.ifCond .ne 5, 3) := by decide +kernel
theorem dX12_restore_12 : decode cX12_restore 12 = .ok (.iconst 0, 1) := by decide +kernel
theorem dX12_restore_13 : decode cX12_restore 13 = .ok (.ireturn, 1) := by decide +kernel
theorem dX12_restore_14 : decode cX12_restore 14 = .ok (.aload_n 0, 1) := by decide +kernel
theorem dX12_restore_15 : decode cX12_restore 15 = .ok (.aload_n 0, 1) := by decide +kernel
theorem dX12_restore_16 : decode cX12_restore 16 = .ok (.getfield 452, 3) := by decide +kernel
theorem dX12_restore_19 : decode cX12_restore 19 = .ok (.putfield 293, 3) := by decide +kernel
theorem dX12_restore_22 : decode cX12_restore 22 = .ok (.aload_n 0, 1) := by decide +kernel
theorem dX12_restore_23 : decode cX12_restore 23 = .ok (.aload_n 0, 1) := by decide +kernel
theorem dX12_restore_24 : decode cX12_restore 24 = .ok (.getfield 455, 3) := by decide +kernel
theorem dX12_restore_27 : decode cX12_restore 27 = .ok (.putfield 296, 3) := by decide +kernel
theorem dX12_restore_30 : decode cX12_restore 30 = .ok (.aload_n 0, 1) := by decide +kernel
theorem dX12_restore_31 : decode cX12_restore 31 = .ok (.aload_n 0, 1) := by decide +kernel
theorem dX12_restore_32 : decode cX12_restore 32 = .ok (.getfield 124, 3) := by decide +kernel
theorem dX12_restore_35 : decode cX12_restore 35 = .ok (.iconst 0, 1) := by decide +kernel
theorem dX12_restore_36 : decode cX12_restore 36 = .ok (.invokevirtual 403, 3) := by decide +kernel
theorem dX12_restore_39 : decode cX12_restore 39 = .ok (.aload_n 0, 1) := by decide +kernel
theorem dX12_restore_40 : decode cX12_restore 40 = .ok (.getfield 81, 3) := by decide +kernel
theorem dX12_restore_43 : decode cX12_restore 43 = .ok (.aload_n 0, 1) := by decide +kernel
theorem dX12_restore_44 : decode cX12_restore 44 = .ok (.getfield 127, 3) := by decide +kernel
theorem dX12_restore_47 : decode cX12_restore 47 = .ok (.invokestatic 458, 3) := by decide +kernel
theorem dX12_restore_50 : decode cX12_restore 50 = .ok (.aload_n 0, 1) := by decide +kernel
theorem dX12_restore_51 : decode cX12_restore 51 = .ok (.getfield 105, 3) := by decide +kernel
theorem dX12_restore_54 : decode cX12_restore 54 = .ok (.aload_n 0, 1) := by decide +kernel
theorem dX12_restore_55 : decode cX12_restore 55 = .ok (.getfield 130, 3) := by decide +kernel
theorem dX12_restore_58 : decode cX12_restore 58 = .ok (.invokestatic 458, 3) := by decide +kernel
theorem dX12_restore_61 : decode cX12_restore 61 = .ok (.aload_n 0, 1) := by decide +kernel
theorem dX12_restore_62 : decode cX12_restore 62 = .ok (.getfield 108, 3) := by decide +kernel
theorem dX12_restore_65 : decode cX12_restore 65 = .ok (.aload_n 0, 1) := by decide +kernel
theorem dX12_restore_66 : decode cX12_restore 66 = .ok (.getfield 133, 3) := by decide +kernel
theorem dX12_restore_69 : decode cX12_restore 69 = .ok (.invokestatic 458, 3) := by decide +kernel
theorem dX12_restore_72 : decode cX12_restore 72 = .ok (.iconst 0, 1) := by decide +kernel
theorem dX12_restore_73 : decode cX12_restore 73 = .ok (.istore_n 1, 1) := by decide +kernel
theorem dX12_restore_74 : decode cX12_restore 74 = .ok (.iload_n 1, 1) := by decide +kernel
theorem dX12_restore_75 : decode cX12_restore 75 = .ok (.bipush 8, 2) := by decide +kernel
theorem dX12_restore_77 : decode cX12_restore 77 = .ok (.if_icmp .ge 21, 3) := by decide +kernel
theorem dX12_restore_80 : decode cX12_restore 80 = .ok (.aload_n 0, 1) := by decide +kernel
theorem dX12_restore_81 : decode cX12_restore 81 = .ok (.getfield 114, 3) := by decide +kernel
theorem dX12_restore_84 : decode cX12_restore 84 = .ok (.iload_n 1, 1) := by decide +kernel
theorem dX12_restore_85 : decode cX12_restore 85 = .ok (.aload_n 0, 1) := by decide +kernel
theorem dX12_restore_86 : decode cX12_restore 86 = .ok (.getfield 139, 3) := by decide +kernel
theorem dX12_restore_89 : decode cX12_restore 89 = .ok (.iload_n 1, 1) := by decide +kernel
theorem dX12_restore_90 : decode cX12_restore 90 = .ok (.baload, 1) := by decide +kernel
theorem dX12_restore_91 : decode cX12_restore 91 = .ok (.bastore, 1) := by decide +kernel
theorem dX12_restore_92 : decode cX12_restore 92 = .ok (.iinc 1 1, 3) := by decide +kernel
theorem dX12_restore_95 : decode cX12_restore 95 = .ok (.goto (-21), 3) := by decide +kernel
theorem dX12_restore_98 : decode cX12_restore 98 = .ok (.aload_n 0, 1) := by decide +kernel
theorem dX12_restore_99 : decode cX12_restore 99 = .ok (.getfield 59, 3) := by decide +kernel
theorem dX12_restore_102 : decode cX12_restore 102 = .ok (.aload_n 0, 1) := by decide +kernel
theorem dX12_restore_103 : decode cX12_restore 103 = .ok (.getfield 136, 3) := by decide +kernel
theorem dX12_restore_106 : decode cX12_restore 106 = .ok (.invokestatic 458, 3) := by decide +kernel
theorem dX12_restore_109 : decode cX12_restore 109 = .ok (.iconst 1, 1) := by decide +kernel
theorem dX12_restore_110 : decode cX12_restore 110 = .ok (.ireturn, 1) := by decide +kernel
