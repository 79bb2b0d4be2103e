theorem dX12_toBegin_0 : decode cX12_toBegin 0 = .ok (.aload_n 0, 1) := by decide +kernel
theorem dX12_toBegin_1 : decode cX12_toBegin 1 = .ok (.iconst 0, 1) := by decide +kernel
theorem dX12_toBegin_2 : decode cX12_toBegin 2 = .ok (.putfield 142, 3) := by decide +kernel
theorem dX12_toBegin_5 : decode cX12_toBegin 5 = .ok (.iload_n 1, 1) := by decide +kernel
theorem dX12_toBegin_6 : decode cX12_toBegin 6 = .ok (.i2l, 1) := by decide +kernel
theorem dX12_toBegin_7 : decode cX12_toBegin 7 = .ok (.lconst 1, 1) := by decide +kernel
theorem dX12_toBegin_8 : decode cX12_toBegin 8 = .ok (.ldc2_w 406, 3) := by decide +kernel
theorem dX12_toBegin_11 : decode cX12_toBegin 11 = .ok (.invokestatic 145, 3) := by decide +kernel
theorem dX12_toBegin_14 : decode cX12_toBegin 14 = .ok (.ifCond .ne 9, 3) := by decide +kernel
theorem dX12_toBegin_17 : decode cX12_toBegin 17 = .ok (.aload_n 0, 1) := by decide +kernel
theorem dX12_toBegin_18 : decode cX12_toBegin 18 = .ok (.iconst 1, 1) := by decide +kernel
theorem dX12_toBegin_19 : decode cX12_toBegin 19 = .ok (.invokevirtual 274, 3) := by decide +kernel
theorem dX12_toBegin_22 : decode cX12_toBegin 22 = .ok (.ireturn, 1) := by decide +kernel
theorem dX12_toBegin_23 : decode cX12_toBegin 23 = .ok (.aload_n 0, 1) := by decide +kernel
theorem dX12_toBegin_24 : decode cX12_toBegin 24 = .ok (.invokevirtual 354, 3) := by decide +kernel
theorem dX12_toBegin_27 : decode cX12_toBegin 27 = .ok (.aload_n 0, 1) := by decide +kernel
theorem dX12_toBegin_28 : decode cX12_toBegin 28 = .ok (.getfield 290, 3) := by decide +kernel
theorem dX12_toBegin_31 : decode cX12_toBegin 31 = .ok (.iconst (-1), 1) := by decide +kernel
theorem dX12_toBegin_32 : decode cX12_toBegin 32 = .ok (.ixor, 1) := by decide +kernel
theorem dX12_toBegin_33 : decode cX12_toBegin 33 = .ok (.iand, 1) := by decide +kernel
theorem dX12_toBegin_34 : decode cX12_toBegin 34 = .ok (.istore_n 2, 1) := by decide +kernel
theorem dX12_toBegin_35 : decode cX12_toBegin 35 = .ok (.iconst (-1), 1) := by decide +kernel
theorem dX12_toBegin_36 : decode cX12_toBegin 36 = .ok (.istore_n 3, 1) := by decide +kernel
theorem dX12_toBegin_37 : decode cX12_toBegin 37 = .ok (.iconst 0, 1) := by decide +kernel
theorem dX12_toBegin_38 : decode cX12_toBegin 38 = .ok (.istore 4, 2) := by decide +kernel
theorem dX12_toBegin_40 : decode cX12_toBegin 40 = .ok (.iload 4, 2) := by decide +kernel
theorem dX12_toBegin_42 : decode cX12_toBegin 42 = .ok (.iload_n 2, 1) := by decide +kernel
theorem dX12_toBegin_43 : decode cX12_toBegin 43 = .ok (.if_icmp .gt 56, 3) := by decide +kernel
theorem dX12_toBegin_46 : decode cX12_toBegin 46 = .ok (.iload 4, 2) := by decide +kernel
theorem dX12_toBegin_48 : decode cX12_toBegin 48 = .ok (.aload_n 0, 1) := by decide +kernel
theorem dX12_toBegin_49 : decode cX12_toBegin 49 = .ok (.getfield 290, 3) := by decide +kernel
theorem dX12_toBegin_52 : decode cX12_toBegin 52 = .ok (.iand, 1) := by decide +kernel
theorem dX12_toBegin_53 : decode cX12_toBegin 53 = .ok (.ifCond .ne 40, 3) := by decide +kernel
theorem dX12_toBegin_56 : decode cX12_toBegin 56 = .ok (.iload_n 3, 1) := by decide +kernel
theorem dX12_toBegin_57 : decode cX12_toBegin 57 = .ok (.iconst (-1), 1) := by decide +kernel
theorem dX12_toBegin_58 : decode cX12_toBegin 58 = .ok (.if_icmp .eq 18, 3) := by decide +kernel
theorem dX12_toBegin_61 : decode cX12_toBegin 61 = .ok (.iload 4, 2) := by decide +kernel
theorem dX12_toBegin_63 : decode cX12_toBegin 63 = .ok (.invokestatic 335, 3) := by decide +kernel
theorem dX12_toBegin_66 : decode cX12_toBegin 66 = .ok (.iload_n 3, 1) := by decide +kernel
theorem dX12_toBegin_67 : decode cX12_toBegin 67 = .ok (.invokestatic 335, 3) := by decide +kernel
theorem dX12_toBegin_70 : decode cX12_toBegin 70 = .ok (.if_icmp .lt 6, 3) := by decide +kernel
theorem dX12_toBegin_73 : decode cX12_toBegin 73 = .ok (.goto 20, 3) := by decide +kernel
theorem dX12_toBegin_76 : decode cX12_toBegin 76 = .ok (.iload_n 2, 1) := by decide +kernel
theorem dX12_toBegin_77 : decode cX12_toBegin 77 = .ok (.aload_n 0, 1) := by decide +kernel
theorem dX12_toBegin_78 : decode cX12_toBegin 78 = .ok (.iload 4, 2) := by decide +kernel
theorem dX12_toBegin_80 : decode cX12_toBegin 80 = .ok (.iload_n 1, 1) := by decide +kernel
theorem dX12_toBegin_81 : decode cX12_toBegin 81 = .ok (.invokevirtual 408, 3) := by decide +kernel
theorem dX12_toBegin_84 : decode cX12_toBegin 84 = .ok (.iconst (-1), 1) := by decide +kernel
theorem dX12_toBegin_85 : decode cX12_toBegin 85 = .ok (.ixor, 1) := by decide +kernel
theorem dX12_toBegin_86 : decode cX12_toBegin 86 = .ok (.iand, 1) := by decide +kernel
theorem dX12_toBegin_87 : decode cX12_toBegin 87 = .ok (.ifCond .ne 6, 3) := by decide +kernel
theorem dX12_toBegin_90 : decode cX12_toBegin 90 = .ok (.iload 4, 2) := by decide +kernel
theorem dX12_toBegin_92 : decode cX12_toBegin 92 = .ok (.istore_n 3, 1) := by decide +kernel
theorem dX12_toBegin_93 : decode cX12_toBegin 93 = .ok (.iinc 4 1, 3) := by decide +kernel
theorem dX12_toBegin_96 : decode cX12_toBegin 96 = .ok (.goto (-56), 3) := by decide +kernel
theorem dX12_toBegin_99 : decode cX12_toBegin 99 = .ok (.iload_n 3, 1) := by decide +kernel
theorem dX12_toBegin_100 : decode cX12_toBegin 100 = .ok (.ireturn, 1) := by decide +kernel
set_option maxRecDepth 20000 in
theorem ggX12_way_X12_isFarm : GoodIn wsX12_way wsX12_isFarm := goodIn_r _ [7, 2, 8, 9, 6, 10, 62, 63, 64, 65, 66, 67, 68, 69, 70, 71, 72, 73, 74, 75, 76, 77, 78, 79, 80, 81, 82, 83, 84, 85, 86, 87, 88, 89, 90, 91, 92, 93, 94, 95, 96, 97, 98, 99, 100, 101, 102, 103, 104, 105, 106, 107, 108, 109, 110, 111, 112, 113, 114, 115, 116, 117, 118] (by decide +kernel) (by decide +kernel)
set_option maxRecDepth 20000 in
theorem gX12_way_X12_isFarm : GoodIn wsX12_way (wsV RX12 369 RX12 yX12_isFarm wsX12_isFarm) := goodIn_app (goodIn_of _ (by decide +kernel)) ggX12_way_X12_isFarm
set_option maxRecDepth 20000 in
theorem ggX12_way_X12_fail : GoodIn wsX12_way wsX12_fail := goodIn_r _ [14, 1, 62, 63, 64, 65, 66, 67, 68, 69, 70, 71, 72, 73, 74, 75, 76, 77, 78, 79, 80, 81, 82, 83, 84, 85, 86, 87, 88, 89, 90, 91, 92, 93, 94, 95, 96, 97, 98, 99, 100, 101, 102, 103, 104, 105, 106, 107, 108, 109, 110, 111, 112, 113, 114, 115, 116, 117, 118] (by decide +kernel) (by decide +kernel)
set_option maxRecDepth 20000 in
theorem gX12_way_X12_fail : GoodIn wsX12_way (wsV RX12 274 RX12 yX12_fail wsX12_fail) := goodIn_app (goodIn_of _ (by decide +kernel)) ggX12_way_X12_fail
set_option maxRecDepth 20000 in
theorem ggX12_way_X12_isOf : GoodIn wsX12_way wsX12_isOf := goodIn_r _ [17] (by decide +kernel) (by decide +kernel)
set_option maxRecDepth 20000 in
theorem gX12_way_X12_isOf : GoodIn wsX12_way (va_wsS RX12 332 yX12_isOf wsX12_isOf) := goodIn_app (goodIn_of _ (by decide +kernel)) ggX12_way_X12_isOf
set_option maxRecDepth 20000 in
theorem ggX12_way_X12_seesOf : GoodIn wsX12_way wsX12_seesOf := goodIn_r _ [21, 2, 22, 23, 24, 6, 25, 26, 27, 28, 29, 30, 31, 32, 33, 34, 35, 36, 37, 38, 39, 40, 41, 42, 43, 44, 45, 46, 47, 48, 49, 50, 51, 52, 53, 54, 55, 56, 57, 58, 59, 60, 61, 62, 63, 64, 65, 66, 67, 68, 69, 70, 71, 72, 73, 74, 75, 76, 77, 78, 79, 80, 81, 82, 83, 84, 85, 86, 87, 88, 89, 90, 91, 92, 93, 94, 95, 96, 97, 98, 99, 100, 101, 102, 103, 104, 105, 106, 107, 108, 109, 110, 111, 112, 113, 114, 115, 116, 117, 118] (by decide +kernel) (by decide +kernel)
set_option maxRecDepth 20000 in
theorem gX12_way_X12_seesOf : GoodIn wsX12_way (wsV RX12 343 RX12 yX12_seesOf wsX12_seesOf) := goodIn_app (goodIn_of _ (by decide +kernel)) ggX12_way_X12_seesOf
theorem dX12_way_0 : decode cX12_way 0 = .ok (.aload_n 0, 1) := by decide +kernel
theorem dX12_way_1 : decode cX12_way 1 = .ok (.iconst 0, 1) := by decide +kernel
theorem dX12_way_2 : decode cX12_way 2 = .ok (.putfield 142, 3) := by decide +kernel
theorem dX12_way_5 : decode cX12_way 5 = .ok (.aload_n 0, 1) := by decide +kernel
theorem dX12_way_6 : decode cX12_way 6 = .ok (.iload_n 1, 1) := by decide +kernel
theorem dX12_way_7 : decode cX12_way 7 = .ok (.invokevirtual 369, 3) := by decide +kernel
theorem dX12_way_10 : decode cX12_way 10 = .ok (.ifCond .eq 11, 3) := by decide +kernel
theorem dX12_way_13 : decode cX12_way 13 = .ok (.aload_n 0, 1) := by decide +kernel
theorem dX12_way_14 : decode cX12_way 14 = .ok (.iload_n 2, 1) := by decide +kernel
theorem dX12_way_15 : decode cX12_way 15 = .ok (.invokevirtual 369, 3) := by decide +kernel
theorem dX12_way_18 : decode cX12_way 18 = .ok (.ifCond .ne 9, 3) := by decide +kernel
theorem dX12_way_21 : decode cX12_way 21 = .ok (.aload_n 0, 1) := by decide +kernel
theorem dX12_way_22 : decode cX12_way 22 = .ok (.iconst 1, 1) := by decide +kernel
theorem dX12_way_23 : decode cX12_way 23 = .ok (.invokevirtual 274, 3) := by decide +kernel
theorem dX12_way_26 : decode cX12_way 26 = .ok (.ireturn, 1) := by decide +kernel
theorem dX12_way_27 : decode cX12_way 27 = .ok (.iconst 1, 1) := by decide +kernel
theorem dX12_way_28 : decode cX12_way 28 = .ok (.iload_n 1, 1) := by decide +kernel
theorem dX12_way_29 : decode cX12_way 29 = .ok (.ishl, 1) := by decide +kernel
theorem dX12_way_30 : decode cX12_way 30 = .ok (.istore_n 3, 1) := by decide +kernel
theorem dX12_way_31 : decode cX12_way 31 = .ok (.iconst 0, 1) := by decide +kernel
theorem dX12_way_32 : decode cX12_way 32 = .ok (.istore 4, 2) := by decide +kernel
theorem dX12_way_34 : decode cX12_way 34 = .ok (.iload 4, 2) := by decide +kernel
theorem dX12_way_36 : decode cX12_way 36 = .ok (.bipush 9, 2) := by decide +kernel
theorem dX12_way_38 : decode cX12_way 38 = .ok (.if_icmp .ge 70, 3) := by decide +kernel
theorem dX12_way_41 : decode cX12_way 41 = .ok (.iload_n 3, 1) := by decide +kernel
theorem dX12_way_42 : decode cX12_way 42 = .ok (.iload_n 2, 1) := by decide +kernel
theorem dX12_way_43 : decode cX12_way 43 = .ok (.invokestatic 332, 3) := by decide +kernel
theorem dX12_way_46 : decode cX12_way 46 = .ok (.ifCond .eq 6, 3) := by decide +kernel
theorem dX12_way_49 : decode cX12_way 49 = .ok (.iload 4, 2) := by decide +kernel
theorem dX12_way_51 : decode cX12_way 51 = .ok (.ireturn, 1) := by decide +kernel
theorem dX12_way_52 : decode cX12_way 52 = .ok (.iload_n 3, 1) := by decide +kernel
theorem dX12_way_53 : decode cX12_way 53 = .ok (.istore 5, 2) := by decide +kernel
theorem dX12_way_55 : decode cX12_way 55 = .ok (.iconst 0, 1) := by decide +kernel
theorem dX12_way_56 : decode cX12_way 56 = .ok (.istore 6, 2) := by decide +kernel
theorem dX12_way_58 : decode cX12_way 58 = .ok (.iload 6, 2) := by decide +kernel
theorem dX12_way_60 : decode cX12_way 60 = .ok (.aload_n 0, 1) := by decide +kernel
theorem dX12_way_61 : decode cX12_way 61 = .ok (.getfield 34, 3) := by decide +kernel
theorem dX12_way_64 : decode cX12_way 64 = .ok (.iconst 0, 1) := by decide +kernel
theorem dX12_way_65 : decode cX12_way 65 = .ok (.iaload, 1) := by decide +kernel
theorem dX12_way_66 : decode cX12_way 66 = .ok (.if_icmp .ge 33, 3) := by decide +kernel
theorem dX12_way_69 : decode cX12_way 69 = .ok (.iload 5, 2) := by decide +kernel
theorem dX12_way_71 : decode cX12_way 71 = .ok (.iload_n 3, 1) := by decide +kernel
theorem dX12_way_72 : decode cX12_way 72 = .ok (.iload 6, 2) := by decide +kernel
theorem dX12_way_74 : decode cX12_way 74 = .ok (.invokestatic 332, 3) := by decide +kernel
theorem dX12_way_77 : decode cX12_way 77 = .ok (.ifCond .eq 12, 3) := by decide +kernel
theorem dX12_way_80 : decode cX12_way 80 = .ok (.aload_n 0, 1) := by decide +kernel
theorem dX12_way_81 : decode cX12_way 81 = .ok (.iload 6, 2) := by decide +kernel
theorem dX12_way_83 : decode cX12_way 83 = .ok (.invokevirtual 343, 3) := by decide +kernel
theorem dX12_way_86 : decode cX12_way 86 = .ok (.goto 4, 3) := by decide +kernel
theorem dX12_way_89 : decode cX12_way 89 = .ok (.iconst 0, 1) := by decide +kernel
theorem dX12_way_90 : decode cX12_way 90 = .ok (.ior, 1) := by decide +kernel
theorem dX12_way_91 : decode cX12_way 91 = .ok (.istore 5, 2) := by decide +kernel
theorem dX12_way_93 : decode cX12_way 93 = .ok (.iinc 6 1, 3) := by decide +kernel
theorem dX12_way_96 : decode cX12_way 96 = .ok (.goto (-38), 3) := by decide +kernel
theorem dX12_way_99 : decode cX12_way 99 = .ok (.iload 5, 2) := by decide +kernel
theorem dX12_way_101 : decode cX12_way 101 = .ok (.istore_n 3, 1) := by decide +kernel
theorem dX12_way_102 : decode cX12_way 102 = .ok (.iinc 4 1, 3) := by decide +kernel
theorem dX12_way_105 : decode cX12_way 105 = .ok (.goto (-71), 3) := by decide +kernel
theorem dX12_way_108 : decode cX12_way 108 = .ok (.iconst (-1), 1) := by decide +kernel
theorem dX12_way_109 : decode cX12_way 109 = .ok (.ireturn, 1) := by decide +kernel
set_option maxRecDepth 20000 in
theorem ggX12_toHat_X12_isFarm : GoodIn wsX12_toHat wsX12_isFarm := goodIn_r _ [7, 8, 9, 10, 6, 11, 55, 56, 57, 58, 59, 60, 61, 62, 63, 64, 65, 66, 67, 68, 69, 70, 71, 72, 73, 74, 75, 76, 77, 78, 79, 80, 81, 82, 83, 84, 85, 86, 87, 88, 89, 90, 91, 92, 93, 94, 95, 96, 97, 98, 99, 100, 101, 102, 103, 104, 105, 106, 107, 108, 109, 110, 111] (by decide +kernel) (by decide +kernel)
set_option maxRecDepth 20000 in
theorem gX12_toHat_X12_isFarm : GoodIn wsX12_toHat (wsV RX12 369 RX12 yX12_isFarm wsX12_isFarm) := goodIn_app (goodIn_of _ (by decide +kernel)) ggX12_toHat_X12_isFarm
set_option maxRecDepth 20000 in
theorem ggX12_toHat_X12_fail : GoodIn wsX12_toHat wsX12_fail := goodIn_r _ [15, 1, 55, 56, 57, 58, 59, 60, 61, 62, 63, 64, 65, 66, 67, 68, 69, 70, 71, 72, 73, 74, 75, 76, 77, 78, 79, 80, 81, 82, 83, 84, 85, 86, 87, 88, 89, 90, 91, 92, 93, 94, 95, 96, 97, 98, 99, 100, 101, 102, 103, 104, 105, 106, 107, 108, 109, 110, 111] (by decide +kernel) (by decide +kernel)
set_option maxRecDepth 20000 in
theorem gX12_toHat_X12_fail : GoodIn wsX12_toHat (wsV RX12 274 RX12 yX12_fail wsX12_fail) := goodIn_app (goodIn_of _ (by decide +kernel)) ggX12_toHat_X12_fail
set_option maxRecDepth 20000 in
theorem ggX12_toHat_X12_inSight : GoodIn wsX12_toHat wsX12_inSight := goodIn_r _ [19, 20, 21, 22, 23, 24, 8, 25, 26, 27, 6, 28, 29, 30, 31, 32, 33, 34, 35, 36, 37, 38, 39, 40, 41, 42, 43, 44, 45, 46, 47, 48, 49, 50, 51, 52, 53, 54, 2, 55, 56, 57, 58, 59, 60, 61, 62, 63, 64, 65, 66, 67, 68, 69, 70, 71, 72, 73, 74, 75, 76, 77, 78, 79, 80, 81, 82, 83, 84, 85, 86, 87, 88, 89, 90, 91, 92, 93, 94, 95, 96, 97, 98, 99, 100, 101, 102, 103, 104, 105, 106, 107, 108, 109, 110, 111] (by decide +kernel) (by decide +kernel)
set_option maxRecDepth 20000 in
theorem gX12_toHat_X12_inSight : GoodIn wsX12_toHat (wsV RX12 324 RX12 yX12_inSight wsX12_inSight) := goodIn_app (goodIn_of _ (by decide +kernel)) ggX12_toHat_X12_inSight
theorem dX12_toHat_0 : decode cX12_toHat 0 = .ok (.aload_n 0, 1) := by decide +kernel
theorem dX12_toHat_1 : decode cX12_toHat 1 = .ok (.iconst 0, 1) := by decide +kernel
theorem dX12_toHat_2 : decode cX12_toHat 2 = .ok (.putfield 142, 3) := by decide +kernel
theorem dX12_toHat_5 : decode cX12_toHat 5 = .ok (.aload_n 0, 1) := by decide +kernel
theorem dX12_toHat_6 : decode cX12_toHat 6 = .ok (.iload_n 1, 1) := by decide +kernel
theorem dX12_toHat_7 : decode cX12_toHat 7 = .ok (.invokevirtual 369, 3) := by decide +kernel
theorem dX12_toHat_10 : decode cX12_toHat 10 = .ok (.ifCond .eq 11, 3) := by decide +kernel
theorem dX12_toHat_13 : decode cX12_toHat 13 = .ok (.aload_n 0, 1) := by decide +kernel
theorem dX12_toHat_14 : decode cX12_toHat 14 = .ok (.iload_n 2, 1) := by decide +kernel
theorem dX12_toHat_15 : decode cX12_toHat 15 = .ok (.invokevirtual 369, 3) := by decide +kernel
theorem dX12_toHat_18 : decode cX12_toHat 18 = .ok (.ifCond .ne 9, 3) := by decide +kernel
theorem dX12_toHat_21 : decode cX12_toHat 21 = .ok (.aload_n 0, 1) := by decide +kernel
theorem dX12_toHat_22 : decode cX12_toHat 22 = .ok (.iconst 1, 1) := by decide +kernel
theorem dX12_toHat_23 : decode cX12_toHat 23 = .ok (.invokevirtual 274, 3) := by decide +kernel
theorem dX12_toHat_26 : decode cX12_toHat 26 = .ok (.ireturn, 1) := by decide +kernel
theorem dX12_toHat_27 : decode cX12_toHat 27 = .ok (.aload_n 0, 1) := by decide +kernel
theorem dX12_toHat_28 : decode cX12_toHat 28 = .ok (.getfield 78, 3) := by decide +kernel
theorem dX12_toHat_31 : decode cX12_toHat 31 = .ok (.iload_n 1, 1) := by decide +kernel
theorem dX12_toHat_32 : decode cX12_toHat 32 = .ok (.iaload, 1) := by decide +kernel
theorem dX12_toHat_33 : decode cX12_toHat 33 = .ok (.istore_n 3, 1) := by decide +kernel
theorem dX12_toHat_34 : decode cX12_toHat 34 = .ok (.iconst (-1), 1) := by decide +kernel
theorem dX12_toHat_35 : decode cX12_toHat 35 = .ok (.istore 4, 2) := by decide +kernel
theorem dX12_toHat_37 : decode cX12_toHat 37 = .ok (.bipush 20, 2) := by decide +kernel
theorem dX12_toHat_39 : decode cX12_toHat 39 = .ok (.istore 5, 2) := by decide +kernel
theorem dX12_toHat_41 : decode cX12_toHat 41 = .ok (.iload 5, 2) := by decide +kernel
theorem dX12_toHat_43 : decode cX12_toHat 43 = .ok (.ifCond .lt 30, 3) := by decide +kernel
theorem dX12_toHat_46 : decode cX12_toHat 46 = .ok (.aload_n 0, 1) := by decide +kernel
theorem dX12_toHat_47 : decode cX12_toHat 47 = .ok (.getfield 78, 3) := by decide +kernel
theorem dX12_toHat_50 : decode cX12_toHat 50 = .ok (.iload_n 1, 1) := by decide +kernel
theorem dX12_toHat_51 : decode cX12_toHat 51 = .ok (.iload 5, 2) := by decide +kernel
theorem dX12_toHat_53 : decode cX12_toHat 53 = .ok (.iastore, 1) := by decide +kernel
theorem dX12_toHat_54 : decode cX12_toHat 54 = .ok (.aload_n 0, 1) := by decide +kernel
theorem dX12_toHat_55 : decode cX12_toHat 55 = .ok (.iload_n 1, 1) := by decide +kernel
theorem dX12_toHat_56 : decode cX12_toHat 56 = .ok (.iload_n 2, 1) := by decide +kernel
theorem dX12_toHat_57 : decode cX12_toHat 57 = .ok (.invokevirtual 324, 3) := by decide +kernel
theorem dX12_toHat_60 : decode cX12_toHat 60 = .ok (.ifCond .eq 7, 3) := by decide +kernel
theorem dX12_toHat_63 : decode cX12_toHat 63 = .ok (.iload 5, 2) := by decide +kernel
theorem dX12_toHat_65 : decode cX12_toHat 65 = .ok (.istore 4, 2) := by decide +kernel
theorem dX12_toHat_67 : decode cX12_toHat 67 = .ok (.iinc 5 (-1), 3) := by decide +kernel
theorem dX12_toHat_70 : decode cX12_toHat 70 = .ok (.goto (-29), 3) := by decide +kernel
theorem dX12_toHat_73 : decode cX12_toHat 73 = .ok (.aload_n 0, 1) := by decide +kernel
theorem dX12_toHat_74 : decode cX12_toHat 74 = .ok (.getfield 78, 3) := by decide +kernel
theorem dX12_toHat_77 : decode cX12_toHat 77 = .ok (.iload_n 1, 1) := by decide +kernel
theorem dX12_toHat_78 : decode cX12_toHat 78 = .ok (.iload_n 3, 1) := by decide +kernel
theorem dX12_toHat_79 : decode cX12_toHat 79 = .ok (.iastore, 1) := by decide +kernel
theorem dX12_toHat_80 : decode cX12_toHat 80 = .ok (.iload 4, 2) := by decide +kernel
theorem dX12_toHat_82 : decode cX12_toHat 82 = .ok (.ireturn, 1) := by decide +kernel
set_option maxRecDepth 20000 in
theorem ggX12_between_X12_isFarm : GoodIn wsX12_between wsX12_isFarm := goodIn_r _ [6, 7, 8, 9, 5, 10, 41, 42, 43, 44, 45, 46, 47, 48, 49, 50, 51, 52, 53, 54, 55, 56, 57, 58, 59, 60, 61, 62, 63, 64, 65, 66, 67, 68, 69, 70, 71, 72, 73, 74, 75, 76, 77, 78, 79, 80, 81, 82, 83, 84, 85, 86, 87, 88, 89, 90, 91, 92, 93, 94, 95, 96, 97] (by decide +kernel) (by decide +kernel)
set_option maxRecDepth 20000 in
theorem gX12_between_X12_isFarm : GoodIn wsX12_between (wsV RX12 369 RX12 yX12_isFarm wsX12_isFarm) := goodIn_app (goodIn_of _ (by decide +kernel)) ggX12_between_X12_isFarm
set_option maxRecDepth 20000 in
theorem ggX12_between_X12_inTheWay : GoodIn wsX12_between wsX12_inTheWay := goodIn_r _ [14, 7, 15, 16, 17, 5, 18, 19, 20, 21, 22, 23, 24, 25, 26, 27, 28, 29, 30, 31, 32, 33, 34, 35, 36, 41, 42, 43, 44, 45, 46, 47, 48, 49, 50, 51, 52, 53, 54, 55, 56, 57, 58, 59, 60, 61, 62, 63, 64, 65, 66, 67, 68, 69, 70, 71, 72, 73, 74, 75, 76, 77, 78, 79, 80, 81, 82, 83, 84, 85, 86, 87, 88, 89, 90, 91, 92, 93, 94, 95, 96, 97] (by decide +kernel) (by decide +kernel)
set_option maxRecDepth 20000 in
theorem gX12_between_X12_inTheWay : GoodIn wsX12_between (wsV RX12 321 RX12 yX12_inTheWay wsX12_inTheWay) := goodIn_app (goodIn_of _ (by decide +kernel)) ggX12_between_X12_inTheWay
set_option maxRecDepth 20000 in
theorem ggX12_between_X12_fail : GoodIn wsX12_between wsX12_fail := goodIn_r _ [40, 1, 41, 42, 43, 44, 45, 46, 47, 48, 49, 50, 51, 52, 53, 54, 55, 56, 57, 58, 59, 60, 61, 62, 63, 64, 65, 66, 67, 68, 69, 70, 71, 72, 73, 74, 75, 76, 77, 78, 79, 80, 81, 82, 83, 84, 85, 86, 87, 88, 89, 90, 91, 92, 93, 94, 95, 96, 97] (by decide +kernel) (by decide +kernel)
set_option maxRecDepth 20000 in
theorem gX12_between_X12_fail : GoodIn wsX12_between (wsV RX12 274 RX12 yX12_fail wsX12_fail) := goodIn_app (goodIn_of _ (by decide +kernel)) ggX12_between_X12_fail
theorem dX12_between_0 : decode cX12_between 0 = .ok (.aload_n 0, 1) := by decide +kernel
theorem dX12_between_1 : decode cX12_between 1 = .ok (.iconst 0, 1) := by decide +kernel
theorem dX12_between_2 : decode cX12_between 2 = .ok (.putfield 142, 3) := by decide +kernel
theorem dX12_between_5 : decode cX12_between 5 = .ok (.aload_n 0, 1) := by decide +kernel
theorem dX12_between_6 : decode cX12_between 6 = .ok (.iload_n 1, 1) := by decide +kernel
theorem dX12_between_7 : decode cX12_between 7 = .ok (.invokevirtual 369, 3) := by decide +kernel
theorem dX12_between_10 : decode cX12_between 10 = .ok (.ifCond .eq 20, 3) := by decide +kernel
theorem dX12_between_13 : decode cX12_between 13 = .ok (.aload_n 0, 1) := by decide +kernel
theorem dX12_between_14 : decode cX12_between 14 = .ok (.iload_n 2, 1) := by decide +kernel
theorem dX12_between_15 : decode cX12_between 15 = .ok (.invokevirtual 369, 3) := by decide +kernel
theorem dX12_between_18 : decode cX12_between 18 = .ok (.ifCond .eq 12, 3) := by decide +kernel
theorem dX12_between_21 : decode cX12_between 21 = .ok (.aload_n 0, 1) := by decide +kernel
theorem dX12_between_22 : decode cX12_between 22 = .ok (.iload_n 1, 1) := by decide +kernel
theorem dX12_between_23 : decode cX12_between 23 = .ok (.iload_n 2, 1) := by decide +kernel
theorem dX12_between_24 : decode cX12_between 24 = .ok (.invokevirtual 321, 3) := by decide +kernel
theorem dX12_between_27 : decode cX12_between 27 = .ok (.goto 8, 3) := by decide +kernel
theorem dX12_between_30 : decode cX12_between 30 = .ok (.aload_n 0, 1) := by decide +kernel
theorem dX12_between_31 : decode cX12_between 31 = .ok (.iconst 1, 1) := by decide +kernel
theorem dX12_between_32 : decode cX12_between 32 = .ok (.invokevirtual 274, 3) := by decide +kernel
theorem dX12_between_35 : decode cX12_between 35 = .ok (.ireturn, 1) := by decide +kernel
theorem dX12_nextTo_0 : decode cX12_nextTo 0 = .ok (.iconst (-1), 1) := by decide +kernel
theorem dX12_nextTo_1 : decode cX12_nextTo 1 = .ok (.istore_n 2, 1) := by decide +kernel
theorem dX12_nextTo_2 : decode cX12_nextTo 2 = .ok (.iconst 0, 1) := by decide +kernel
theorem dX12_nextTo_3 : decode cX12_nextTo 3 = .ok (.istore_n 3, 1) := by decide +kernel
theorem dX12_nextTo_4 : decode cX12_nextTo 4 = .ok (.iload_n 3, 1) := by decide +kernel
theorem dX12_nextTo_5 : decode cX12_nextTo 5 = .ok (.aload_n 0, 1) := by decide +kernel
theorem dX12_nextTo_6 : decode cX12_nextTo 6 = .ok (.getfield 34, 3) := by decide +kernel
theorem dX12_nextTo_9 : decode cX12_nextTo 9 = .ok (.iconst 0, 1) := by decide +kernel
theorem dX12_nextTo_10 : decode cX12_nextTo 10 = .ok (.iaload, 1) := by decide +kernel
theorem dX12_nextTo_11 : decode cX12_nextTo 11 = .ok (.if_icmp .ge 46, 3) := by decide +kernel
theorem dX12_nextTo_14 : decode cX12_nextTo 14 = .ok (.aload_n 0, 1) := by decide +kernel
theorem dX12_nextTo_15 : decode cX12_nextTo 15 = .ok (.getfield 41, 3) := by decide +kernel
theorem dX12_nextTo_18 : decode cX12_nextTo 18 = .ok (.iload_n 3, 1) := by decide +kernel
theorem dX12_nextTo_19 : decode cX12_nextTo 19 = .ok (.iaload, 1) := by decide +kernel
theorem dX12_nextTo_20 : decode cX12_nextTo 20 = .ok (.aload_n 0, 1) := by decide +kernel
theorem dX12_nextTo_21 : decode cX12_nextTo 21 = .ok (.getfield 41, 3) := by decide +kernel
theorem dX12_nextTo_24 : decode cX12_nextTo 24 = .ok (.iload_n 1, 1) := by decide +kernel
theorem dX12_nextTo_25 : decode cX12_nextTo 25 = .ok (.iaload, 1) := by decide +kernel
theorem dX12_nextTo_26 : decode cX12_nextTo 26 = .ok (.if_icmp .le 25, 3) := by decide +kernel
theorem dX12_nextTo_29 : decode cX12_nextTo 29 = .ok (.iload_n 2, 1) := by decide +kernel
theorem dX12_nextTo_30 : decode cX12_nextTo 30 = .ok (.iconst (-1), 1) := by decide +kernel
theorem dX12_nextTo_31 : decode cX12_nextTo 31 = .ok (.if_icmp .eq 18, 3) := by decide +kernel
theorem dX12_nextTo_34 : decode cX12_nextTo 34 = .ok (.aload_n 0, 1) := by decide +kernel
theorem dX12_nextTo_35 : decode cX12_nextTo 35 = .ok (.getfield 41, 3) := by decide +kernel
theorem dX12_nextTo_38 : decode cX12_nextTo 38 = .ok (.iload_n 3, 1) := by decide +kernel
theorem dX12_nextTo_39 : decode cX12_nextTo 39 = .ok (.iaload, 1) := by decide +kernel
theorem dX12_nextTo_40 : decode cX12_nextTo 40 = .ok (.aload_n 0, 1) := by decide +kernel
theorem dX12_nextTo_41 : decode cX12_nextTo 41 = .ok (.getfield 41, 3) := by decide +kernel
theorem dX12_nextTo_44 : decode cX12_nextTo 44 = .ok (.iload_n 2, 1) := by decide +kernel
theorem dX12_nextTo_45 : decode cX12_nextTo 45 = .ok (.iaload, 1) := by decide +kernel
theorem dX12_nextTo_46 : decode cX12_nextTo 46 = .ok (.if_icmp .ge 5, 3) := by decide +kernel
theorem dX12_nextTo_49 : decode cX12_nextTo 49 = .ok (.iload_n 3, 1) := by decide +kernel
theorem dX12_nextTo_50 : decode cX12_nextTo 50 = .ok (.istore_n 2, 1) := by decide +kernel
theorem dX12_nextTo_51 : decode cX12_nextTo 51 = .ok (.iinc 3 1, 3) := by decide +kernel
theorem dX12_nextTo_54 : decode cX12_nextTo 54 = .ok (.goto (-50), 3) := by decide +kernel
theorem dX12_nextTo_57 : decode cX12_nextTo 57 = .ok (.iload_n 2, 1) := by decide +kernel
theorem dX12_nextTo_58 : decode cX12_nextTo 58 = .ok (.ireturn, 1) := by decide +kernel
set_option maxRecDepth 20000 in
theorem ggX12_line_X12_nextTo : GoodIn wsX12_line wsX12_nextTo := goodIn_r _ [11, 2, 12, 48, 49, 50, 51, 52, 53, 54, 55, 56, 57, 58, 59, 60, 61, 62, 63, 64, 65, 66, 67, 68, 69, 70, 71, 72, 73, 74, 75, 76, 77, 78, 79, 80, 81, 82, 83, 84, 85, 86, 87, 88, 89, 90, 91, 92, 93, 94, 95, 96, 97, 98, 99, 100, 101, 102, 103, 104] (by decide +kernel) (by decide +kernel)
set_option maxRecDepth 20000 in
theorem gX12_line_X12_nextTo : GoodIn wsX12_line (wsV RX12 414 RX12 yX12_nextTo wsX12_nextTo) := goodIn_app (goodIn_of _ (by decide +kernel)) ggX12_line_X12_nextTo
set_option maxRecDepth 20000 in
theorem ggX12_line_X12_inSight : GoodIn wsX12_line wsX12_inSight := goodIn_r _ [16, 12, 17, 18, 5, 19, 2, 20, 21, 22, 10, 23, 24, 25, 26, 27, 28, 29, 30, 31, 32, 33, 34, 35, 36, 37, 3, 4, 6, 38, 39, 40, 41, 42, 43, 44, 45, 46, 47, 48, 49, 50, 51, 52, 53, 54, 55, 56, 57, 58, 59, 60, 61, 62, 63, 64, 65, 66, 67, 68, 69, 70, 71, 72, 73, 74, 75, 76, 77, 78, 79, 80, 81, 82, 83, 84, 85, 86, 87, 88, 89, 90, 91, 92, 93, 94, 95, 96, 97, 98, 99, 100, 101, 102, 103, 104] (by decide +kernel) (by decide +kernel)
set_option maxRecDepth 20000 in
theorem gX12_line_X12_inSight : GoodIn wsX12_line (wsV RX12 324 RX12 yX12_inSight wsX12_inSight) := goodIn_app (goodIn_of _ (by decide +kernel)) ggX12_line_X12_inSight
theorem dX12_line_0 : decode cX12_line 0 = .ok (.aload_n 0, 1) := by decide +kernel
theorem dX12_line_1 : decode cX12_line 1 = .ok (.iconst 0, 1) := by decide +kernel
theorem dX12_line_2 : decode cX12_line 2 = .ok (.putfield 142, 3) := by decide +kernel
theorem dX12_line_5 : decode cX12_line 5 = .ok (.iconst 0, 1) := by decide +kernel
theorem dX12_line_6 : decode cX12_line 6 = .ok (.istore_n 1, 1) := by decide +kernel
theorem dX12_line_7 : decode cX12_line 7 = .ok (.iconst 0, 1) := by decide +kernel
theorem dX12_line_8 : decode cX12_line 8 = .ok (.istore_n 2, 1) := by decide +kernel
theorem dX12_line_9 : decode cX12_line 9 = .ok (.iload_n 2, 1) := by decide +kernel
theorem dX12_line_10 : decode cX12_line 10 = .ok (.aload_n 0, 1) := by decide +kernel
theorem dX12_line_11 : decode cX12_line 11 = .ok (.getfield 34, 3) := by decide +kernel
theorem dX12_line_14 : decode cX12_line 14 = .ok (.iconst 0, 1) := by decide +kernel
theorem dX12_line_15 : decode cX12_line 15 = .ok (.iaload, 1) := by decide +kernel
theorem dX12_line_16 : decode cX12_line 16 = .ok (.if_icmp .ge 59, 3) := by decide +kernel
theorem dX12_line_19 : decode cX12_line 19 = .ok (.iconst 1, 1) := by decide +kernel
theorem dX12_line_20 : decode cX12_line 20 = .ok (.istore_n 3, 1) := by decide +kernel
theorem dX12_line_21 : decode cX12_line 21 = .ok (.iload_n 2, 1) := by decide +kernel
theorem dX12_line_22 : decode cX12_line 22 = .ok (.istore 4, 2) := by decide +kernel
theorem dX12_line_24 : decode cX12_line 24 = .ok (.aload_n 0, 1) := by decide +kernel
theorem dX12_line_25 : decode cX12_line 25 = .ok (.iload 4, 2) := by decide +kernel
theorem dX12_line_27 : decode cX12_line 27 = .ok (.invokevirtual 414, 3) := by decide +kernel
theorem dX12_line_30 : decode cX12_line 30 = .ok (.iconst (-1), 1) := by decide +kernel
theorem dX12_line_31 : decode cX12_line 31 = .ok (.if_icmp .eq 32, 3) := by decide +kernel
theorem dX12_line_34 : decode cX12_line 34 = .ok (.aload_n 0, 1) := by decide +kernel
theorem dX12_line_35 : decode cX12_line 35 = .ok (.iload 4, 2) := by decide +kernel
theorem dX12_line_37 : decode cX12_line 37 = .ok (.aload_n 0, 1) := by decide +kernel
theorem dX12_line_38 : decode cX12_line 38 = .ok (.iload 4, 2) := by decide +kernel
theorem dX12_line_40 : decode cX12_line 40 = .ok (.invokevirtual 414, 3) := by decide +kernel
theorem dX12_line_43 : decode cX12_line 43 = .ok (.invokevirtual 324, 3) := by decide +kernel
theorem dX12_line_46 : decode cX12_line 46 = .ok (.ifCond .eq 17, 3) := by decide +kernel
theorem dX12_line_49 : decode cX12_line 49 = .ok (.aload_n 0, 1) := by decide +kernel
theorem dX12_line_50 : decode cX12_line 50 = .ok (.iload 4, 2) := by decide +kernel
theorem dX12_line_52 : decode cX12_line 52 = .ok (.invokevirtual 414, 3) := by decide +kernel
theorem dX12_line_55 : decode cX12_line 55 = .ok (.istore 4, 2) := by decide +kernel
theorem dX12_line_57 : decode cX12_line 57 = .ok (.iinc 3 1, 3) := by decide +kernel
theorem dX12_line_60 : decode cX12_line 60 = .ok (.goto (-36), 3) := by decide +kernel
theorem dX12_line_63 : decode cX12_line 63 = .ok (.iload_n 1, 1) := by decide +kernel
theorem dX12_line_64 : decode cX12_line 64 = .ok (.iload_n 3, 1) := by decide +kernel
theorem dX12_line_65 : decode cX12_line 65 = .ok (.invokestatic 302, 3) := by decide +kernel
theorem dX12_line_68 : decode cX12_line 68 = .ok (.istore_n 1, 1) := by decide +kernel
theorem dX12_line_69 : decode cX12_line 69 = .ok (.iinc 2 1, 3) := by decide +kernel
theorem dX12_line_72 : decode cX12_line 72 = .ok (.goto (-63), 3) := by decide +kernel
theorem dX12_line_75 : decode cX12_line 75 = .ok (.iload_n 1, 1) := by decide +kernel
theorem dX12_line_76 : decode cX12_line 76 = .ok (.ireturn, 1) := by decide +kernel
set_option maxRecDepth 20000 in
theorem ggX12_hidden_X12_isFarm : GoodIn wsX12_hidden wsX12_isFarm := goodIn_r _ [6, 7, 8, 9, 5, 10, 63, 64, 65, 66, 67, 68, 69, 70, 71, 72, 73, 74, 75, 76, 77, 78, 79, 80, 81, 82, 83, 84, 85, 86, 87, 88, 89, 90, 91, 92, 93, 94, 95, 96, 97, 98, 99, 100, 101, 102, 103, 104, 105, 106, 107, 108, 109, 110, 111, 112, 113, 114, 115, 116, 117, 118, 119] (by decide +kernel) (by decide +kernel)
set_option maxRecDepth 20000 in
theorem gX12_hidden_X12_isFarm : GoodIn wsX12_hidden (wsV RX12 369 RX12 yX12_isFarm wsX12_isFarm) := goodIn_app (goodIn_of _ (by decide +kernel)) ggX12_hidden_X12_isFarm
set_option maxRecDepth 20000 in
theorem ggX12_hidden_X12_all : GoodIn wsX12_hidden wsX12_all := goodIn_r _ [14, 7, 63, 64, 65, 66, 67, 68, 69, 70, 71, 72, 73, 74, 75, 76, 77, 78, 79, 80, 81, 82, 83, 84, 85, 86, 87, 88, 89, 90, 91, 92, 93, 94, 95, 96, 97, 98, 99, 100, 101, 102, 103, 104, 105, 106, 107, 108, 109, 110, 111, 112, 113, 114, 115, 116, 117, 118, 119] (by decide +kernel) (by decide +kernel)
set_option maxRecDepth 20000 in
theorem gX12_hidden_X12_all : GoodIn wsX12_hidden (wsV RX12 354 RX12 yX12_all wsX12_all) := goodIn_app (goodIn_of _ (by decide +kernel)) ggX12_hidden_X12_all
set_option maxRecDepth 20000 in
theorem ggX12_hidden_X12_seesOf : GoodIn wsX12_hidden wsX12_seesOf := goodIn_r _ [18, 7, 19, 20, 21, 5, 22, 23, 24, 25, 26, 27, 28, 29, 30, 31, 32, 33, 34, 35, 36, 37, 38, 39, 40, 41, 42, 43, 44, 45, 46, 47, 48, 49, 50, 51, 52, 53, 54, 55, 56, 57, 58, 63, 64, 65, 66, 67, 68, 69, 70, 71, 72, 73, 74, 75, 76, 77, 78, 79, 80, 81, 82, 83, 84, 85, 86, 87, 88, 89, 90, 91, 92, 93, 94, 95, 96, 97, 98, 99, 100, 101, 102, 103, 104, 105, 106, 107, 108, 109, 110, 111, 112, 113, 114, 115, 116, 117, 118, 119] (by decide +kernel) (by decide +kernel)
set_option maxRecDepth 20000 in
theorem gX12_hidden_X12_seesOf : GoodIn wsX12_hidden (wsV RX12 343 RX12 yX12_seesOf wsX12_seesOf) := goodIn_app (goodIn_of _ (by decide +kernel)) ggX12_hidden_X12_seesOf
set_option maxRecDepth 20000 in
theorem ggX12_hidden_X12_fail : GoodIn wsX12_hidden wsX12_fail := goodIn_r _ [62, 1, 63, 64, 65, 66, 67, 68, 69, 70, 71, 72, 73, 74, 75, 76, 77, 78, 79, 80, 81, 82, 83, 84, 85, 86, 87, 88, 89, 90, 91, 92, 93, 94, 95, 96, 97, 98, 99, 100, 101, 102, 103, 104, 105, 106, 107, 108, 109, 110, 111, 112, 113, 114, 115, 116, 117, 118, 119] (by decide +kernel) (by decide +kernel)
set_option maxRecDepth 20000 in
theorem gX12_hidden_X12_fail : GoodIn wsX12_hidden (wsV RX12 274 RX12 yX12_fail wsX12_fail) := goodIn_app (goodIn_of _ (by decide +kernel)) ggX12_hidden_X12_fail
theorem dX12_hidden_0 : decode cX12_hidden 0 = .ok (.aload_n 0, 1) := by decide +kernel
theorem dX12_hidden_1 : decode cX12_hidden 1 = .ok (.iconst 0, 1) := by decide +kernel
theorem dX12_hidden_2 : decode cX12_hidden 2 = .ok (.putfield 142, 3) := by decide +kernel
theorem dX12_hidden_5 : decode cX12_hidden 5 = .ok (.aload_n 0, 1) := by decide +kernel
theorem dX12_hidden_6 : decode cX12_hidden 6 = .ok (.iload_n 1, 1) := by decide +kernel
theorem dX12_hidden_7 : decode cX12_hidden 7 = .ok (.invokevirtual 369, 3) := by decide +kernel
theorem dX12_hidden_10 : decode cX12_hidden 10 = .ok (.ifCond .eq 24, 3) := by decide +kernel
theorem dX12_hidden_13 : decode cX12_hidden 13 = .ok (.aload_n 0, 1) := by decide +kernel
theorem dX12_hidden_14 : decode cX12_hidden 14 = .ok (.invokevirtual 354, 3) := by decide +kernel
theorem dX12_hidden_17 : decode cX12_hidden 17 = .ok (.aload_n 0, 1) := by decide +kernel
theorem dX12_hidden_18 : decode cX12_hidden 18 = .ok (.iload_n 1, 1) := by decide +kernel
theorem dX12_hidden_19 : decode cX12_hidden 19 = .ok (.invokevirtual 343, 3) := by decide +kernel
theorem dX12_hidden_22 : decode cX12_hidden 22 = .ok (.iconst (-1), 1) := by decide +kernel
theorem dX12_hidden_23 : decode cX12_hidden 23 = .ok (.ixor, 1) := by decide +kernel
theorem dX12_hidden_24 : decode cX12_hidden 24 = .ok (.iand, 1) := by decide +kernel
theorem dX12_hidden_25 : decode cX12_hidden 25 = .ok (.iconst 1, 1) := by decide +kernel
theorem dX12_hidden_26 : decode cX12_hidden 26 = .ok (.iload_n 1, 1) := by decide +kernel
theorem dX12_hidden_27 : decode cX12_hidden 27 = .ok (.ishl, 1) := by decide +kernel
theorem dX12_hidden_28 : decode cX12_hidden 28 = .ok (.iconst (-1), 1) := by decide +kernel
theorem dX12_hidden_29 : decode cX12_hidden 29 = .ok (.ixor, 1) := by decide +kernel
theorem dX12_hidden_30 : decode cX12_hidden 30 = .ok (.iand, 1) := by decide +kernel
theorem dX12_hidden_31 : decode cX12_hidden 31 = .ok (.goto 8, 3) := by decide +kernel
theorem dX12_hidden_34 : decode cX12_hidden 34 = .ok (.aload_n 0, 1) := by decide +kernel
theorem dX12_hidden_35 : decode cX12_hidden 35 = .ok (.iconst 1, 1) := by decide +kernel
theorem dX12_hidden_36 : decode cX12_hidden 36 = .ok (.invokevirtual 274, 3) := by decide +kernel
theorem dX12_hidden_39 : decode cX12_hidden 39 = .ok (.ireturn, 1) := by decide +kernel
set_option maxRecDepth 20000 in
theorem ggX12_crowd_X12_fail : GoodIn wsX12_crowd wsX12_fail := goodIn_r _ [13, 1, 96, 97, 98, 99, 100, 101, 102, 103, 104, 105, 106, 107, 108, 109, 110, 111, 112, 113, 114, 115, 116, 117, 118, 119, 120, 121, 122, 123, 124, 125, 126, 127, 128, 129, 130, 131, 132, 133, 134, 135, 136, 137, 138, 139, 140, 141, 142, 143, 144, 145, 146, 147, 148, 149, 150, 151, 152] (by decide +kernel) (by decide +kernel)
set_option maxRecDepth 20000 in
theorem gX12_crowd_X12_fail : GoodIn wsX12_crowd (wsV RX12 274 RX12 yX12_fail wsX12_fail) := goodIn_app (goodIn_of _ (by decide +kernel)) ggX12_crowd_X12_fail
set_option maxRecDepth 20000 in
theorem ggX12_crowd_X12_isIn : GoodIn wsX12_crowd wsX12_isIn := goodIn_r _ [16] (by decide +kernel) (by decide +kernel)
set_option maxRecDepth 20000 in
theorem gX12_crowd_X12_isIn : GoodIn wsX12_crowd (va_wsS RX12 145 yX12_isIn wsX12_isIn) := goodIn_app (goodIn_of _ (by decide +kernel)) ggX12_crowd_X12_isIn
set_option maxRecDepth 20000 in
theorem ggX12_crowd_X12_pack : GoodIn wsX12_crowd wsX12_pack := goodIn_r _ [20, 21, 22, 23, 24, 25, 26, 96, 97, 98, 99, 100, 101, 102, 103, 104, 105, 106, 107, 108, 109, 110, 111, 112, 113, 114, 115, 116, 117, 118, 119, 120, 121, 122, 123, 124, 125, 126, 127, 128, 129, 130, 131, 132, 133, 134, 135, 136, 137, 138, 139, 140, 141, 142, 143, 144, 145, 146, 147, 148, 149, 150, 151, 152] (by decide +kernel) (by decide +kernel)
set_option maxRecDepth 20000 in
theorem gX12_crowd_X12_pack : GoodIn wsX12_crowd (wsV RX12 372 RX12 yX12_pack wsX12_pack) := goodIn_app (goodIn_of _ (by decide +kernel)) ggX12_crowd_X12_pack
set_option maxRecDepth 20000 in
theorem ggX12_crowd_X12_aTick : GoodIn wsX12_crowd wsX12_aTick := goodIn_r _ [30, 4, 31, 23, 24, 25, 32, 33, 7, 34, 22, 35, 21, 36, 37, 12, 38, 39, 40, 41, 42, 43, 44, 45, 46, 47, 48, 49, 50, 51, 52, 53, 54, 55, 56, 57, 58, 59, 60, 61, 62, 63, 64, 5, 6, 8, 65, 66, 67, 68, 69, 70, 71, 72, 73, 26, 74, 75, 76, 77, 78, 79, 80, 81, 82, 83, 84, 85, 86, 87, 88, 89, 90, 91, 96, 97, 98, 99, 100, 101, 102, 103, 104, 105, 106, 107, 108, 109, 110, 111, 112, 113, 114, 115, 116, 117, 118, 119, 120, 121, 122, 123, 124, 125, 126, 127, 128, 129, 130, 131, 132, 133, 134, 135, 136, 137, 138, 139, 140, 141, 142, 143, 144, 145, 146, 147, 148, 149, 150, 151, 152] (by decide +kernel) (by decide +kernel)
set_option maxRecDepth 20000 in
theorem gX12_crowd_X12_aTick : GoodIn wsX12_crowd (wsV RX12 348 RX12 yX12_aTick wsX12_aTick) := goodIn_app (goodIn_of _ (by decide +kernel)) ggX12_crowd_X12_aTick
set_option maxRecDepth 20000 in
theorem ggX12_crowd_X12_bitsOf : GoodIn wsX12_crowd wsX12_bitsOf := goodIn_r _ [82] (by decide +kernel) (by decide +kernel)
set_option maxRecDepth 20000 in
theorem gX12_crowd_X12_bitsOf : GoodIn wsX12_crowd (va_wsS RX12 335 yX12_bitsOf wsX12_bitsOf) := goodIn_app (goodIn_of _ (by decide +kernel)) ggX12_crowd_X12_bitsOf
set_option maxRecDepth 20000 in
theorem ggX12_crowd_X12_unpack : GoodIn wsX12_crowd wsX12_unpack := goodIn_r _ [95, 21, 22, 23, 24, 25, 26, 96, 97, 98, 99, 100, 101, 102, 103, 104, 105, 106, 107, 108, 109, 110, 111, 112, 113, 114, 115, 116, 117, 118, 119, 120, 121, 122, 123, 124, 125, 126, 127, 128, 129, 130, 131, 132, 133, 134, 135, 136, 137, 138, 139, 140, 141, 142, 143, 144, 145, 146, 147, 148, 149, 150, 151, 152] (by decide +kernel) (by decide +kernel)
set_option maxRecDepth 20000 in
theorem gX12_crowd_X12_unpack : GoodIn wsX12_crowd (wsV RX12 403 RX12 yX12_unpack wsX12_unpack) := goodIn_app (goodIn_of _ (by decide +kernel)) ggX12_crowd_X12_unpack
theorem dX12_crowd_0 : decode cX12_crowd 0 = .ok (.aload_n 0, 1) := by decide +kernel
theorem dX12_crowd_1 : decode cX12_crowd 1 = .ok (.iconst 0, 1) := by decide +kernel
theorem dX12_crowd_2 : decode cX12_crowd 2 = .ok (.putfield 142, 3) := by decide +kernel
theorem dX12_crowd_5 : decode cX12_crowd 5 = .ok (.iload_n 2, 1) := by decide +kernel
theorem dX12_crowd_6 : decode cX12_crowd 6 = .ok (.ifCond .lt 8, 3) := by decide +kernel
theorem dX12_crowd_9 : decode cX12_crowd 9 = .ok (.iload_n 2, 1) := by decide +kernel
theorem dX12_crowd_10 : decode cX12_crowd 10 = .ok (.iconst 1, 1) := by decide +kernel
theorem dX12_crowd_11 : decode cX12_crowd 11 = .ok (.if_icmp .le 9, 3) := by decide +kernel
theorem dX12_crowd_14 : decode cX12_crowd 14 = .ok (.aload_n 0, 1) := by decide +kernel
theorem dX12_crowd_15 : decode cX12_crowd 15 = .ok (.iconst 1, 1) := by decide +kernel
theorem dX12_crowd_16 : decode cX12_crowd 16 = .ok (.invokevirtual 274, 3) := by decide +kernel
theorem dX12_crowd_19 : decode cX12_crowd 19 = .ok (.ireturn, 1) := by decide +kernel
theorem dX12_crowd_20 : decode cX12_crowd 20 = .ok (.iload_n 1, 1) := by decide +kernel
theorem dX12_crowd_21 : decode cX12_crowd 21 = .ok (.i2l, 1) := by decide +kernel
theorem dX12_crowd_22 : decode cX12_crowd 22 = .ok (.lconst 1, 1) := by decide +kernel
theorem dX12_crowd_23 : decode cX12_crowd 23 = .ok (.ldc2_w 406, 3) := by decide +kernel
theorem dX12_crowd_26 : decode cX12_crowd 26 = .ok (.invokestatic 145, 3) := by decide +kernel
theorem dX12_crowd_29 : decode cX12_crowd 29 = .ok (.ifCond .ne 9, 3) := by decide +kernel
theorem dX12_crowd_32 : decode cX12_crowd 32 = .ok (.aload_n 0, 1) := by decide +kernel
theorem dX12_crowd_33 : decode cX12_crowd 33 = .ok (.iconst 2, 1) := by decide +kernel
theorem dX12_crowd_34 : decode cX12_crowd 34 = .ok (.invokevirtual 274, 3) := by decide +kernel
theorem dX12_crowd_37 : decode cX12_crowd 37 = .ok (.ireturn, 1) := by decide +kernel
theorem dX12_crowd_38 : decode cX12_crowd 38 = .ok (.aload_n 0, 1) := by decide +kernel
theorem dX12_crowd_39 : decode cX12_crowd 39 = .ok (.aload_n 0, 1) := by decide +kernel
theorem dX12_crowd_40 : decode cX12_crowd 40 = .ok (.getfield 96, 3) := by decide +kernel
theorem dX12_crowd_43 : decode cX12_crowd 43 = .ok (.iconst 0, 1) := by decide +kernel
theorem dX12_crowd_44 : decode cX12_crowd 44 = .ok (.invokevirtual 372, 3) := by decide +kernel
theorem dX12_crowd_47 : decode cX12_crowd 47 = .ok (.iconst 0, 1) := by decide +kernel
theorem dX12_crowd_48 : decode cX12_crowd 48 = .ok (.istore_n 3, 1) := by decide +kernel
theorem dX12_crowd_49 : decode cX12_crowd 49 = .ok (.iconst 0, 1) := by decide +kernel
theorem dX12_crowd_50 : decode cX12_crowd 50 = .ok (.istore 4, 2) := by decide +kernel
theorem dX12_crowd_52 : decode cX12_crowd 52 = .ok (.iconst 0, 1) := by decide +kernel
theorem dX12_crowd_53 : decode cX12_crowd 53 = .ok (.istore 5, 2) := by decide +kernel
theorem dX12_crowd_55 : decode cX12_crowd 55 = .ok (.iload 5, 2) := by decide +kernel
theorem dX12_crowd_57 : decode cX12_crowd 57 = .ok (.iload_n 1, 1) := by decide +kernel
theorem dX12_crowd_58 : decode cX12_crowd 58 = .ok (.if_icmp .ge 42, 3) := by decide +kernel
theorem dX12_crowd_61 : decode cX12_crowd 61 = .ok (.aload_n 0, 1) := by decide +kernel
theorem dX12_crowd_62 : decode cX12_crowd 62 = .ok (.invokevirtual 348, 3) := by decide +kernel
theorem dX12_crowd_65 : decode cX12_crowd 65 = .ok (.iload_n 3, 1) := by decide +kernel
theorem dX12_crowd_66 : decode cX12_crowd 66 = .ok (.aload_n 0, 1) := by decide +kernel
theorem dX12_crowd_67 : decode cX12_crowd 67 = .ok (.getfield 341, 3) := by decide +kernel
theorem dX12_crowd_70 : decode cX12_crowd 70 = .ok (.invokestatic 335, 3) := by decide +kernel
theorem dX12_crowd_73 : decode cX12_crowd 73 = .ok (.invokestatic 302, 3) := by decide +kernel
theorem dX12_crowd_76 : decode cX12_crowd 76 = .ok (.istore_n 3, 1) := by decide +kernel
theorem dX12_crowd_77 : decode cX12_crowd 77 = .ok (.iload 4, 2) := by decide +kernel
theorem dX12_crowd_79 : decode cX12_crowd 79 = .ok (.aload_n 0, 1) := by decide +kernel
theorem dX12_crowd_80 : decode cX12_crowd 80 = .ok (.getfield 341, 3) := by decide +kernel
theorem dX12_crowd_83 : decode cX12_crowd 83 = .ok (.ifCond .ne 7, 3) := by decide +kernel
theorem dX12_crowd_86 : decode cX12_crowd 86 = .ok (.iconst 1, 1) := by decide +kernel
theorem dX12_crowd_87 : decode cX12_crowd 87 = .ok (.goto 4, 3) := by decide +kernel
theorem dX12_crowd_90 : decode cX12_crowd 90 = .ok (.iconst 0, 1) := by decide +kernel
theorem dX12_crowd_91 : decode cX12_crowd 91 = .ok (.iadd, 1) := by decide +kernel
theorem dX12_crowd_92 : decode cX12_crowd 92 = .ok (.istore 4, 2) := by decide +kernel
theorem dX12_crowd_94 : decode cX12_crowd 94 = .ok (.iinc 5 1, 3) := by decide +kernel
theorem dX12_crowd_97 : decode cX12_crowd 97 = .ok (.goto (-42), 3) := by decide +kernel
theorem dX12_crowd_100 : decode cX12_crowd 100 = .ok (.aload_n 0, 1) := by decide +kernel
theorem dX12_crowd_101 : decode cX12_crowd 101 = .ok (.aload_n 0, 1) := by decide +kernel
theorem dX12_crowd_102 : decode cX12_crowd 102 = .ok (.getfield 96, 3) := by decide +kernel
theorem dX12_crowd_105 : decode cX12_crowd 105 = .ok (.iconst 0, 1) := by decide +kernel
theorem dX12_crowd_106 : decode cX12_crowd 106 = .ok (.invokevirtual 403, 3) := by decide +kernel
theorem dX12_crowd_109 : decode cX12_crowd 109 = .ok (.iload_n 2, 1) := by decide +kernel
theorem dX12_crowd_110 : decode cX12_crowd 110 = .ok (.ifCond .ne 7, 3) := by decide +kernel
theorem dX12_crowd_113 : decode cX12_crowd 113 = .ok (.iload_n 3, 1) := by decide +kernel
theorem dX12_crowd_114 : decode cX12_crowd 114 = .ok (.goto 5, 3) := by decide +kernel
theorem dX12_crowd_117 : decode cX12_crowd 117 = .ok (.iload 4, 2) := by decide +kernel
theorem dX12_crowd_119 : decode cX12_crowd 119 = .ok (.ireturn, 1) := by decide +kernel
set_option maxRecDepth 20000 in
theorem ggX12_see_X12_isFarm : GoodIn wsX12_see wsX12_isFarm := goodIn_r _ [11, 12, 13, 14, 10, 15, 25, 26, 27, 28, 29, 30, 31, 32, 33, 34, 35, 36, 37, 38, 39, 40, 41, 42, 43, 44, 45, 46, 47, 48, 49, 50, 51, 52, 53, 54, 55, 56, 57, 58, 59, 60, 61, 62, 63, 64, 65, 66, 67, 68, 69, 70, 71, 72, 73, 74, 75, 76, 77, 78, 79, 80, 81] (by decide +kernel) (by decide +kernel)
set_option maxRecDepth 20000 in
theorem gX12_see_X12_isFarm : GoodIn wsX12_see (wsV RX12 369 RX12 yX12_isFarm wsX12_isFarm) := goodIn_app (goodIn_of _ (by decide +kernel)) ggX12_see_X12_isFarm
set_option maxRecDepth 20000 in
theorem ggX12_see_X12_fail : GoodIn wsX12_see wsX12_fail := goodIn_r _ [19, 1, 25, 26, 27, 28, 29, 30, 31, 32, 33, 34, 35, 36, 37, 38, 39, 40, 41, 42, 43, 44, 45, 46, 47, 48, 49, 50, 51, 52, 53, 54, 55, 56, 57, 58, 59, 60, 61, 62, 63, 64, 65, 66, 67, 68, 69, 70, 71, 72, 73, 74, 75, 76, 77, 78, 79, 80, 81] (by decide +kernel) (by decide +kernel)
set_option maxRecDepth 20000 in
theorem gX12_see_X12_fail : GoodIn wsX12_see (wsV RX12 274 RX12 yX12_fail wsX12_fail) := goodIn_app (goodIn_of _ (by decide +kernel)) ggX12_see_X12_fail
set_option maxRecDepth 20000 in
theorem ggX12_see_X12_isIn : GoodIn wsX12_see wsX12_isIn := goodIn_r _ [15] (by decide +kernel) (by decide +kernel)
set_option maxRecDepth 20000 in
theorem gX12_see_X12_isIn : GoodIn wsX12_see (va_wsS RX12 145 yX12_isIn wsX12_isIn) := goodIn_app (goodIn_of _ (by decide +kernel)) ggX12_see_X12_isIn
set_option maxRecDepth 20000 in
theorem ggX12_see_X12_refuse : GoodIn wsX12_see wsX12_refuse := goodIn_r _ [23, 24, 25, 26, 27, 28, 29, 30, 31, 32, 33, 34, 35, 36, 37, 38, 39, 40, 41, 42, 43, 44, 45, 46, 47, 48, 49, 50, 51, 52, 53, 54, 55, 56, 57, 58, 59, 60, 61, 62, 63, 64, 65, 66, 67, 68, 69, 70, 71, 72, 73, 74, 75, 76, 77, 78, 79, 80, 81] (by decide +kernel) (by decide +kernel)
set_option maxRecDepth 20000 in
theorem gX12_see_X12_refuse : GoodIn wsX12_see (wsV RX12 378 RX12 yX12_refuse wsX12_refuse) := goodIn_app (goodIn_of _ (by decide +kernel)) ggX12_see_X12_refuse
theorem dX12_see_0 : decode cX12_see 0 = .ok (.aload_n 0, 1) := by decide +kernel
theorem dX12_see_1 : decode cX12_see 1 = .ok (.iconst 0, 1) := by decide +kernel
theorem dX12_see_2 : decode cX12_see 2 = .ok (.putfield 142, 3) := by decide +kernel
theorem dX12_see_5 : decode cX12_see 5 = .ok (.aload_n 0, 1) := by decide +kernel
theorem dX12_see_6 : decode cX12_see 6 = .ok (.iload_n 1, 1) := by decide +kernel
theorem dX12_see_7 : decode cX12_see 7 = .ok (.invokevirtual 369, 3) := by decide +kernel
theorem dX12_see_10 : decode cX12_see 10 = .ok (.ifCond .ne 9, 3) := by decide +kernel
theorem dX12_see_13 : decode cX12_see 13 = .ok (.aload_n 0, 1) := by decide +kernel
theorem dX12_see_14 : decode cX12_see 14 = .ok (.iconst 1, 1) := by decide +kernel
theorem dX12_see_15 : decode cX12_see 15 = .ok (.invokevirtual 274, 3) := by decide +kernel
theorem dX12_see_18 : decode cX12_see 18 = .ok (.ireturn, 1) := by decide +kernel
theorem dX12_see_19 : decode cX12_see 19 = .ok (.aload_n 0, 1) := by decide +kernel
theorem dX12_see_20 : decode cX12_see 20 = .ok (.getfield 296, 3) := by decide +kernel
theorem dX12_see_23 : decode cX12_see 23 = .ok (.bipush 8, 2) := by decide +kernel
theorem dX12_see_25 : decode cX12_see 25 = .ok (.if_icmp .eq 15, 3) := by decide +kernel
theorem dX12_see_28 : decode cX12_see 28 = .ok (.iload_n 2, 1) := by decide +kernel
theorem dX12_see_29 : decode cX12_see 29 = .ok (.i2l, 1) := by decide +kernel
theorem dX12_see_30 : decode cX12_see 30 = .ok (.lconst 1, 1) := by decide +kernel
theorem dX12_see_31 : decode cX12_see 31 = .ok (.ldc2_w 376, 3) := by decide +kernel
theorem dX12_see_34 : decode cX12_see 34 = .ok (.invokestatic 145, 3) := by decide +kernel
theorem dX12_see_37 : decode cX12_see 37 = .ok (.ifCond .ne 9, 3) := by decide +kernel
theorem dX12_see_40 : decode cX12_see 40 = .ok (.aload_n 0, 1) := by decide +kernel
theorem dX12_see_41 : decode cX12_see 41 = .ok (.iconst 2, 1) := by decide +kernel
theorem dX12_see_42 : decode cX12_see 42 = .ok (.invokevirtual 378, 3) := by decide +kernel
theorem dX12_see_45 : decode cX12_see 45 = .ok (.ireturn, 1) := by decide +kernel
theorem dX12_see_46 : decode cX12_see 46 = .ok (.aload_n 0, 1) := by decide +kernel
theorem dX12_see_47 : decode cX12_see 47 = .ok (.getfield 105, 3) := by decide +kernel
theorem dX12_see_50 : decode cX12_see 50 = .ok (.aload_n 0, 1) := by decide +kernel
theorem dX12_see_51 : decode cX12_see 51 = .ok (.getfield 296, 3) := by decide +kernel
theorem dX12_see_54 : decode cX12_see 54 = .ok (.iload_n 1, 1) := by decide +kernel
theorem dX12_see_55 : decode cX12_see 55 = .ok (.iastore, 1) := by decide +kernel
theorem dX12_see_56 : decode cX12_see 56 = .ok (.aload_n 0, 1) := by decide +kernel
theorem dX12_see_57 : decode cX12_see 57 = .ok (.getfield 108, 3) := by decide +kernel
theorem dX12_see_60 : decode cX12_see 60 = .ok (.aload_n 0, 1) := by decide +kernel
theorem dX12_see_61 : decode cX12_see 61 = .ok (.getfield 296, 3) := by decide +kernel
theorem dX12_see_64 : decode cX12_see 64 = .ok (.iload_n 2, 1) := by decide +kernel
theorem dX12_see_65 : decode cX12_see 65 = .ok (.iastore, 1) := by decide +kernel
theorem dX12_see_66 : decode cX12_see 66 = .ok (.aload_n 0, 1) := by decide +kernel
theorem dX12_see_67 : decode cX12_see 67 = .ok (.getfield 114, 3) := by decide +kernel
theorem dX12_see_70 : decode cX12_see 70 = .ok (.aload_n 0, 1) := by decide +kernel
theorem dX12_see_71 : decode cX12_see 71 = .ok (.getfield 296, 3) := by decide +kernel
theorem dX12_see_74 : decode cX12_see 74 = .ok (.iload_n 3, 1) := by decide +kernel
theorem dX12_see_75 : decode cX12_see 75 = .ok (.bastore, 1) := by decide +kernel
theorem dX12_see_76 : decode cX12_see 76 = .ok (.aload_n 0, 1) := by decide +kernel
theorem dX12_see_77 : decode cX12_see 77 = .ok (.dup, 1) := by decide +kernel
theorem dX12_see_78 : decode cX12_see 78 = .ok (.getfield 296, 3) := by decide +kernel
theorem dX12_see_81 : decode cX12_see 81 = .ok (.iconst 1, 1) := by decide +kernel
theorem dX12_see_82 : decode cX12_see 82 = .ok (.iadd, 1) := by decide +kernel
theorem dX12_see_83 : decode cX12_see 83 = .ok (.putfield 296, 3) := by decide +kernel
theorem dX12_see_86 : decode cX12_see 86 = .ok (.aload_n 0, 1) := by decide +kernel
theorem dX12_see_87 : decode cX12_see 87 = .ok (.getfield 296, 3) := by decide +kernel
theorem dX12_see_90 : decode cX12_see 90 = .ok (.ireturn, 1) := by decide +kernel
set_option maxRecDepth 20000 in
theorem ggX12_isAsSeen_X12_pack : GoodIn wsX12_isAsSeen wsX12_pack := goodIn_r _ [11, 12, 13, 14, 15, 16, 17, 91, 92, 93, 94, 95, 96, 97, 98, 99, 100, 101, 102, 103, 104, 105, 106, 107, 108, 109, 110, 111, 112, 113, 114, 115, 116, 117, 118, 119, 120, 121, 122, 123, 124, 125, 126, 127, 128, 129, 130, 131, 132, 133, 134, 135, 136, 137, 138, 139, 140, 141, 142, 143, 144, 145, 146, 147] (by decide +kernel) (by decide +kernel)
set_option maxRecDepth 20000 in
theorem gX12_isAsSeen_X12_pack : GoodIn wsX12_isAsSeen (wsV RX12 372 RX12 yX12_pack wsX12_pack) := goodIn_app (goodIn_of _ (by decide +kernel)) ggX12_isAsSeen_X12_pack
set_option maxRecDepth 20000 in
theorem ggX12_isAsSeen_X12_aTick : GoodIn wsX12_isAsSeen wsX12_aTick := goodIn_r _ [21, 4, 22, 14, 15, 16, 23, 24, 25, 26, 13, 27, 12, 28, 29, 10, 30, 31, 32, 33, 34, 35, 36, 37, 38, 39, 40, 41, 42, 43, 44, 45, 46, 47, 48, 49, 50, 51, 52, 53, 54, 55, 56, 57, 58, 59, 60, 61, 62, 63, 64, 65, 66, 67, 68, 17, 69, 70, 71, 72, 73, 74, 75, 76, 77, 78, 79, 80, 81, 82, 83, 84, 85, 86, 91, 92, 93, 94, 95, 96, 97, 98, 99, 100, 101, 102, 103, 104, 105, 106, 107, 108, 109, 110, 111, 112, 113, 114, 115, 116, 117, 118, 119, 120, 121, 122, 123, 124, 125, 126, 127, 128, 129, 130, 131, 132, 133, 134, 135, 136, 137, 138, 139, 140, 141, 142, 143, 144, 145, 146, 147] (by decide +kernel) (by decide +kernel)
set_option maxRecDepth 20000 in
theorem gX12_isAsSeen_X12_aTick : GoodIn wsX12_isAsSeen (wsV RX12 348 RX12 yX12_aTick wsX12_aTick) := goodIn_app (goodIn_of _ (by decide +kernel)) ggX12_isAsSeen_X12_aTick
set_option maxRecDepth 20000 in
theorem ggX12_isAsSeen_X12_isOf : GoodIn wsX12_isAsSeen wsX12_isOf := goodIn_r _ [30] (by decide +kernel) (by decide +kernel)
set_option maxRecDepth 20000 in
theorem gX12_isAsSeen_X12_isOf : GoodIn wsX12_isAsSeen (va_wsS RX12 332 yX12_isOf wsX12_isOf) := goodIn_app (goodIn_of _ (by decide +kernel)) ggX12_isAsSeen_X12_isOf
set_option maxRecDepth 20000 in
theorem ggX12_isAsSeen_X12_unpack : GoodIn wsX12_isAsSeen wsX12_unpack := goodIn_r _ [90, 12, 13, 14, 15, 16, 17, 91, 92, 93, 94, 95, 96, 97, 98, 99, 100, 101, 102, 103, 104, 105, 106, 107, 108, 109, 110, 111, 112, 113, 114, 115, 116, 117, 118, 119, 120, 121, 122, 123, 124, 125, 126, 127, 128, 129, 130, 131, 132, 133, 134, 135, 136, 137, 138, 139, 140, 141, 142, 143, 144, 145, 146, 147] (by decide +kernel) (by decide +kernel)
set_option maxRecDepth 20000 in
theorem gX12_isAsSeen_X12_unpack : GoodIn wsX12_isAsSeen (wsV RX12 403 RX12 yX12_unpack wsX12_unpack) := goodIn_app (goodIn_of _ (by decide +kernel)) ggX12_isAsSeen_X12_unpack
theorem dX12_isAsSeen_0 : decode cX12_isAsSeen 0 = .ok (.aload_n 0, 1) := by decide +kernel
theorem dX12_isAsSeen_1 : decode cX12_isAsSeen 1 = .ok (.aload_n 0, 1) := by decide +kernel
theorem dX12_isAsSeen_2 : decode cX12_isAsSeen 2 = .ok (.getfield 111, 3) := by decide +kernel
theorem dX12_isAsSeen_5 : decode cX12_isAsSeen 5 = .ok (.iconst 0, 1) := by decide +kernel
theorem dX12_isAsSeen_6 : decode cX12_isAsSeen 6 = .ok (.invokevirtual 372, 3) := by decide +kernel
theorem dX12_isAsSeen_9 : decode cX12_isAsSeen 9 = .ok (.iconst 1, 1) := by decide +kernel
theorem dX12_isAsSeen_10 : decode cX12_isAsSeen 10 = .ok (.istore_n 1, 1) := by decide +kernel
theorem dX12_isAsSeen_11 : decode cX12_isAsSeen 11 = .ok (.iconst 1, 1) := by decide +kernel
theorem dX12_isAsSeen_12 : decode cX12_isAsSeen 12 = .ok (.istore_n 2, 1) := by decide +kernel
theorem dX12_isAsSeen_13 : decode cX12_isAsSeen 13 = .ok (.iload_n 2, 1) := by decide +kernel
theorem dX12_isAsSeen_14 : decode cX12_isAsSeen 14 = .ok (.bipush 20, 2) := by decide +kernel
theorem dX12_isAsSeen_16 : decode cX12_isAsSeen 16 = .ok (.if_icmp .gt 75, 3) := by decide +kernel
theorem dX12_isAsSeen_19 : decode cX12_isAsSeen 19 = .ok (.iload_n 1, 1) := by decide +kernel
theorem dX12_isAsSeen_20 : decode cX12_isAsSeen 20 = .ok (.ifCond .eq 71, 3) := by decide +kernel
theorem dX12_isAsSeen_23 : decode cX12_isAsSeen 23 = .ok (.aload_n 0, 1) := by decide +kernel
theorem dX12_isAsSeen_24 : decode cX12_isAsSeen 24 = .ok (.invokevirtual 348, 3) := by decide +kernel
theorem dX12_isAsSeen_27 : decode cX12_isAsSeen 27 = .ok (.iconst 0, 1) := by decide +kernel
theorem dX12_isAsSeen_28 : decode cX12_isAsSeen 28 = .ok (.istore_n 3, 1) := by decide +kernel
theorem dX12_isAsSeen_29 : decode cX12_isAsSeen 29 = .ok (.iload_n 3, 1) := by decide +kernel
theorem dX12_isAsSeen_30 : decode cX12_isAsSeen 30 = .ok (.aload_n 0, 1) := by decide +kernel
theorem dX12_isAsSeen_31 : decode cX12_isAsSeen 31 = .ok (.getfield 296, 3) := by decide +kernel
theorem dX12_isAsSeen_34 : decode cX12_isAsSeen 34 = .ok (.if_icmp .ge 51, 3) := by decide +kernel
theorem dX12_isAsSeen_37 : decode cX12_isAsSeen 37 = .ok (.iload_n 1, 1) := by decide +kernel
theorem dX12_isAsSeen_38 : decode cX12_isAsSeen 38 = .ok (.ifCond .eq 39, 3) := by decide +kernel
theorem dX12_isAsSeen_41 : decode cX12_isAsSeen 41 = .ok (.aload_n 0, 1) := by decide +kernel
theorem dX12_isAsSeen_42 : decode cX12_isAsSeen 42 = .ok (.getfield 108, 3) := by decide +kernel
theorem dX12_isAsSeen_45 : decode cX12_isAsSeen 45 = .ok (.iload_n 3, 1) := by decide +kernel
theorem dX12_isAsSeen_46 : decode cX12_isAsSeen 46 = .ok (.iaload, 1) := by decide +kernel
theorem dX12_isAsSeen_47 : decode cX12_isAsSeen 47 = .ok (.iload_n 2, 1) := by decide +kernel
theorem dX12_isAsSeen_48 : decode cX12_isAsSeen 48 = .ok (.if_icmp .ne 25, 3) := by decide +kernel
theorem dX12_isAsSeen_51 : decode cX12_isAsSeen 51 = .ok (.aload_n 0, 1) := by decide +kernel
theorem dX12_isAsSeen_52 : decode cX12_isAsSeen 52 = .ok (.getfield 341, 3) := by decide +kernel
theorem dX12_isAsSeen_55 : decode cX12_isAsSeen 55 = .ok (.aload_n 0, 1) := by decide +kernel
theorem dX12_isAsSeen_56 : decode cX12_isAsSeen 56 = .ok (.getfield 105, 3) := by decide +kernel
theorem dX12_isAsSeen_59 : decode cX12_isAsSeen 59 = .ok (.iload_n 3, 1) := by decide +kernel
theorem dX12_isAsSeen_60 : decode cX12_isAsSeen 60 = .ok (.iaload, 1) := by decide +kernel
theorem dX12_isAsSeen_61 : decode cX12_isAsSeen 61 = .ok (.invokestatic 332, 3) := by decide +kernel
theorem dX12_isAsSeen_64 : decode cX12_isAsSeen 64 = .ok (.aload_n 0, 1) := by decide +kernel
theorem dX12_isAsSeen_65 : decode cX12_isAsSeen 65 = .ok (.getfield 114, 3) := by decide +kernel
theorem dX12_isAsSeen_68 : decode cX12_isAsSeen 68 = .ok (.iload_n 3, 1) := by decide +kernel
theorem dX12_isAsSeen_69 : decode cX12_isAsSeen 69 = .ok (.baload, 1) := by decide +kernel
theorem dX12_isAsSeen_70 : decode cX12_isAsSeen 70 = .ok (.if_icmp .ne 7, 3) := by decide +kernel
theorem dX12_isAsSeen_73 : decode cX12_isAsSeen 73 = .ok (.iconst 1, 1) := by decide +kernel
theorem dX12_isAsSeen_74 : decode cX12_isAsSeen 74 = .ok (.goto 4, 3) := by decide +kernel
theorem dX12_isAsSeen_77 : decode cX12_isAsSeen 77 = .ok (.iconst 0, 1) := by decide +kernel
theorem dX12_isAsSeen_78 : decode cX12_isAsSeen 78 = .ok (.istore_n 1, 1) := by decide +kernel
theorem dX12_isAsSeen_79 : decode cX12_isAsSeen 79 = .ok (.iinc 3 1, 3) := by decide +kernel
theorem dX12_isAsSeen_82 : decode cX12_isAsSeen 82 = .ok (.goto (-53), 3) := by decide +kernel
theorem dX12_isAsSeen_85 : decode cX12_isAsSeen 85 = .ok (.iinc 2 1, 3) := by decide +kernel
theorem dX12_isAsSeen_88 : decode cX12_isAsSeen 88 = .ok (.goto (-75), 3) := by decide +kernel
theorem dX12_isAsSeen_91 : decode cX12_isAsSeen 91 = .ok (.aload_n 0, 1) := by decide +kernel
theorem dX12_isAsSeen_92 : decode cX12_isAsSeen 92 = .ok (.aload_n 0, 1) := by decide +kernel
theorem dX12_isAsSeen_93 : decode cX12_isAsSeen 93 = .ok (.getfield 111, 3) := by decide +kernel
theorem dX12_isAsSeen_96 : decode cX12_isAsSeen 96 = .ok (.iconst 0, 1) := by decide +kernel
theorem dX12_isAsSeen_97 : decode cX12_isAsSeen 97 = .ok (.invokevirtual 403, 3) := by decide +kernel
theorem dX12_isAsSeen_100 : decode cX12_isAsSeen 100 = .ok (.iload_n 1, 1) := by decide +kernel
theorem dX12_isAsSeen_101 : decode cX12_isAsSeen 101 = .ok (.ireturn, 1) := by decide +kernel
set_option maxRecDepth 20000 in
theorem ggX12_tellFits_X12_isAsleep : GoodIn wsX12_tellFits wsX12_isAsleep := goodIn_r _ [8, 9, 10, 11, 7, 12, 100, 101, 102, 103, 104, 105, 106, 107, 108, 109, 110, 111, 112, 113, 114, 115, 116, 117, 118, 119, 120, 121, 122, 123, 124, 125, 126, 127, 128, 129, 130, 131, 132, 133, 134, 135, 136, 137, 138, 139, 140, 141, 142, 143, 144, 145, 146, 147, 148, 149, 150, 151, 152, 153, 154, 155, 156] (by decide +kernel) (by decide +kernel)
set_option maxRecDepth 20000 in
theorem gX12_tellFits_X12_isAsleep : GoodIn wsX12_tellFits (wsV RX12 390 RX12 yX12_isAsleep wsX12_isAsleep) := goodIn_app (goodIn_of _ (by decide +kernel)) ggX12_tellFits_X12_isAsleep
set_option maxRecDepth 20000 in
theorem ggX12_tellFits_X12_isAsSeen : GoodIn wsX12_tellFits wsX12_isAsSeen := goodIn_r _ [16, 17, 18, 19, 20, 21, 22, 23, 24, 25, 7, 26, 27, 9, 3, 28, 29, 30, 31, 32, 33, 34, 2, 35, 36, 37, 38, 39, 10, 11, 12, 40, 41, 42, 43, 44, 45, 46, 47, 48, 49, 50, 51, 52, 53, 54, 55, 56, 57, 58, 59, 60, 61, 62, 63, 64, 65, 66, 67, 68, 69, 70, 71, 72, 73, 74, 75, 76, 77, 78, 79, 80, 81, 82, 83, 84, 85, 86, 87, 88, 89, 90, 91, 92, 93, 94, 95, 96, 97, 98, 99, 100, 101, 102, 103, 104, 105, 106, 107, 108, 109, 110, 111, 112, 113, 114, 115, 116, 117, 118, 119, 120, 121, 122, 123, 124, 125, 126, 127, 128, 129, 130, 131, 132, 133, 134, 135, 136, 137, 138, 139, 140, 141, 142, 143, 144, 145, 146, 147, 148, 149, 150, 151, 152, 153, 154, 155, 156] (by decide +kernel) (by decide +kernel)
set_option maxRecDepth 20000 in
theorem gX12_tellFits_X12_isAsSeen : GoodIn wsX12_tellFits (wsV RX12 420 RX12 yX12_isAsSeen wsX12_isAsSeen) := goodIn_app (goodIn_of _ (by decide +kernel)) ggX12_tellFits_X12_isAsSeen
theorem dX12_tellFits_0 : decode cX12_tellFits 0 = .ok (.aload_n 0, 1) := by decide +kernel
theorem dX12_tellFits_1 : decode cX12_tellFits 1 = .ok (.iconst 0, 1) := by decide +kernel
theorem dX12_tellFits_2 : decode cX12_tellFits 2 = .ok (.putfield 417, 3) := by decide +kernel
theorem dX12_tellFits_5 : decode cX12_tellFits 5 = .ok (.iconst 0, 1) := by decide +kernel
theorem dX12_tellFits_6 : decode cX12_tellFits 6 = .ok (.istore_n 1, 1) := by decide +kernel
theorem dX12_tellFits_7 : decode cX12_tellFits 7 = .ok (.iload_n 1, 1) := by decide +kernel
theorem dX12_tellFits_8 : decode cX12_tellFits 8 = .ok (.aload_n 0, 1) := by decide +kernel
theorem dX12_tellFits_9 : decode cX12_tellFits 9 = .ok (.getfield 34, 3) := by decide +kernel
theorem dX12_tellFits_12 : decode cX12_tellFits 12 = .ok (.iconst 0, 1) := by decide +kernel
theorem dX12_tellFits_13 : decode cX12_tellFits 13 = .ok (.iaload, 1) := by decide +kernel
theorem dX12_tellFits_14 : decode cX12_tellFits 14 = .ok (.if_icmp .ge 61, 3) := by decide +kernel
theorem dX12_tellFits_17 : decode cX12_tellFits 17 = .ok (.aload_n 0, 1) := by decide +kernel
theorem dX12_tellFits_18 : decode cX12_tellFits 18 = .ok (.getfield 69, 3) := by decide +kernel
theorem dX12_tellFits_21 : decode cX12_tellFits 21 = .ok (.iload_n 1, 1) := by decide +kernel
theorem dX12_tellFits_22 : decode cX12_tellFits 22 = .ok (.iaload, 1) := by decide +kernel
theorem dX12_tellFits_23 : decode cX12_tellFits 23 = .ok (.istore_n 2, 1) := by decide +kernel
theorem dX12_tellFits_24 : decode cX12_tellFits 24 = .ok (.aload_n 0, 1) := by decide +kernel
theorem dX12_tellFits_25 : decode cX12_tellFits 25 = .ok (.getfield 69, 3) := by decide +kernel
theorem dX12_tellFits_28 : decode cX12_tellFits 28 = .ok (.iload_n 1, 1) := by decide +kernel
theorem dX12_tellFits_29 : decode cX12_tellFits 29 = .ok (.iconst 1, 1) := by decide +kernel
theorem dX12_tellFits_30 : decode cX12_tellFits 30 = .ok (.iastore, 1) := by decide +kernel
theorem dX12_tellFits_31 : decode cX12_tellFits 31 = .ok (.aload_n 0, 1) := by decide +kernel
theorem dX12_tellFits_32 : decode cX12_tellFits 32 = .ok (.dup, 1) := by decide +kernel
theorem dX12_tellFits_33 : decode cX12_tellFits 33 = .ok (.getfield 417, 3) := by decide +kernel
theorem dX12_tellFits_36 : decode cX12_tellFits 36 = .ok (.aload_n 0, 1) := by decide +kernel
theorem dX12_tellFits_37 : decode cX12_tellFits 37 = .ok (.iload_n 1, 1) := by decide +kernel
theorem dX12_tellFits_38 : decode cX12_tellFits 38 = .ok (.invokevirtual 390, 3) := by decide +kernel
theorem dX12_tellFits_41 : decode cX12_tellFits 41 = .ok (.ifCond .ne 16, 3) := by decide +kernel
theorem dX12_tellFits_44 : decode cX12_tellFits 44 = .ok (.aload_n 0, 1) := by decide +kernel
theorem dX12_tellFits_45 : decode cX12_tellFits 45 = .ok (.invokevirtual 420, 3) := by decide +kernel
theorem dX12_tellFits_48 : decode cX12_tellFits 48 = .ok (.ifCond .eq 9, 3) := by decide +kernel
theorem dX12_tellFits_51 : decode cX12_tellFits 51 = .ok (.iconst 1, 1) := by decide +kernel
theorem dX12_tellFits_52 : decode cX12_tellFits 52 = .ok (.iload_n 1, 1) := by decide +kernel
theorem dX12_tellFits_53 : decode cX12_tellFits 53 = .ok (.ishl, 1) := by decide +kernel
theorem dX12_tellFits_54 : decode cX12_tellFits 54 = .ok (.goto 4, 3) := by decide +kernel
theorem dX12_tellFits_57 : decode cX12_tellFits 57 = .ok (.iconst 0, 1) := by decide +kernel
theorem dX12_tellFits_58 : decode cX12_tellFits 58 = .ok (.ior, 1) := by decide +kernel
theorem dX12_tellFits_59 : decode cX12_tellFits 59 = .ok (.putfield 417, 3) := by decide +kernel
theorem dX12_tellFits_62 : decode cX12_tellFits 62 = .ok (.aload_n 0, 1) := by decide +kernel
theorem dX12_tellFits_63 : decode cX12_tellFits 63 = .ok (.getfield 69, 3) := by decide +kernel
theorem dX12_tellFits_66 : decode cX12_tellFits 66 = .ok (.iload_n 1, 1) := by decide +kernel
theorem dX12_tellFits_67 : decode cX12_tellFits 67 = .ok (.iload_n 2, 1) := by decide +kernel
theorem dX12_tellFits_68 : decode cX12_tellFits 68 = .ok (.iastore, 1) := by decide +kernel
theorem dX12_tellFits_69 : decode cX12_tellFits 69 = .ok (.iinc 1 1, 3) := by decide +kernel
theorem dX12_tellFits_72 : decode cX12_tellFits 72 = .ok (.goto (-65), 3) := by decide +kernel
theorem dX12_tellFits_75 : decode cX12_tellFits 75 = .ok (.return_, 1) := by decide +kernel
set_option maxRecDepth 20000 in
theorem ggX12_begun_X12_isIn : GoodIn wsX12_begun wsX12_isIn := goodIn_r _ [7] (by decide +kernel) (by decide +kernel)
set_option maxRecDepth 20000 in
theorem gX12_begun_X12_isIn : GoodIn wsX12_begun (va_wsS RX12 145 yX12_isIn wsX12_isIn) := goodIn_app (goodIn_of _ (by decide +kernel)) ggX12_begun_X12_isIn
set_option maxRecDepth 20000 in
theorem ggX12_begun_X12_fail : GoodIn wsX12_begun wsX12_fail := goodIn_r _ [11, 1, 113, 114, 115, 116, 117, 118, 119, 120, 121, 122, 123, 124, 125, 126, 127, 128, 129, 130, 131, 132, 133, 134, 135, 136, 137, 138, 139, 140, 141, 142, 143, 144, 145, 146, 147, 148, 149, 150, 151, 152, 153, 154, 155, 156, 157, 158, 159, 160, 161, 162, 163, 164, 165, 166, 167, 168, 169] (by decide +kernel) (by decide +kernel)
set_option maxRecDepth 20000 in
theorem gX12_begun_X12_fail : GoodIn wsX12_begun (wsV RX12 274 RX12 yX12_fail wsX12_fail) := goodIn_app (goodIn_of _ (by decide +kernel)) ggX12_begun_X12_fail
set_option maxRecDepth 20000 in
theorem ggX12_begun_X12_isAsSeen : GoodIn wsX12_begun wsX12_isAsSeen := goodIn_r _ [15, 16, 17, 18, 19, 20, 21, 22, 23, 24, 6, 25, 26, 27, 28, 29, 30, 31, 32, 33, 34, 35, 36, 37, 38, 39, 40, 41, 42, 43, 44, 45, 46, 47, 48, 49, 50, 51, 52, 53, 54, 55, 56, 57, 58, 59, 60, 61, 62, 63, 64, 65, 66, 67, 68, 69, 70, 71, 72, 73, 74, 75, 76, 77, 78, 79, 80, 81, 82, 83, 84, 85, 86, 87, 88, 89, 90, 91, 92, 93, 94, 95, 96, 97, 98, 99, 100, 101, 102, 103, 104, 113, 114, 115, 116, 117, 118, 119, 120, 121, 122, 123, 124, 125, 126, 127, 128, 129, 130, 131, 132, 133, 134, 135, 136, 137, 138, 139, 140, 141, 142, 143, 144, 145, 146, 147, 148, 149, 150, 151, 152, 153, 154, 155, 156, 157, 158, 159, 160, 161, 162, 163, 164, 165, 166, 167, 168, 169] (by decide +kernel) (by decide +kernel)
set_option maxRecDepth 20000 in
theorem gX12_begun_X12_isAsSeen : GoodIn wsX12_begun (wsV RX12 420 RX12 yX12_isAsSeen wsX12_isAsSeen) := goodIn_app (goodIn_of _ (by decide +kernel)) ggX12_begun_X12_isAsSeen
set_option maxRecDepth 20000 in
theorem ggX12_begun_X12_tellFits : GoodIn wsX12_begun wsX12_tellFits := goodIn_r _ [108, 3, 36, 28, 109, 110, 111, 6, 112, 27, 42, 43, 44, 12, 13, 14, 15, 16, 17, 18, 19, 20, 21, 22, 23, 24, 25, 26, 29, 30, 31, 32, 33, 34, 35, 37, 38, 39, 40, 41, 45, 46, 47, 48, 49, 50, 51, 52, 53, 54, 55, 56, 57, 58, 59, 60, 61, 62, 63, 64, 65, 66, 67, 68, 69, 70, 71, 72, 73, 74, 75, 76, 77, 78, 79, 80, 81, 82, 83, 84, 85, 86, 87, 88, 89, 90, 91, 92, 93, 94, 95, 96, 97, 98, 99, 100, 101, 102, 103, 104, 113, 114, 115, 116, 117, 118, 119, 120, 121, 122, 123, 124, 125, 126, 127, 128, 129, 130, 131, 132, 133, 134, 135, 136, 137, 138, 139, 140, 141, 142, 143, 144, 145, 146, 147, 148, 149, 150, 151, 152, 153, 154, 155, 156, 157, 158, 159, 160, 161, 162, 163, 164, 165, 166, 167, 168, 169] (by decide +kernel) (by decide +kernel)
set_option maxRecDepth 20000 in
theorem gX12_begun_X12_tellFits : GoodIn wsX12_begun (wsV RX12 425 RX12 yX12_tellFits wsX12_tellFits) := goodIn_app (goodIn_of _ (by decide +kernel)) ggX12_begun_X12_tellFits
set_option maxRecDepth 20000 in
theorem ggX12_begun_X12_isOf : GoodIn wsX12_begun wsX12_isOf := goodIn_r _ [44] (by decide +kernel) (by decide +kernel)
set_option maxRecDepth 20000 in
theorem gX12_begun_X12_isOf : GoodIn wsX12_begun (va_wsS RX12 332 yX12_isOf wsX12_isOf) := goodIn_app (goodIn_of _ (by decide +kernel)) ggX12_begun_X12_isOf
set_option maxRecDepth 20000 in
theorem ggX12_begun_X12_bitsOf : GoodIn wsX12_begun wsX12_bitsOf := goodIn_r _ [91] (by decide +kernel) (by decide +kernel)
set_option maxRecDepth 20000 in
theorem gX12_begun_X12_bitsOf : GoodIn wsX12_begun (va_wsS RX12 335 yX12_bitsOf wsX12_bitsOf) := goodIn_app (goodIn_of _ (by decide +kernel)) ggX12_begun_X12_bitsOf
theorem dX12_begun_0 : decode cX12_begun 0 = .ok (.aload_n 0, 1) := by decide +kernel
theorem dX12_begun_1 : decode cX12_begun 1 = .ok (.iconst 0, 1) := by decide +kernel
theorem dX12_begun_2 : decode cX12_begun 2 = .ok (.putfield 142, 3) := by decide +kernel
theorem dX12_begun_5 : decode cX12_begun 5 = .ok (.iload_n 1, 1) := by decide +kernel
theorem dX12_begun_6 : decode cX12_begun 6 = .ok (.i2l, 1) := by decide +kernel
theorem dX12_begun_7 : decode cX12_begun 7 = .ok (.lconst 0, 1) := by decide +kernel
theorem dX12_begun_8 : decode cX12_begun 8 = .ok (.ldc2_w 423, 3) := by decide +kernel
theorem dX12_begun_11 : decode cX12_begun 11 = .ok (.invokestatic 145, 3) := by decide +kernel
theorem dX12_begun_14 : decode cX12_begun 14 = .ok (.ifCond .ne 9, 3) := by decide +kernel
theorem dX12_begun_17 : decode cX12_begun 17 = .ok (.aload_n 0, 1) := by decide +kernel
theorem dX12_begun_18 : decode cX12_begun 18 = .ok (.iconst 1, 1) := by decide +kernel
theorem dX12_begun_19 : decode cX12_begun 19 = .ok (.invokevirtual 274, 3) := by decide +kernel
theorem dX12_begun_22 : decode cX12_begun 22 = .ok (.ireturn, 1) := by decide +kernel
theorem dX12_begun_23 : decode cX12_begun 23 = .ok (.iload_n 1, 1) := by decide +kernel
theorem dX12_begun_24 : decode cX12_begun 24 = .ok (.iconst 2, 1) := by decide +kernel
theorem dX12_begun_25 : decode cX12_begun 25 = .ok (.if_icmp .ne 16, 3) := by decide +kernel
theorem dX12_begun_28 : decode cX12_begun 28 = .ok (.aload_n 0, 1) := by decide +kernel
theorem dX12_begun_29 : decode cX12_begun 29 = .ok (.invokevirtual 420, 3) := by decide +kernel
theorem dX12_begun_32 : decode cX12_begun 32 = .ok (.ifCond .eq 7, 3) := by decide +kernel
theorem dX12_begun_35 : decode cX12_begun 35 = .ok (.iconst 1, 1) := by decide +kernel
theorem dX12_begun_36 : decode cX12_begun 36 = .ok (.goto 4, 3) := by decide +kernel
theorem dX12_begun_39 : decode cX12_begun 39 = .ok (.iconst 0, 1) := by decide +kernel
theorem dX12_begun_40 : decode cX12_begun 40 = .ok (.ireturn, 1) := by decide +kernel
theorem dX12_begun_41 : decode cX12_begun 41 = .ok (.aload_n 0, 1) := by decide +kernel
theorem dX12_begun_42 : decode cX12_begun 42 = .ok (.invokevirtual 425, 3) := by decide +kernel
theorem dX12_begun_45 : decode cX12_begun 45 = .ok (.iconst (-1), 1) := by decide +kernel
theorem dX12_begun_46 : decode cX12_begun 46 = .ok (.istore_n 2, 1) := by decide +kernel
theorem dX12_begun_47 : decode cX12_begun 47 = .ok (.bipush 8, 2) := by decide +kernel
theorem dX12_begun_49 : decode cX12_begun 49 = .ok (.istore_n 3, 1) := by decide +kernel
theorem dX12_begun_50 : decode cX12_begun 50 = .ok (.iload_n 3, 1) := by decide +kernel
theorem dX12_begun_51 : decode cX12_begun 51 = .ok (.ifCond .lt 22, 3) := by decide +kernel
theorem dX12_begun_54 : decode cX12_begun 54 = .ok (.aload_n 0, 1) := by decide +kernel
theorem dX12_begun_55 : decode cX12_begun 55 = .ok (.getfield 417, 3) := by decide +kernel
theorem dX12_begun_58 : decode cX12_begun 58 = .ok (.iload_n 3, 1) := by decide +kernel
theorem dX12_begun_59 : decode cX12_begun 59 = .ok (.invokestatic 332, 3) := by decide +kernel
theorem dX12_begun_62 : decode cX12_begun 62 = .ok (.ifCond .eq 5, 3) := by decide +kernel
theorem dX12_begun_65 : decode cX12_begun 65 = .ok (.iload_n 3, 1) := by decide +kernel
theorem dX12_begun_66 : decode cX12_begun 66 = .ok (.istore_n 2, 1) := by decide +kernel
theorem dX12_begun_67 : decode cX12_begun 67 = .ok (.iinc 3 (-1), 3) := by decide +kernel
theorem dX12_begun_70 : decode cX12_begun 70 = .ok (.goto (-20), 3) := by decide +kernel
theorem dX12_begun_73 : decode cX12_begun 73 = .ok (.iload_n 1, 1) := by decide +kernel
theorem dX12_begun_74 : decode cX12_begun 74 = .ok (.ifCond .ne 13, 3) := by decide +kernel
theorem dX12_begun_77 : decode cX12_begun 77 = .ok (.aload_n 0, 1) := by decide +kernel
theorem dX12_begun_78 : decode cX12_begun 78 = .ok (.getfield 417, 3) := by decide +kernel
theorem dX12_begun_81 : decode cX12_begun 81 = .ok (.invokestatic 335, 3) := by decide +kernel
theorem dX12_begun_84 : decode cX12_begun 84 = .ok (.goto 4, 3) := by decide +kernel
theorem dX12_begun_87 : decode cX12_begun 87 = .ok (.iload_n 2, 1) := by decide +kernel
theorem dX12_begun_88 : decode cX12_begun 88 = .ok (.ireturn, 1) := by decide +kernel
set_option maxRecDepth 20000 in
theorem ggX12_unlike_X12_isOf : GoodIn wsX12_unlike wsX12_isOf := goodIn_r _ [7] (by decide +kernel) (by decide +kernel)
set_option maxRecDepth 20000 in
theorem gX12_unlike_X12_isOf : GoodIn wsX12_unlike (va_wsS RX12 332 yX12_isOf wsX12_isOf) := goodIn_app (goodIn_of _ (by decide +kernel)) ggX12_unlike_X12_isOf
theorem dX12_unlike_0 : decode cX12_unlike 0 = .ok (.iconst 0, 1) := by decide +kernel
theorem dX12_unlike_1 : decode cX12_unlike 1 = .ok (.istore_n 2, 1) := by decide +kernel
theorem dX12_unlike_2 : decode cX12_unlike 2 = .ok (.iconst 0, 1) := by decide +kernel
theorem dX12_unlike_3 : decode cX12_unlike 3 = .ok (.istore_n 3, 1) := by decide +kernel
theorem dX12_unlike_4 : decode cX12_unlike 4 = .ok (.iload_n 3, 1) := by decide +kernel
theorem dX12_unlike_5 : decode cX12_unlike 5 = .ok (.aload_n 0, 1) := by decide +kernel
theorem dX12_unlike_6 : decode cX12_unlike 6 = .ok (.getfield 34, 3) := by decide +kernel
theorem dX12_unlike_9 : decode cX12_unlike 9 = .ok (.iconst 0, 1) := by decide +kernel
theorem dX12_unlike_10 : decode cX12_unlike 10 = .ok (.iaload, 1) := by decide +kernel
theorem dX12_unlike_11 : decode cX12_unlike 11 = .ok (.if_icmp .ge 97, 3) := by decide +kernel
theorem dX12_unlike_14 : decode cX12_unlike 14 = .ok (.aload_n 0, 1) := by decide +kernel
theorem dX12_unlike_15 : decode cX12_unlike 15 = .ok (.getfield 417, 3) := by decide +kernel
theorem dX12_unlike_18 : decode cX12_unlike 18 = .ok (.iload_n 3, 1) := by decide +kernel
theorem dX12_unlike_19 : decode cX12_unlike 19 = .ok (.invokestatic 332, 3) := by decide +kernel
theorem dX12_unlike_22 : decode cX12_unlike 22 = .ok (.istore 4, 2) := by decide +kernel
theorem dX12_unlike_24 : decode cX12_unlike 24 = .ok (.iconst 0, 1) := by decide +kernel
theorem dX12_unlike_25 : decode cX12_unlike 25 = .ok (.istore 5, 2) := by decide +kernel
theorem dX12_unlike_27 : decode cX12_unlike 27 = .ok (.iload 5, 2) := by decide +kernel
theorem dX12_unlike_29 : decode cX12_unlike 29 = .ok (.iload_n 3, 1) := by decide +kernel
theorem dX12_unlike_30 : decode cX12_unlike 30 = .ok (.if_icmp .ge 59, 3) := by decide +kernel
theorem dX12_unlike_33 : decode cX12_unlike 33 = .ok (.iload 4, 2) := by decide +kernel
theorem dX12_unlike_35 : decode cX12_unlike 35 = .ok (.ifCond .eq 54, 3) := by decide +kernel
theorem dX12_unlike_38 : decode cX12_unlike 38 = .ok (.aload_n 0, 1) := by decide +kernel
theorem dX12_unlike_39 : decode cX12_unlike 39 = .ok (.getfield 417, 3) := by decide +kernel
theorem dX12_unlike_42 : decode cX12_unlike 42 = .ok (.iload 5, 2) := by decide +kernel
theorem dX12_unlike_44 : decode cX12_unlike 44 = .ok (.invokestatic 332, 3) := by decide +kernel
theorem dX12_unlike_47 : decode cX12_unlike 47 = .ok (.ifCond .eq 29, 3) := by decide +kernel
theorem dX12_unlike_50 : decode cX12_unlike 50 = .ok (.aload_n 0, 1) := by decide +kernel
theorem dX12_unlike_51 : decode cX12_unlike 51 = .ok (.getfield 118, 3) := by decide +kernel
theorem dX12_unlike_54 : decode cX12_unlike 54 = .ok (.bipush 20, 2) := by decide +kernel
theorem dX12_unlike_56 : decode cX12_unlike 56 = .ok (.iload 5, 2) := by decide +kernel
theorem dX12_unlike_58 : decode cX12_unlike 58 = .ok (.imul, 1) := by decide +kernel
theorem dX12_unlike_59 : decode cX12_unlike 59 = .ok (.iload_n 1, 1) := by decide +kernel
theorem dX12_unlike_60 : decode cX12_unlike 60 = .ok (.iadd, 1) := by decide +kernel
theorem dX12_unlike_61 : decode cX12_unlike 61 = .ok (.iaload, 1) := by decide +kernel
theorem dX12_unlike_62 : decode cX12_unlike 62 = .ok (.aload_n 0, 1) := by decide +kernel
theorem dX12_unlike_63 : decode cX12_unlike 63 = .ok (.getfield 118, 3) := by decide +kernel
theorem dX12_unlike_66 : decode cX12_unlike 66 = .ok (.bipush 20, 2) := by decide +kernel
theorem dX12_unlike_68 : decode cX12_unlike 68 = .ok (.iload_n 3, 1) := by decide +kernel
theorem dX12_unlike_69 : decode cX12_unlike 69 = .ok (.imul, 1) := by decide +kernel
theorem dX12_unlike_70 : decode cX12_unlike 70 = .ok (.iload_n 1, 1) := by decide +kernel
theorem dX12_unlike_71 : decode cX12_unlike 71 = .ok (.iadd, 1) := by decide +kernel
theorem dX12_unlike_72 : decode cX12_unlike 72 = .ok (.iaload, 1) := by decide +kernel
theorem dX12_unlike_73 : decode cX12_unlike 73 = .ok (.if_icmp .eq 7, 3) := by decide +kernel
theorem dX12_unlike_76 : decode cX12_unlike 76 = .ok (.iconst 1, 1) := by decide +kernel
theorem dX12_unlike_77 : decode cX12_unlike 77 = .ok (.goto 4, 3) := by decide +kernel
theorem dX12_unlike_80 : decode cX12_unlike 80 = .ok (.iconst 0, 1) := by decide +kernel
theorem dX12_unlike_81 : decode cX12_unlike 81 = .ok (.istore 4, 2) := by decide +kernel
theorem dX12_unlike_83 : decode cX12_unlike 83 = .ok (.iinc 5 1, 3) := by decide +kernel
theorem dX12_unlike_86 : decode cX12_unlike 86 = .ok (.goto (-59), 3) := by decide +kernel
theorem dX12_unlike_89 : decode cX12_unlike 89 = .ok (.iload_n 2, 1) := by decide +kernel
theorem dX12_unlike_90 : decode cX12_unlike 90 = .ok (.iload 4, 2) := by decide +kernel
theorem dX12_unlike_92 : decode cX12_unlike 92 = .ok (.ifCond .eq 7, 3) := by decide +kernel
theorem dX12_unlike_95 : decode cX12_unlike 95 = .ok (.iconst 1, 1) := by decide +kernel
theorem dX12_unlike_96 : decode cX12_unlike 96 = .ok (.goto 4, 3) := by decide +kernel
theorem dX12_unlike_99 : decode cX12_unlike 99 = .ok (.iconst 0, 1) := by decide +kernel
theorem dX12_unlike_100 : decode cX12_unlike 100 = .ok (.iadd, 1) := by decide +kernel
theorem dX12_unlike_101 : decode cX12_unlike 101 = .ok (.istore_n 2, 1) := by decide +kernel
theorem dX12_unlike_102 : decode cX12_unlike 102 = .ok (.iinc 3 1, 3) := by decide +kernel
theorem dX12_unlike_105 : decode cX12_unlike 105 = .ok (.goto (-101), 3) := by decide +kernel
theorem dX12_unlike_108 : decode cX12_unlike 108 = .ok (.iload_n 2, 1) := by decide +kernel
theorem dX12_unlike_109 : decode cX12_unlike 109 = .ok (.ireturn, 1) := by decide +kernel
set_option maxRecDepth 20000 in
theorem ggX12_look_X12_fail : GoodIn wsX12_look wsX12_fail := goodIn_r _ [12, 1, 115, 116, 117, 118, 119, 120, 121, 122, 123, 124, 125, 126, 127, 128, 129, 130, 131, 132, 133, 134, 135, 136, 137, 138, 139, 140, 141, 142, 143, 144, 145, 146, 147, 148, 149, 150, 151, 152, 153, 154, 155, 156, 157, 158, 159, 160, 161, 162, 163, 164, 165, 166, 167, 168, 169, 170, 171] (by decide +kernel) (by decide +kernel)
set_option maxRecDepth 20000 in
theorem gX12_look_X12_fail : GoodIn wsX12_look (wsV RX12 274 RX12 yX12_fail wsX12_fail) := goodIn_app (goodIn_of _ (by decide +kernel)) ggX12_look_X12_fail
set_option maxRecDepth 20000 in
theorem ggX12_look_X12_tellFits : GoodIn wsX12_look wsX12_tellFits := goodIn_r _ [16, 4, 3, 5, 17, 18, 19, 11, 20, 21, 22, 23, 24, 25, 26, 27, 28, 29, 30, 31, 7, 32, 33, 34, 35, 36, 37, 38, 39, 40, 41, 42, 43, 44, 45, 46, 47, 48, 49, 50, 51, 52, 53, 54, 55, 56, 57, 58, 59, 60, 61, 62, 63, 64, 65, 66, 67, 68, 69, 70, 71, 72, 73, 74, 75, 76, 77, 78, 79, 80, 81, 82, 83, 84, 85, 86, 87, 88, 89, 90, 91, 92, 93, 94, 95, 96, 97, 98, 99, 100, 101, 102, 103, 104, 105, 106, 107, 108, 109, 110, 115, 116, 117, 118, 119, 120, 121, 122, 123, 124, 125, 126, 127, 128, 129, 130, 131, 132, 133, 134, 135, 136, 137, 138, 139, 140, 141, 142, 143, 144, 145, 146, 147, 148, 149, 150, 151, 152, 153, 154, 155, 156, 157, 158, 159, 160, 161, 162, 163, 164, 165, 166, 167, 168, 169, 170, 171] (by decide +kernel) (by decide +kernel)
set_option maxRecDepth 20000 in
theorem gX12_look_X12_tellFits : GoodIn wsX12_look (wsV RX12 425 RX12 yX12_tellFits wsX12_tellFits) := goodIn_app (goodIn_of _ (by decide +kernel)) ggX12_look_X12_tellFits
set_option maxRecDepth 20000 in
theorem ggX12_look_X12_pack : GoodIn wsX12_look wsX12_pack := goodIn_r _ [37, 38, 21, 5, 39, 40, 41, 115, 116, 117, 118, 119, 120, 121, 122, 123, 124, 125, 126, 127, 128, 129, 130, 131, 132, 133, 134, 135, 136, 137, 138, 139, 140, 141, 142, 143, 144, 145, 146, 147, 148, 149, 150, 151, 152, 153, 154, 155, 156, 157, 158, 159, 160, 161, 162, 163, 164, 165, 166, 167, 168, 169, 170, 171] (by decide +kernel) (by decide +kernel)
set_option maxRecDepth 20000 in
theorem gX12_look_X12_pack : GoodIn wsX12_look (wsV RX12 372 RX12 yX12_pack wsX12_pack) := goodIn_app (goodIn_of _ (by decide +kernel)) ggX12_look_X12_pack
set_option maxRecDepth 20000 in
theorem ggX12_look_X12_isOf : GoodIn wsX12_look wsX12_isOf := goodIn_r _ [24] (by decide +kernel) (by decide +kernel)
set_option maxRecDepth 20000 in
theorem gX12_look_X12_isOf : GoodIn wsX12_look (va_wsS RX12 332 yX12_isOf wsX12_isOf) := goodIn_app (goodIn_of _ (by decide +kernel)) ggX12_look_X12_isOf
set_option maxRecDepth 20000 in
theorem ggX12_look_X12_aTick : GoodIn wsX12_look wsX12_aTick := goodIn_r _ [45, 7, 3, 5, 39, 40, 46, 47, 48, 49, 21, 50, 38, 22, 23, 11, 24, 51, 52, 53, 54, 55, 56, 57, 58, 59, 60, 61, 62, 63, 64, 65, 66, 67, 68, 69, 70, 71, 72, 73, 74, 75, 76, 77, 78, 79, 80, 81, 82, 83, 84, 85, 86, 87, 88, 41, 89, 90, 91, 92, 93, 94, 95, 96, 97, 98, 99, 100, 101, 102, 103, 104, 105, 106, 115, 116, 117, 118, 119, 120, 121, 122, 123, 124, 125, 126, 127, 128, 129, 130, 131, 132, 133, 134, 135, 136, 137, 138, 139, 140, 141, 142, 143, 144, 145, 146, 147, 148, 149, 150, 151, 152, 153, 154, 155, 156, 157, 158, 159, 160, 161, 162, 163, 164, 165, 166, 167, 168, 169, 170, 171] (by decide +kernel) (by decide +kernel)
set_option maxRecDepth 20000 in
theorem gX12_look_X12_aTick : GoodIn wsX12_look (wsV RX12 348 RX12 yX12_aTick wsX12_aTick) := goodIn_app (goodIn_of _ (by decide +kernel)) ggX12_look_X12_aTick
set_option maxRecDepth 20000 in
theorem ggX12_look_X12_unpack : GoodIn wsX12_look wsX12_unpack := goodIn_r _ [110, 38, 21, 5, 39, 40, 41, 115, 116, 117, 118, 119, 120, 121, 122, 123, 124, 125, 126, 127, 128, 129, 130, 131, 132, 133, 134, 135, 136, 137, 138, 139, 140, 141, 142, 143, 144, 145, 146, 147, 148, 149, 150, 151, 152, 153, 154, 155, 156, 157, 158, 159, 160, 161, 162, 163, 164, 165, 166, 167, 168, 169, 170, 171] (by decide +kernel) (by decide +kernel)
set_option maxRecDepth 20000 in
theorem gX12_look_X12_unpack : GoodIn wsX12_look (wsV RX12 403 RX12 yX12_unpack wsX12_unpack) := goodIn_app (goodIn_of _ (by decide +kernel)) ggX12_look_X12_unpack
set_option maxRecDepth 20000 in
theorem ggX12_look_X12_unlike : GoodIn wsX12_look wsX12_unlike := goodIn_r _ [114, 3, 4, 6, 22, 23, 11, 24, 115, 116, 117, 118, 119, 120, 121, 122, 123, 124, 125, 126, 127, 128, 129, 130, 131, 132, 133, 134, 135, 136, 137, 138, 139, 140, 141, 142, 143, 144, 145, 146, 147, 148, 149, 150, 151, 152, 153, 154, 155, 156, 157, 158, 159, 160, 161, 162, 163, 164, 165, 166, 167, 168, 169, 170, 171] (by decide +kernel) (by decide +kernel)
set_option maxRecDepth 20000 in
theorem gX12_look_X12_unlike : GoodIn wsX12_look (wsV RX12 428 RX12 yX12_unlike wsX12_unlike) := goodIn_app (goodIn_of _ (by decide +kernel)) ggX12_look_X12_unlike
theorem dX12_look_0 : decode cX12_look 0 = .ok (.aload_n 0, 1) := by decide +kernel
theorem dX12_look_1 : decode cX12_look 1 = .ok (.iconst 0, 1) := by decide +kernel
theorem dX12_look_2 : decode cX12_look 2 = .ok (.putfield 142, 3) := by decide +kernel
theorem dX12_look_5 : decode cX12_look 5 = .ok (.iload_n 1, 1) := by decide +kernel
theorem dX12_look_6 : decode cX12_look 6 = .ok (.ifCond .lt 8, 3) := by decide +kernel
theorem dX12_look_9 : decode cX12_look 9 = .ok (.iload_n 1, 1) := by decide +kernel
theorem dX12_look_10 : decode cX12_look 10 = .ok (.iconst 1, 1) := by decide +kernel
theorem dX12_look_11 : decode cX12_look 11 = .ok (.if_icmp .le 9, 3) := by decide +kernel
theorem dX12_look_14 : decode cX12_look 14 = .ok (.aload_n 0, 1) := by decide +kernel
theorem dX12_look_15 : decode cX12_look 15 = .ok (.iconst 1, 1) := by decide +kernel
theorem dX12_look_16 : decode cX12_look 16 = .ok (.invokevirtual 274, 3) := by decide +kernel
theorem dX12_look_19 : decode cX12_look 19 = .ok (.ireturn, 1) := by decide +kernel
theorem dX12_look_20 : decode cX12_look 20 = .ok (.aload_n 0, 1) := by decide +kernel
theorem dX12_look_21 : decode cX12_look 21 = .ok (.invokevirtual 425, 3) := by decide +kernel
theorem dX12_look_24 : decode cX12_look 24 = .ok (.aload_n 0, 1) := by decide +kernel
theorem dX12_look_25 : decode cX12_look 25 = .ok (.aload_n 0, 1) := by decide +kernel
theorem dX12_look_26 : decode cX12_look 26 = .ok (.getfield 96, 3) := by decide +kernel
theorem dX12_look_29 : decode cX12_look 29 = .ok (.iconst 0, 1) := by decide +kernel
theorem dX12_look_30 : decode cX12_look 30 = .ok (.invokevirtual 372, 3) := by decide +kernel
theorem dX12_look_33 : decode cX12_look 33 = .ok (.iconst 0, 1) := by decide +kernel
theorem dX12_look_34 : decode cX12_look 34 = .ok (.istore_n 2, 1) := by decide +kernel
theorem dX12_look_35 : decode cX12_look 35 = .ok (.iload_n 2, 1) := by decide +kernel
theorem dX12_look_36 : decode cX12_look 36 = .ok (.aload_n 0, 1) := by decide +kernel
theorem dX12_look_37 : decode cX12_look 37 = .ok (.getfield 34, 3) := by decide +kernel
theorem dX12_look_40 : decode cX12_look 40 = .ok (.iconst 0, 1) := by decide +kernel
theorem dX12_look_41 : decode cX12_look 41 = .ok (.iaload, 1) := by decide +kernel
theorem dX12_look_42 : decode cX12_look 42 = .ok (.if_icmp .ge 72, 3) := by decide +kernel
theorem dX12_look_45 : decode cX12_look 45 = .ok (.aload_n 0, 1) := by decide +kernel
theorem dX12_look_46 : decode cX12_look 46 = .ok (.getfield 417, 3) := by decide +kernel
theorem dX12_look_49 : decode cX12_look 49 = .ok (.iload_n 2, 1) := by decide +kernel
theorem dX12_look_50 : decode cX12_look 50 = .ok (.invokestatic 332, 3) := by decide +kernel
theorem dX12_look_53 : decode cX12_look 53 = .ok (.ifCond .ne 6, 3) := by decide +kernel
theorem dX12_look_56 : decode cX12_look 56 = .ok (.goto 52, 3) := by decide +kernel
theorem dX12_look_59 : decode cX12_look 59 = .ok (.aload_n 0, 1) := by decide +kernel
theorem dX12_look_60 : decode cX12_look 60 = .ok (.getfield 69, 3) := by decide +kernel
theorem dX12_look_63 : decode cX12_look 63 = .ok (.iload_n 2, 1) := by decide +kernel
theorem dX12_look_64 : decode cX12_look 64 = .ok (.iconst 1, 1) := by decide +kernel
theorem dX12_look_65 : decode cX12_look 65 = .ok (.iastore, 1) := by decide +kernel
theorem dX12_look_66 : decode cX12_look 66 = .ok (.iconst 0, 1) := by decide +kernel
theorem dX12_look_67 : decode cX12_look 67 = .ok (.istore_n 3, 1) := by decide +kernel
theorem dX12_look_68 : decode cX12_look 68 = .ok (.iload_n 3, 1) := by decide +kernel
theorem dX12_look_69 : decode cX12_look 69 = .ok (.bipush 20, 2) := by decide +kernel
theorem dX12_look_71 : decode cX12_look 71 = .ok (.if_icmp .ge 28, 3) := by decide +kernel
theorem dX12_look_74 : decode cX12_look 74 = .ok (.aload_n 0, 1) := by decide +kernel
theorem dX12_look_75 : decode cX12_look 75 = .ok (.invokevirtual 348, 3) := by decide +kernel
theorem dX12_look_78 : decode cX12_look 78 = .ok (.aload_n 0, 1) := by decide +kernel
theorem dX12_look_79 : decode cX12_look 79 = .ok (.getfield 118, 3) := by decide +kernel
theorem dX12_look_82 : decode cX12_look 82 = .ok (.bipush 20, 2) := by decide +kernel
theorem dX12_look_84 : decode cX12_look 84 = .ok (.iload_n 2, 1) := by decide +kernel
theorem dX12_look_85 : decode cX12_look 85 = .ok (.imul, 1) := by decide +kernel
theorem dX12_look_86 : decode cX12_look 86 = .ok (.iload_n 3, 1) := by decide +kernel
theorem dX12_look_87 : decode cX12_look 87 = .ok (.iadd, 1) := by decide +kernel
theorem dX12_look_88 : decode cX12_look 88 = .ok (.aload_n 0, 1) := by decide +kernel
theorem dX12_look_89 : decode cX12_look 89 = .ok (.getfield 341, 3) := by decide +kernel
theorem dX12_look_92 : decode cX12_look 92 = .ok (.iastore, 1) := by decide +kernel
theorem dX12_look_93 : decode cX12_look 93 = .ok (.iinc 3 1, 3) := by decide +kernel
theorem dX12_look_96 : decode cX12_look 96 = .ok (.goto (-28), 3) := by decide +kernel
theorem dX12_look_99 : decode cX12_look 99 = .ok (.aload_n 0, 1) := by decide +kernel
theorem dX12_look_100 : decode cX12_look 100 = .ok (.aload_n 0, 1) := by decide +kernel
theorem dX12_look_101 : decode cX12_look 101 = .ok (.getfield 96, 3) := by decide +kernel
theorem dX12_look_104 : decode cX12_look 104 = .ok (.iconst 0, 1) := by decide +kernel
theorem dX12_look_105 : decode cX12_look 105 = .ok (.invokevirtual 403, 3) := by decide +kernel
theorem dX12_look_108 : decode cX12_look 108 = .ok (.iinc 2 1, 3) := by decide +kernel
theorem dX12_look_111 : decode cX12_look 111 = .ok (.goto (-76), 3) := by decide +kernel
theorem dX12_look_114 : decode cX12_look 114 = .ok (.iconst (-1), 1) := by decide +kernel
theorem dX12_look_115 : decode cX12_look 115 = .ok (.istore_n 2, 1) := by decide +kernel
theorem dX12_look_116 : decode cX12_look 116 = .ok (.iconst 0, 1) := by decide +kernel
theorem dX12_look_117 : decode cX12_look 117 = .ok (.istore_n 3, 1) := by decide +kernel
theorem dX12_look_118 : decode cX12_look 118 = .ok (.iconst 0, 1) := by decide +kernel
theorem dX12_look_119 : decode cX12_look 119 = .ok (.istore 4, 2) := by decide +kernel
theorem dX12_look_121 : decode cX12_look 121 = .ok (.iload 4, 2) := by decide +kernel
theorem dX12_look_123 : decode cX12_look 123 = .ok (.bipush 20, 2) := by decide +kernel
theorem dX12_look_125 : decode cX12_look 125 = .ok (.if_icmp .ge 34, 3) := by decide +kernel
theorem dX12_look_128 : decode cX12_look 128 = .ok (.aload_n 0, 1) := by decide +kernel
theorem dX12_look_129 : decode cX12_look 129 = .ok (.iload 4, 2) := by decide +kernel
theorem dX12_look_131 : decode cX12_look 131 = .ok (.invokevirtual 428, 3) := by decide +kernel
theorem dX12_look_134 : decode cX12_look 134 = .ok (.istore 5, 2) := by decide +kernel
theorem dX12_look_136 : decode cX12_look 136 = .ok (.iload 5, 2) := by decide +kernel
theorem dX12_look_138 : decode cX12_look 138 = .ok (.iload_n 3, 1) := by decide +kernel
theorem dX12_look_139 : decode cX12_look 139 = .ok (.if_icmp .gt 6, 3) := by decide +kernel
theorem dX12_look_142 : decode cX12_look 142 = .ok (.goto 11, 3) := by decide +kernel
theorem dX12_look_145 : decode cX12_look 145 = .ok (.iload 4, 2) := by decide +kernel
theorem dX12_look_147 : decode cX12_look 147 = .ok (.iconst 1, 1) := by decide +kernel
theorem dX12_look_148 : decode cX12_look 148 = .ok (.iadd, 1) := by decide +kernel
theorem dX12_look_149 : decode cX12_look 149 = .ok (.istore_n 2, 1) := by decide +kernel
theorem dX12_look_150 : decode cX12_look 150 = .ok (.iload 5, 2) := by decide +kernel
theorem dX12_look_152 : decode cX12_look 152 = .ok (.istore_n 3, 1) := by decide +kernel
theorem dX12_look_153 : decode cX12_look 153 = .ok (.iinc 4 1, 3) := by decide +kernel
theorem dX12_look_156 : decode cX12_look 156 = .ok (.goto (-35), 3) := by decide +kernel
theorem dX12_look_159 : decode cX12_look 159 = .ok (.iload_n 1, 1) := by decide +kernel
theorem dX12_look_160 : decode cX12_look 160 = .ok (.ifCond .ne 7, 3) := by decide +kernel
theorem dX12_look_163 : decode cX12_look 163 = .ok (.iload_n 2, 1) := by decide +kernel
theorem dX12_look_164 : decode cX12_look 164 = .ok (.goto 4, 3) := by decide +kernel
theorem dX12_look_167 : decode cX12_look 167 = .ok (.iload_n 3, 1) := by decide +kernel
theorem dX12_look_168 : decode cX12_look 168 = .ok (.ireturn, 1) := by decide +kernel
theorem dX12_forget_0 : decode cX12_forget 0 = .ok (.aload_n 0, 1) := by decide +kernel
theorem dX12_forget_1 : decode cX12_forget 1 = .ok (.iconst 0, 1) := by decide +kernel
theorem dX12_forget_2 : decode cX12_forget 2 = .ok (.putfield 142, 3) := by decide +kernel
theorem dX12_forget_5 : decode cX12_forget 5 = .ok (.aload_n 0, 1) := by decide +kernel
theorem dX12_forget_6 : decode cX12_forget 6 = .ok (.iconst 0, 1) := by decide +kernel
theorem dX12_forget_7 : decode cX12_forget 7 = .ok (.putfield 296, 3) := by decide +kernel
theorem dX12_forget_10 : decode cX12_forget 10 = .ok (.return_, 1) := by decide +kernel
set_option maxRecDepth 20000 in
theorem ggX12_byMist_X12_isFarm : GoodIn wsX12_byMist wsX12_isFarm := goodIn_r _ [11, 12, 13, 14, 10, 15, 105, 106, 107, 108, 109, 110, 111, 112, 113, 114, 115, 116, 117, 118, 119, 120, 121, 122, 123, 124, 125, 126, 127, 128, 129, 130, 131, 132, 133, 134, 135, 136, 137, 138, 139, 140, 141, 142, 143, 144, 145, 146, 147, 148, 149, 150, 151, 152, 153, 154, 155, 156, 157, 158, 159, 160, 161] (by decide +kernel) (by decide +kernel)
set_option maxRecDepth 20000 in
theorem gX12_byMist_X12_isFarm : GoodIn wsX12_byMist (wsV RX12 369 RX12 yX12_isFarm wsX12_isFarm) := goodIn_app (goodIn_of _ (by decide +kernel)) ggX12_byMist_X12_isFarm
set_option maxRecDepth 20000 in
theorem ggX12_byMist_X12_fail : GoodIn wsX12_byMist wsX12_fail := goodIn_r _ [19, 1, 105, 106, 107, 108, 109, 110, 111, 112, 113, 114, 115, 116, 117, 118, 119, 120, 121, 122, 123, 124, 125, 126, 127, 128, 129, 130, 131, 132, 133, 134, 135, 136, 137, 138, 139, 140, 141, 142, 143, 144, 145, 146, 147, 148, 149, 150, 151, 152, 153, 154, 155, 156, 157, 158, 159, 160, 161] (by decide +kernel) (by decide +kernel)
set_option maxRecDepth 20000 in
theorem gX12_byMist_X12_fail : GoodIn wsX12_byMist (wsV RX12 274 RX12 yX12_fail wsX12_fail) := goodIn_app (goodIn_of _ (by decide +kernel)) ggX12_byMist_X12_fail
set_option maxRecDepth 20000 in
theorem ggX12_byMist_X12_isIn : GoodIn wsX12_byMist wsX12_isIn := goodIn_r _ [15] (by decide +kernel) (by decide +kernel)
set_option maxRecDepth 20000 in
theorem gX12_byMist_X12_isIn : GoodIn wsX12_byMist (va_wsS RX12 145 yX12_isIn wsX12_isIn) := goodIn_app (goodIn_of _ (by decide +kernel)) ggX12_byMist_X12_isIn
set_option maxRecDepth 20000 in
theorem ggX12_byMist_X12_pack : GoodIn wsX12_byMist wsX12_pack := goodIn_r _ [23, 24, 25, 26, 27, 28, 29, 105, 106, 107, 108, 109, 110, 111, 112, 113, 114, 115, 116, 117, 118, 119, 120, 121, 122, 123, 124, 125, 126, 127, 128, 129, 130, 131, 132, 133, 134, 135, 136, 137, 138, 139, 140, 141, 142, 143, 144, 145, 146, 147, 148, 149, 150, 151, 152, 153, 154, 155, 156, 157, 158, 159, 160, 161] (by decide +kernel) (by decide +kernel)
set_option maxRecDepth 20000 in
theorem gX12_byMist_X12_pack : GoodIn wsX12_byMist (wsV RX12 372 RX12 yX12_pack wsX12_pack) := goodIn_app (goodIn_of _ (by decide +kernel)) ggX12_byMist_X12_pack
set_option maxRecDepth 20000 in
theorem ggX12_byMist_X12_isOf : GoodIn wsX12_byMist wsX12_isOf := goodIn_r _ [32] (by decide +kernel) (by decide +kernel)
set_option maxRecDepth 20000 in
theorem gX12_byMist_X12_isOf : GoodIn wsX12_byMist (va_wsS RX12 332 yX12_isOf wsX12_isOf) := goodIn_app (goodIn_of _ (by decide +kernel)) ggX12_byMist_X12_isOf
set_option maxRecDepth 20000 in
theorem ggX12_byMist_X12_aTick : GoodIn wsX12_byMist wsX12_aTick := goodIn_r _ [36, 6, 12, 26, 27, 28, 37, 38, 39, 40, 25, 41, 24, 30, 31, 10, 32, 42, 43, 44, 45, 46, 47, 48, 49, 50, 51, 52, 53, 54, 55, 56, 57, 5, 58, 59, 60, 61, 62, 63, 64, 65, 66, 67, 68, 69, 70, 71, 72, 73, 74, 75, 76, 77, 78, 29, 79, 80, 81, 82, 83, 84, 85, 86, 87, 88, 89, 90, 91, 92, 93, 94, 95, 96, 105, 106, 107, 108, 109, 110, 111, 112, 113, 114, 115, 116, 117, 118, 119, 120, 121, 122, 123, 124, 125, 126, 127, 128, 129, 130, 131, 132, 133, 134, 135, 136, 137, 138, 139, 140, 141, 142, 143, 144, 145, 146, 147, 148, 149, 150, 151, 152, 153, 154, 155, 156, 157, 158, 159, 160, 161] (by decide +kernel) (by decide +kernel)
set_option maxRecDepth 20000 in
theorem gX12_byMist_X12_aTick : GoodIn wsX12_byMist (wsV RX12 348 RX12 yX12_aTick wsX12_aTick) := goodIn_app (goodIn_of _ (by decide +kernel)) ggX12_byMist_X12_aTick
set_option maxRecDepth 20000 in
theorem ggX12_byMist_X12_unpack : GoodIn wsX12_byMist wsX12_unpack := goodIn_r _ [100, 24, 25, 26, 27, 28, 29, 105, 106, 107, 108, 109, 110, 111, 112, 113, 114, 115, 116, 117, 118, 119, 120, 121, 122, 123, 124, 125, 126, 127, 128, 129, 130, 131, 132, 133, 134, 135, 136, 137, 138, 139, 140, 141, 142, 143, 144, 145, 146, 147, 148, 149, 150, 151, 152, 153, 154, 155, 156, 157, 158, 159, 160, 161] (by decide +kernel) (by decide +kernel)
set_option maxRecDepth 20000 in
theorem gX12_byMist_X12_unpack : GoodIn wsX12_byMist (wsV RX12 403 RX12 yX12_unpack wsX12_unpack) := goodIn_app (goodIn_of _ (by decide +kernel)) ggX12_byMist_X12_unpack
set_option maxRecDepth 20000 in
theorem ggX12_byMist_X12_nodsMore : GoodIn wsX12_byMist wsX12_nodsMore := goodIn_r _ [104, 28, 30, 31, 10, 32, 105, 106, 107, 108, 109, 110, 111, 112, 113, 114, 115, 116, 117, 118, 119, 120, 121, 122, 123, 124, 125, 126, 127, 128, 129, 130, 131, 132, 133, 134, 135, 136, 137, 138, 139, 140, 141, 142, 143, 144, 145, 146, 147, 148, 149, 150, 151, 152, 153, 154, 155, 156, 157, 158, 159, 160, 161] (by decide +kernel) (by decide +kernel)
set_option maxRecDepth 20000 in
theorem gX12_byMist_X12_nodsMore : GoodIn wsX12_byMist (wsV RX12 435 RX12 yX12_nodsMore wsX12_nodsMore) := goodIn_app (goodIn_of _ (by decide +kernel)) ggX12_byMist_X12_nodsMore
theorem dX12_byMist_0 : decode cX12_byMist 0 = .ok (.aload_n 0, 1) := by decide +kernel
theorem dX12_byMist_1 : decode cX12_byMist 1 = .ok (.iconst 0, 1) := by decide +kernel
theorem dX12_byMist_2 : decode cX12_byMist 2 = .ok (.putfield 142, 3) := by decide +kernel
theorem dX12_byMist_5 : decode cX12_byMist 5 = .ok (.aload_n 0, 1) := by decide +kernel
theorem dX12_byMist_6 : decode cX12_byMist 6 = .ok (.iload_n 1, 1) := by decide +kernel
theorem dX12_byMist_7 : decode cX12_byMist 7 = .ok (.invokevirtual 369, 3) := by decide +kernel
theorem dX12_byMist_10 : decode cX12_byMist 10 = .ok (.ifCond .ne 9, 3) := by decide +kernel
theorem dX12_byMist_13 : decode cX12_byMist 13 = .ok (.aload_n 0, 1) := by decide +kernel
theorem dX12_byMist_14 : decode cX12_byMist 14 = .ok (.iconst 1, 1) := by decide +kernel
theorem dX12_byMist_15 : decode cX12_byMist 15 = .ok (.invokevirtual 274, 3) := by decide +kernel
theorem dX12_byMist_18 : decode cX12_byMist 18 = .ok (.ireturn, 1) := by decide +kernel
theorem dX12_byMist_19 : decode cX12_byMist 19 = .ok (.iload_n 2, 1) := by decide +kernel
theorem dX12_byMist_20 : decode cX12_byMist 20 = .ok (.i2l, 1) := by decide +kernel
theorem dX12_byMist_21 : decode cX12_byMist 21 = .ok (.lconst 1, 1) := by decide +kernel
theorem dX12_byMist_22 : decode cX12_byMist 22 = .ok (.ldc2_w 431, 3) := by decide +kernel
theorem dX12_byMist_25 : decode cX12_byMist 25 = .ok (.invokestatic 145, 3) := by decide +kernel
theorem dX12_byMist_28 : decode cX12_byMist 28 = .ok (.ifCond .eq 15, 3) := by decide +kernel
theorem dX12_byMist_31 : decode cX12_byMist 31 = .ok (.iload_n 3, 1) := by decide +kernel
theorem dX12_byMist_32 : decode cX12_byMist 32 = .ok (.i2l, 1) := by decide +kernel
theorem dX12_byMist_33 : decode cX12_byMist 33 = .ok (.lconst 0, 1) := by decide +kernel
theorem dX12_byMist_34 : decode cX12_byMist 34 = .ok (.ldc2_w 433, 3) := by decide +kernel
theorem dX12_byMist_37 : decode cX12_byMist 37 = .ok (.invokestatic 145, 3) := by decide +kernel
theorem dX12_byMist_40 : decode cX12_byMist 40 = .ok (.ifCond .ne 9, 3) := by decide +kernel
theorem dX12_byMist_43 : decode cX12_byMist 43 = .ok (.aload_n 0, 1) := by decide +kernel
theorem dX12_byMist_44 : decode cX12_byMist 44 = .ok (.iconst 2, 1) := by decide +kernel
theorem dX12_byMist_45 : decode cX12_byMist 45 = .ok (.invokevirtual 274, 3) := by decide +kernel
theorem dX12_byMist_48 : decode cX12_byMist 48 = .ok (.ireturn, 1) := by decide +kernel
theorem dX12_byMist_49 : decode cX12_byMist 49 = .ok (.iconst 0, 1) := by decide +kernel
theorem dX12_byMist_50 : decode cX12_byMist 50 = .ok (.istore 4, 2) := by decide +kernel
theorem dX12_byMist_52 : decode cX12_byMist 52 = .ok (.aload_n 0, 1) := by decide +kernel
theorem dX12_byMist_53 : decode cX12_byMist 53 = .ok (.aload_n 0, 1) := by decide +kernel
theorem dX12_byMist_54 : decode cX12_byMist 54 = .ok (.getfield 96, 3) := by decide +kernel
theorem dX12_byMist_57 : decode cX12_byMist 57 = .ok (.iconst 0, 1) := by decide +kernel
theorem dX12_byMist_58 : decode cX12_byMist 58 = .ok (.invokevirtual 372, 3) := by decide +kernel
theorem dX12_byMist_61 : decode cX12_byMist 61 = .ok (.iconst 0, 1) := by decide +kernel
theorem dX12_byMist_62 : decode cX12_byMist 62 = .ok (.istore 5, 2) := by decide +kernel
theorem dX12_byMist_64 : decode cX12_byMist 64 = .ok (.iload 5, 2) := by decide +kernel
theorem dX12_byMist_66 : decode cX12_byMist 66 = .ok (.iconst 1, 1) := by decide +kernel
theorem dX12_byMist_67 : decode cX12_byMist 67 = .ok (.iload_n 2, 1) := by decide +kernel
theorem dX12_byMist_68 : decode cX12_byMist 68 = .ok (.ishl, 1) := by decide +kernel
theorem dX12_byMist_69 : decode cX12_byMist 69 = .ok (.if_icmp .ge 116, 3) := by decide +kernel
theorem dX12_byMist_72 : decode cX12_byMist 72 = .ok (.iconst 1, 1) := by decide +kernel
theorem dX12_byMist_73 : decode cX12_byMist 73 = .ok (.istore 6, 2) := by decide +kernel
theorem dX12_byMist_75 : decode cX12_byMist 75 = .ok (.iconst 0, 1) := by decide +kernel
theorem dX12_byMist_76 : decode cX12_byMist 76 = .ok (.istore 7, 2) := by decide +kernel
theorem dX12_byMist_78 : decode cX12_byMist 78 = .ok (.iconst 0, 1) := by decide +kernel
theorem dX12_byMist_79 : decode cX12_byMist 79 = .ok (.istore 8, 2) := by decide +kernel
theorem dX12_byMist_81 : decode cX12_byMist 81 = .ok (.iload 8, 2) := by decide +kernel
theorem dX12_byMist_83 : decode cX12_byMist 83 = .ok (.iload_n 2, 1) := by decide +kernel
theorem dX12_byMist_84 : decode cX12_byMist 84 = .ok (.if_icmp .ge 65, 3) := by decide +kernel
theorem dX12_byMist_87 : decode cX12_byMist 87 = .ok (.aload_n 0, 1) := by decide +kernel
theorem dX12_byMist_88 : decode cX12_byMist 88 = .ok (.iload 5, 2) := by decide +kernel
theorem dX12_byMist_90 : decode cX12_byMist 90 = .ok (.iload 8, 2) := by decide +kernel
theorem dX12_byMist_92 : decode cX12_byMist 92 = .ok (.invokestatic 332, 3) := by decide +kernel
theorem dX12_byMist_95 : decode cX12_byMist 95 = .ok (.ifCond .eq 8, 3) := by decide +kernel
theorem dX12_byMist_98 : decode cX12_byMist 98 = .ok (.bipush 9, 2) := by decide +kernel
theorem dX12_byMist_100 : decode cX12_byMist 100 = .ok (.goto 4, 3) := by decide +kernel
theorem dX12_byMist_103 : decode cX12_byMist 103 = .ok (.iconst 0, 1) := by decide +kernel
theorem dX12_byMist_104 : decode cX12_byMist 104 = .ok (.putfield 84, 3) := by decide +kernel
theorem dX12_byMist_107 : decode cX12_byMist 107 = .ok (.iload 6, 2) := by decide +kernel
theorem dX12_byMist_109 : decode cX12_byMist 109 = .ok (.iload 5, 2) := by decide +kernel
theorem dX12_byMist_111 : decode cX12_byMist 111 = .ok (.iload 8, 2) := by decide +kernel
theorem dX12_byMist_113 : decode cX12_byMist 113 = .ok (.invokestatic 332, 3) := by decide +kernel
theorem dX12_byMist_116 : decode cX12_byMist 116 = .ok (.ifCond .eq 7, 3) := by decide +kernel
theorem dX12_byMist_119 : decode cX12_byMist 119 = .ok (.iload_n 3, 1) := by decide +kernel
theorem dX12_byMist_120 : decode cX12_byMist 120 = .ok (.goto 7, 3) := by decide +kernel
theorem dX12_byMist_123 : decode cX12_byMist 123 = .ok (.bipush 10, 2) := by decide +kernel
theorem dX12_byMist_125 : decode cX12_byMist 125 = .ok (.iload_n 3, 1) := by decide +kernel
theorem dX12_byMist_126 : decode cX12_byMist 126 = .ok (.isub, 1) := by decide +kernel
theorem dX12_byMist_127 : decode cX12_byMist 127 = .ok (.imul, 1) := by decide +kernel
theorem dX12_byMist_128 : decode cX12_byMist 128 = .ok (.istore 6, 2) := by decide +kernel
theorem dX12_byMist_130 : decode cX12_byMist 130 = .ok (.aload_n 0, 1) := by decide +kernel
theorem dX12_byMist_131 : decode cX12_byMist 131 = .ok (.invokevirtual 348, 3) := by decide +kernel
theorem dX12_byMist_134 : decode cX12_byMist 134 = .ok (.iload 7, 2) := by decide +kernel
theorem dX12_byMist_136 : decode cX12_byMist 136 = .ok (.aload_n 0, 1) := by decide +kernel
theorem dX12_byMist_137 : decode cX12_byMist 137 = .ok (.getfield 341, 3) := by decide +kernel
theorem dX12_byMist_140 : decode cX12_byMist 140 = .ok (.ior, 1) := by decide +kernel
theorem dX12_byMist_141 : decode cX12_byMist 141 = .ok (.istore 7, 2) := by decide +kernel
theorem dX12_byMist_143 : decode cX12_byMist 143 = .ok (.iinc 8 1, 3) := by decide +kernel
theorem dX12_byMist_146 : decode cX12_byMist 146 = .ok (.goto (-65), 3) := by decide +kernel
theorem dX12_byMist_149 : decode cX12_byMist 149 = .ok (.aload_n 0, 1) := by decide +kernel
theorem dX12_byMist_150 : decode cX12_byMist 150 = .ok (.aload_n 0, 1) := by decide +kernel
theorem dX12_byMist_151 : decode cX12_byMist 151 = .ok (.getfield 96, 3) := by decide +kernel
theorem dX12_byMist_154 : decode cX12_byMist 154 = .ok (.iconst 0, 1) := by decide +kernel
theorem dX12_byMist_155 : decode cX12_byMist 155 = .ok (.invokevirtual 403, 3) := by decide +kernel
theorem dX12_byMist_158 : decode cX12_byMist 158 = .ok (.iload 4, 2) := by decide +kernel
theorem dX12_byMist_160 : decode cX12_byMist 160 = .ok (.aload_n 0, 1) := by decide +kernel
theorem dX12_byMist_161 : decode cX12_byMist 161 = .ok (.iload_n 1, 1) := by decide +kernel
theorem dX12_byMist_162 : decode cX12_byMist 162 = .ok (.iload 7, 2) := by decide +kernel
theorem dX12_byMist_164 : decode cX12_byMist 164 = .ok (.invokevirtual 435, 3) := by decide +kernel
theorem dX12_byMist_167 : decode cX12_byMist 167 = .ok (.ifCond .eq 8, 3) := by decide +kernel
theorem dX12_byMist_170 : decode cX12_byMist 170 = .ok (.iload 6, 2) := by decide +kernel
theorem dX12_byMist_172 : decode cX12_byMist 172 = .ok (.goto 4, 3) := by decide +kernel
theorem dX12_byMist_175 : decode cX12_byMist 175 = .ok (.iconst 0, 1) := by decide +kernel
theorem dX12_byMist_176 : decode cX12_byMist 176 = .ok (.iadd, 1) := by decide +kernel
theorem dX12_byMist_177 : decode cX12_byMist 177 = .ok (.istore 4, 2) := by decide +kernel
theorem dX12_byMist_179 : decode cX12_byMist 179 = .ok (.iinc 5 1, 3) := by decide +kernel
theorem dX12_byMist_182 : decode cX12_byMist 182 = .ok (.goto (-118), 3) := by decide +kernel
theorem dX12_byMist_185 : decode cX12_byMist 185 = .ok (.aload_n 0, 1) := by decide +kernel
theorem dX12_byMist_186 : decode cX12_byMist 186 = .ok (.iconst (-1), 1) := by decide +kernel
theorem dX12_byMist_187 : decode cX12_byMist 187 = .ok (.putfield 84, 3) := by decide +kernel
theorem dX12_byMist_190 : decode cX12_byMist 190 = .ok (.iload 4, 2) := by decide +kernel
theorem dX12_byMist_192 : decode cX12_byMist 192 = .ok (.ireturn, 1) := by decide +kernel
set_option maxRecDepth 20000 in
theorem ggX12_nodsMore_X12_isOf : GoodIn wsX12_nodsMore wsX12_isOf := goodIn_r _ [5] (by decide +kernel) (by decide +kernel)
set_option maxRecDepth 20000 in
theorem gX12_nodsMore_X12_isOf : GoodIn wsX12_nodsMore (va_wsS RX12 332 yX12_isOf wsX12_isOf) := goodIn_app (goodIn_of _ (by decide +kernel)) ggX12_nodsMore_X12_isOf
theorem dX12_nodsMore_0 : decode cX12_nodsMore 0 = .ok (.iload_n 2, 1) := by decide +kernel
theorem dX12_nodsMore_1 : decode cX12_nodsMore 1 = .ok (.iload_n 1, 1) := by decide +kernel
theorem dX12_nodsMore_2 : decode cX12_nodsMore 2 = .ok (.invokestatic 332, 3) := by decide +kernel
theorem dX12_nodsMore_5 : decode cX12_nodsMore 5 = .ok (.ifCond .eq 19, 3) := by decide +kernel
theorem dX12_nodsMore_8 : decode cX12_nodsMore 8 = .ok (.aload_n 0, 1) := by decide +kernel
theorem dX12_nodsMore_9 : decode cX12_nodsMore 9 = .ok (.getfield 75, 3) := by decide +kernel
theorem dX12_nodsMore_12 : decode cX12_nodsMore 12 = .ok (.iload_n 1, 1) := by decide +kernel
theorem dX12_nodsMore_13 : decode cX12_nodsMore 13 = .ok (.iaload, 1) := by decide +kernel
theorem dX12_nodsMore_14 : decode cX12_nodsMore 14 = .ok (.sipush 999, 3) := by decide +kernel
theorem dX12_nodsMore_17 : decode cX12_nodsMore 17 = .ok (.if_icmp .ge 7, 3) := by decide +kernel
theorem dX12_nodsMore_20 : decode cX12_nodsMore 20 = .ok (.iconst 1, 1) := by decide +kernel
theorem dX12_nodsMore_21 : decode cX12_nodsMore 21 = .ok (.goto 4, 3) := by decide +kernel
theorem dX12_nodsMore_24 : decode cX12_nodsMore 24 = .ok (.iconst 0, 1) := by decide +kernel
theorem dX12_nodsMore_25 : decode cX12_nodsMore 25 = .ok (.ireturn, 1) := by decide +kernel
set_option maxRecDepth 20000 in
theorem ggX12_tellGains_X12_pack : GoodIn wsX12_tellGains wsX12_pack := goodIn_r _ [9, 10, 11, 2, 12, 13, 14, 88, 89, 90, 91, 92, 93, 94, 95, 96, 97, 98, 99, 100, 101, 102, 103, 104, 105, 106, 107, 108, 109, 110, 111, 112, 113, 114, 115, 116, 117, 118, 119, 120, 121, 122, 123, 124, 125, 126, 127, 128, 129, 130, 131, 132, 133, 134, 135, 136, 137, 138, 139, 140, 141, 142, 143, 144] (by decide +kernel) (by decide +kernel)
set_option maxRecDepth 20000 in
theorem gX12_tellGains_X12_pack : GoodIn wsX12_tellGains (wsV RX12 372 RX12 yX12_pack wsX12_pack) := goodIn_app (goodIn_of _ (by decide +kernel)) ggX12_tellGains_X12_pack
set_option maxRecDepth 20000 in
theorem ggX12_tellGains_X12_aTick : GoodIn wsX12_tellGains wsX12_aTick := goodIn_r _ [18, 3, 19, 2, 12, 13, 20, 21, 22, 23, 11, 24, 10, 25, 26, 8, 27, 28, 29, 30, 31, 32, 33, 34, 35, 36, 37, 38, 39, 40, 41, 42, 43, 44, 45, 46, 47, 48, 49, 50, 51, 52, 53, 54, 55, 56, 57, 58, 59, 60, 61, 62, 63, 64, 65, 14, 66, 67, 68, 69, 70, 71, 72, 73, 74, 75, 76, 77, 78, 79, 80, 81, 82, 83, 88, 89, 90, 91, 92, 93, 94, 95, 96, 97, 98, 99, 100, 101, 102, 103, 104, 105, 106, 107, 108, 109, 110, 111, 112, 113, 114, 115, 116, 117, 118, 119, 120, 121, 122, 123, 124, 125, 126, 127, 128, 129, 130, 131, 132, 133, 134, 135, 136, 137, 138, 139, 140, 141, 142, 143, 144] (by decide +kernel) (by decide +kernel)
set_option maxRecDepth 20000 in
theorem gX12_tellGains_X12_aTick : GoodIn wsX12_tellGains (wsV RX12 348 RX12 yX12_aTick wsX12_aTick) := goodIn_app (goodIn_of _ (by decide +kernel)) ggX12_tellGains_X12_aTick
set_option maxRecDepth 20000 in
theorem ggX12_tellGains_X12_bitsOf : GoodIn wsX12_tellGains wsX12_bitsOf := goodIn_r _ [74] (by decide +kernel) (by decide +kernel)
set_option maxRecDepth 20000 in
theorem gX12_tellGains_X12_bitsOf : GoodIn wsX12_tellGains (va_wsS RX12 335 yX12_bitsOf wsX12_bitsOf) := goodIn_app (goodIn_of _ (by decide +kernel)) ggX12_tellGains_X12_bitsOf
set_option maxRecDepth 20000 in
theorem ggX12_tellGains_X12_unpack : GoodIn wsX12_tellGains wsX12_unpack := goodIn_r _ [87, 10, 11, 2, 12, 13, 14, 88, 89, 90, 91, 92, 93, 94, 95, 96, 97, 98, 99, 100, 101, 102, 103, 104, 105, 106, 107, 108, 109, 110, 111, 112, 113, 114, 115, 116, 117, 118, 119, 120, 121, 122, 123, 124, 125, 126, 127, 128, 129, 130, 131, 132, 133, 134, 135, 136, 137, 138, 139, 140, 141, 142, 143, 144] (by decide +kernel) (by decide +kernel)
set_option maxRecDepth 20000 in
theorem gX12_tellGains_X12_unpack : GoodIn wsX12_tellGains (wsV RX12 403 RX12 yX12_unpack wsX12_unpack) := goodIn_app (goodIn_of _ (by decide +kernel)) ggX12_tellGains_X12_unpack
theorem dX12_tellGains_0 : decode cX12_tellGains 0 = .ok (.aload_n 0, 1) := by decide +kernel
theorem dX12_tellGains_1 : decode cX12_tellGains 1 = .ok (.aload_n 0, 1) := by decide +kernel
theorem dX12_tellGains_2 : decode cX12_tellGains 2 = .ok (.getfield 96, 3) := by decide +kernel
theorem dX12_tellGains_5 : decode cX12_tellGains 5 = .ok (.iconst 0, 1) := by decide +kernel
theorem dX12_tellGains_6 : decode cX12_tellGains 6 = .ok (.invokevirtual 372, 3) := by decide +kernel
theorem dX12_tellGains_9 : decode cX12_tellGains 9 = .ok (.iconst 0, 1) := by decide +kernel
theorem dX12_tellGains_10 : decode cX12_tellGains 10 = .ok (.istore_n 3, 1) := by decide +kernel
theorem dX12_tellGains_11 : decode cX12_tellGains 11 = .ok (.iload_n 3, 1) := by decide +kernel
theorem dX12_tellGains_12 : decode cX12_tellGains 12 = .ok (.iconst 4, 1) := by decide +kernel
theorem dX12_tellGains_13 : decode cX12_tellGains 13 = .ok (.if_icmp .ge 168, 3) := by decide +kernel
theorem dX12_tellGains_16 : decode cX12_tellGains 16 = .ok (.iload_n 3, 1) := by decide +kernel
theorem dX12_tellGains_17 : decode cX12_tellGains 17 = .ok (.iconst 2, 1) := by decide +kernel
theorem dX12_tellGains_18 : decode cX12_tellGains 18 = .ok (.idiv, 1) := by decide +kernel
theorem dX12_tellGains_19 : decode cX12_tellGains 19 = .ok (.iconst 1, 1) := by decide +kernel
theorem dX12_tellGains_20 : decode cX12_tellGains 20 = .ok (.if_icmp .ne 10, 3) := by decide +kernel
theorem dX12_tellGains_23 : decode cX12_tellGains 23 = .ok (.aload_n 0, 1) := by decide +kernel
theorem dX12_tellGains_24 : decode cX12_tellGains 24 = .ok (.getfield 69, 3) := by decide +kernel
theorem dX12_tellGains_27 : decode cX12_tellGains 27 = .ok (.iload_n 1, 1) := by decide +kernel
theorem dX12_tellGains_28 : decode cX12_tellGains 28 = .ok (.iconst 1, 1) := by decide +kernel
theorem dX12_tellGains_29 : decode cX12_tellGains 29 = .ok (.iastore, 1) := by decide +kernel
theorem dX12_tellGains_30 : decode cX12_tellGains 30 = .ok (.iload_n 3, 1) := by decide +kernel
theorem dX12_tellGains_31 : decode cX12_tellGains 31 = .ok (.iconst 2, 1) := by decide +kernel
theorem dX12_tellGains_32 : decode cX12_tellGains 32 = .ok (.irem, 1) := by decide +kernel
theorem dX12_tellGains_33 : decode cX12_tellGains 33 = .ok (.iconst 1, 1) := by decide +kernel
theorem dX12_tellGains_34 : decode cX12_tellGains 34 = .ok (.if_icmp .ne 10, 3) := by decide +kernel
theorem dX12_tellGains_37 : decode cX12_tellGains 37 = .ok (.aload_n 0, 1) := by decide +kernel
theorem dX12_tellGains_38 : decode cX12_tellGains 38 = .ok (.getfield 69, 3) := by decide +kernel
theorem dX12_tellGains_41 : decode cX12_tellGains 41 = .ok (.iload_n 2, 1) := by decide +kernel
theorem dX12_tellGains_42 : decode cX12_tellGains 42 = .ok (.iconst 1, 1) := by decide +kernel
theorem dX12_tellGains_43 : decode cX12_tellGains 43 = .ok (.iastore, 1) := by decide +kernel
theorem dX12_tellGains_44 : decode cX12_tellGains 44 = .ok (.iconst 0, 1) := by decide +kernel
theorem dX12_tellGains_45 : decode cX12_tellGains 45 = .ok (.istore 4, 2) := by decide +kernel
theorem dX12_tellGains_47 : decode cX12_tellGains 47 = .ok (.iconst 0, 1) := by decide +kernel
theorem dX12_tellGains_48 : decode cX12_tellGains 48 = .ok (.istore 5, 2) := by decide +kernel
theorem dX12_tellGains_50 : decode cX12_tellGains 50 = .ok (.iconst 0, 1) := by decide +kernel
theorem dX12_tellGains_51 : decode cX12_tellGains 51 = .ok (.istore 6, 2) := by decide +kernel
theorem dX12_tellGains_53 : decode cX12_tellGains 53 = .ok (.iconst 0, 1) := by decide +kernel
theorem dX12_tellGains_54 : decode cX12_tellGains 54 = .ok (.istore 7, 2) := by decide +kernel
theorem dX12_tellGains_56 : decode cX12_tellGains 56 = .ok (.iload 7, 2) := by decide +kernel
theorem dX12_tellGains_58 : decode cX12_tellGains 58 = .ok (.bipush 9, 2) := by decide +kernel
theorem dX12_tellGains_60 : decode cX12_tellGains 60 = .ok (.if_icmp .ge 48, 3) := by decide +kernel
theorem dX12_tellGains_63 : decode cX12_tellGains 63 = .ok (.aload_n 0, 1) := by decide +kernel
theorem dX12_tellGains_64 : decode cX12_tellGains 64 = .ok (.invokevirtual 348, 3) := by decide +kernel
theorem dX12_tellGains_67 : decode cX12_tellGains 67 = .ok (.iload 4, 2) := by decide +kernel
theorem dX12_tellGains_69 : decode cX12_tellGains 69 = .ok (.aload_n 0, 1) := by decide +kernel
theorem dX12_tellGains_70 : decode cX12_tellGains 70 = .ok (.getfield 341, 3) := by decide +kernel
theorem dX12_tellGains_73 : decode cX12_tellGains 73 = .ok (.ior, 1) := by decide +kernel
theorem dX12_tellGains_74 : decode cX12_tellGains 74 = .ok (.istore 4, 2) := by decide +kernel
theorem dX12_tellGains_76 : decode cX12_tellGains 76 = .ok (.iload 5, 2) := by decide +kernel
theorem dX12_tellGains_78 : decode cX12_tellGains 78 = .ok (.aload_n 0, 1) := by decide +kernel
theorem dX12_tellGains_79 : decode cX12_tellGains 79 = .ok (.getfield 341, 3) := by decide +kernel
theorem dX12_tellGains_82 : decode cX12_tellGains 82 = .ok (.iload_n 1, 1) := by decide +kernel
theorem dX12_tellGains_83 : decode cX12_tellGains 83 = .ok (.ishr, 1) := by decide +kernel
theorem dX12_tellGains_84 : decode cX12_tellGains 84 = .ok (.iconst 1, 1) := by decide +kernel
theorem dX12_tellGains_85 : decode cX12_tellGains 85 = .ok (.iand, 1) := by decide +kernel
theorem dX12_tellGains_86 : decode cX12_tellGains 86 = .ok (.iadd, 1) := by decide +kernel
theorem dX12_tellGains_87 : decode cX12_tellGains 87 = .ok (.istore 5, 2) := by decide +kernel
theorem dX12_tellGains_89 : decode cX12_tellGains 89 = .ok (.iload 6, 2) := by decide +kernel
theorem dX12_tellGains_91 : decode cX12_tellGains 91 = .ok (.aload_n 0, 1) := by decide +kernel
theorem dX12_tellGains_92 : decode cX12_tellGains 92 = .ok (.getfield 341, 3) := by decide +kernel
theorem dX12_tellGains_95 : decode cX12_tellGains 95 = .ok (.iload_n 2, 1) := by decide +kernel
theorem dX12_tellGains_96 : decode cX12_tellGains 96 = .ok (.ishr, 1) := by decide +kernel
theorem dX12_tellGains_97 : decode cX12_tellGains 97 = .ok (.iconst 1, 1) := by decide +kernel
theorem dX12_tellGains_98 : decode cX12_tellGains 98 = .ok (.iand, 1) := by decide +kernel
theorem dX12_tellGains_99 : decode cX12_tellGains 99 = .ok (.iadd, 1) := by decide +kernel
theorem dX12_tellGains_100 : decode cX12_tellGains 100 = .ok (.istore 6, 2) := by decide +kernel
theorem dX12_tellGains_102 : decode cX12_tellGains 102 = .ok (.iinc 7 1, 3) := by decide +kernel
theorem dX12_tellGains_105 : decode cX12_tellGains 105 = .ok (.goto (-49), 3) := by decide +kernel
theorem dX12_tellGains_108 : decode cX12_tellGains 108 = .ok (.aload_n 0, 1) := by decide +kernel
theorem dX12_tellGains_109 : decode cX12_tellGains 109 = .ok (.getfield 121, 3) := by decide +kernel
theorem dX12_tellGains_112 : decode cX12_tellGains 112 = .ok (.iconst 2, 1) := by decide +kernel
theorem dX12_tellGains_113 : decode cX12_tellGains 113 = .ok (.iload_n 3, 1) := by decide +kernel
theorem dX12_tellGains_114 : decode cX12_tellGains 114 = .ok (.imul, 1) := by decide +kernel
theorem dX12_tellGains_115 : decode cX12_tellGains 115 = .ok (.iload 4, 2) := by decide +kernel
theorem dX12_tellGains_117 : decode cX12_tellGains 117 = .ok (.iconst 1, 1) := by decide +kernel
theorem dX12_tellGains_118 : decode cX12_tellGains 118 = .ok (.iload_n 1, 1) := by decide +kernel
theorem dX12_tellGains_119 : decode cX12_tellGains 119 = .ok (.ishl, 1) := by decide +kernel
theorem dX12_tellGains_120 : decode cX12_tellGains 120 = .ok (.iconst (-1), 1) := by decide +kernel
theorem dX12_tellGains_121 : decode cX12_tellGains 121 = .ok (.ixor, 1) := by decide +kernel
theorem dX12_tellGains_122 : decode cX12_tellGains 122 = .ok (.iand, 1) := by decide +kernel
theorem dX12_tellGains_123 : decode cX12_tellGains 123 = .ok (.invokestatic 335, 3) := by decide +kernel
theorem dX12_tellGains_126 : decode cX12_tellGains 126 = .ok (.iconst 2, 1) := by decide +kernel
theorem dX12_tellGains_127 : decode cX12_tellGains 127 = .ok (.iload_n 3, 1) := by decide +kernel
theorem dX12_tellGains_128 : decode cX12_tellGains 128 = .ok (.iconst 2, 1) := by decide +kernel
theorem dX12_tellGains_129 : decode cX12_tellGains 129 = .ok (.idiv, 1) := by decide +kernel
theorem dX12_tellGains_130 : decode cX12_tellGains 130 = .ok (.imul, 1) := by decide +kernel
theorem dX12_tellGains_131 : decode cX12_tellGains 131 = .ok (.isub, 1) := by decide +kernel
theorem dX12_tellGains_132 : decode cX12_tellGains 132 = .ok (.iload 5, 2) := by decide +kernel
theorem dX12_tellGains_134 : decode cX12_tellGains 134 = .ok (.isub, 1) := by decide +kernel
theorem dX12_tellGains_135 : decode cX12_tellGains 135 = .ok (.iastore, 1) := by decide +kernel
theorem dX12_tellGains_136 : decode cX12_tellGains 136 = .ok (.aload_n 0, 1) := by decide +kernel
theorem dX12_tellGains_137 : decode cX12_tellGains 137 = .ok (.getfield 121, 3) := by decide +kernel
theorem dX12_tellGains_140 : decode cX12_tellGains 140 = .ok (.iconst 2, 1) := by decide +kernel
theorem dX12_tellGains_141 : decode cX12_tellGains 141 = .ok (.iload_n 3, 1) := by decide +kernel
theorem dX12_tellGains_142 : decode cX12_tellGains 142 = .ok (.imul, 1) := by decide +kernel
theorem dX12_tellGains_143 : decode cX12_tellGains 143 = .ok (.iconst 1, 1) := by decide +kernel
theorem dX12_tellGains_144 : decode cX12_tellGains 144 = .ok (.iadd, 1) := by decide +kernel
theorem dX12_tellGains_145 : decode cX12_tellGains 145 = .ok (.iload 4, 2) := by decide +kernel
theorem dX12_tellGains_147 : decode cX12_tellGains 147 = .ok (.iconst 1, 1) := by decide +kernel
theorem dX12_tellGains_148 : decode cX12_tellGains 148 = .ok (.iload_n 2, 1) := by decide +kernel
theorem dX12_tellGains_149 : decode cX12_tellGains 149 = .ok (.ishl, 1) := by decide +kernel
theorem dX12_tellGains_150 : decode cX12_tellGains 150 = .ok (.iconst (-1), 1) := by decide +kernel
theorem dX12_tellGains_151 : decode cX12_tellGains 151 = .ok (.ixor, 1) := by decide +kernel
theorem dX12_tellGains_152 : decode cX12_tellGains 152 = .ok (.iand, 1) := by decide +kernel
theorem dX12_tellGains_153 : decode cX12_tellGains 153 = .ok (.invokestatic 335, 3) := by decide +kernel
theorem dX12_tellGains_156 : decode cX12_tellGains 156 = .ok (.iconst 2, 1) := by decide +kernel
theorem dX12_tellGains_157 : decode cX12_tellGains 157 = .ok (.iload_n 3, 1) := by decide +kernel
theorem dX12_tellGains_158 : decode cX12_tellGains 158 = .ok (.iconst 2, 1) := by decide +kernel
theorem dX12_tellGains_159 : decode cX12_tellGains 159 = .ok (.irem, 1) := by decide +kernel
theorem dX12_tellGains_160 : decode cX12_tellGains 160 = .ok (.imul, 1) := by decide +kernel
theorem dX12_tellGains_161 : decode cX12_tellGains 161 = .ok (.isub, 1) := by decide +kernel
theorem dX12_tellGains_162 : decode cX12_tellGains 162 = .ok (.iload 6, 2) := by decide +kernel
theorem dX12_tellGains_164 : decode cX12_tellGains 164 = .ok (.isub, 1) := by decide +kernel
theorem dX12_tellGains_165 : decode cX12_tellGains 165 = .ok (.iastore, 1) := by decide +kernel
theorem dX12_tellGains_166 : decode cX12_tellGains 166 = .ok (.aload_n 0, 1) := by decide +kernel
theorem dX12_tellGains_167 : decode cX12_tellGains 167 = .ok (.aload_n 0, 1) := by decide +kernel
theorem dX12_tellGains_168 : decode cX12_tellGains 168 = .ok (.getfield 96, 3) := by decide +kernel
theorem dX12_tellGains_171 : decode cX12_tellGains 171 = .ok (.iconst 0, 1) := by decide +kernel
theorem dX12_tellGains_172 : decode cX12_tellGains 172 = .ok (.invokevirtual 403, 3) := by decide +kernel
theorem dX12_tellGains_175 : decode cX12_tellGains 175 = .ok (.iinc 3 1, 3) := by decide +kernel
theorem dX12_tellGains_178 : decode cX12_tellGains 178 = .ok (.goto (-167), 3) := by decide +kernel
theorem dX12_tellGains_181 : decode cX12_tellGains 181 = .ok (.return_, 1) := by decide +kernel
set_option maxRecDepth 20000 in
theorem ggX12_game_X12_isFarm : GoodIn wsX12_game wsX12_isFarm := goodIn_r _ [7, 8, 9, 10, 6, 11, 108, 109, 110, 111, 112, 113, 114, 115, 116, 117, 118, 119, 120, 121, 122, 123, 124, 125, 126, 127, 128, 129, 130, 131, 132, 133, 134, 135, 136, 137, 138, 139, 140, 141, 142, 143, 144, 145, 146, 147, 148, 149, 150, 151, 152, 153, 154, 155, 156, 157, 158, 159, 160, 161, 162, 163, 164] (by decide +kernel) (by decide +kernel)
set_option maxRecDepth 20000 in
theorem gX12_game_X12_isFarm : GoodIn wsX12_game (wsV RX12 369 RX12 yX12_isFarm wsX12_isFarm) := goodIn_app (goodIn_of _ (by decide +kernel)) ggX12_game_X12_isFarm
set_option maxRecDepth 20000 in
theorem ggX12_game_X12_fail : GoodIn wsX12_game wsX12_fail := goodIn_r _ [15, 1, 108, 109, 110, 111, 112, 113, 114, 115, 116, 117, 118, 119, 120, 121, 122, 123, 124, 125, 126, 127, 128, 129, 130, 131, 132, 133, 134, 135, 136, 137, 138, 139, 140, 141, 142, 143, 144, 145, 146, 147, 148, 149, 150, 151, 152, 153, 154, 155, 156, 157, 158, 159, 160, 161, 162, 163, 164] (by decide +kernel) (by decide +kernel)
set_option maxRecDepth 20000 in
theorem gX12_game_X12_fail : GoodIn wsX12_game (wsV RX12 274 RX12 yX12_fail wsX12_fail) := goodIn_app (goodIn_of _ (by decide +kernel)) ggX12_game_X12_fail
set_option maxRecDepth 20000 in
theorem ggX12_game_X12_isAsleep : GoodIn wsX12_game wsX12_isAsleep := goodIn_r _ [19, 20, 21, 22, 6, 23, 108, 109, 110, 111, 112, 113, 114, 115, 116, 117, 118, 119, 120, 121, 122, 123, 124, 125, 126, 127, 128, 129, 130, 131, 132, 133, 134, 135, 136, 137, 138, 139, 140, 141, 142, 143, 144, 145, 146, 147, 148, 149, 150, 151, 152, 153, 154, 155, 156, 157, 158, 159, 160, 161, 162, 163, 164] (by decide +kernel) (by decide +kernel)
set_option maxRecDepth 20000 in
theorem gX12_game_X12_isAsleep : GoodIn wsX12_game (wsV RX12 390 RX12 yX12_isAsleep wsX12_isAsleep) := goodIn_app (goodIn_of _ (by decide +kernel)) ggX12_game_X12_isAsleep
set_option maxRecDepth 20000 in
theorem ggX12_game_X12_tellGains : GoodIn wsX12_game wsX12_tellGains := goodIn_r _ [27, 28, 29, 30, 2, 31, 32, 33, 6, 34, 35, 20, 36, 37, 38, 39, 40, 41, 42, 8, 43, 44, 45, 46, 47, 21, 22, 23, 48, 49, 50, 51, 52, 53, 54, 55, 56, 57, 58, 59, 60, 61, 62, 63, 64, 65, 66, 67, 68, 69, 70, 71, 72, 73, 74, 75, 76, 77, 78, 79, 80, 81, 82, 83, 84, 85, 86, 87, 88, 89, 90, 91, 92, 93, 94, 95, 96, 97, 98, 99, 100, 101, 102, 103, 104, 105, 106, 107, 108, 109, 110, 111, 112, 113, 114, 115, 116, 117, 118, 119, 120, 121, 122, 123, 124, 125, 126, 127, 128, 129, 130, 131, 132, 133, 134, 135, 136, 137, 138, 139, 140, 141, 142, 143, 144, 145, 146, 147, 148, 149, 150, 151, 152, 153, 154, 155, 156, 157, 158, 159, 160, 161, 162, 163, 164] (by decide +kernel) (by decide +kernel)
set_option maxRecDepth 20000 in
theorem gX12_game_X12_tellGains : GoodIn wsX12_game (wsV RX12 438 RX12 yX12_tellGains wsX12_tellGains) := goodIn_app (goodIn_of _ (by decide +kernel)) ggX12_game_X12_tellGains
theorem dX12_game_0 : decode cX12_game 0 = .ok (.aload_n 0, 1) := by decide +kernel
theorem dX12_game_1 : decode cX12_game 1 = .ok (.iconst 0, 1) := by decide +kernel
theorem dX12_game_2 : decode cX12_game 2 = .ok (.putfield 142, 3) := by decide +kernel
theorem dX12_game_5 : decode cX12_game 5 = .ok (.aload_n 0, 1) := by decide +kernel
theorem dX12_game_6 : decode cX12_game 6 = .ok (.iload_n 1, 1) := by decide +kernel
theorem dX12_game_7 : decode cX12_game 7 = .ok (.invokevirtual 369, 3) := by decide +kernel
theorem dX12_game_10 : decode cX12_game 10 = .ok (.ifCond .eq 20, 3) := by decide +kernel
theorem dX12_game_13 : decode cX12_game 13 = .ok (.aload_n 0, 1) := by decide +kernel
theorem dX12_game_14 : decode cX12_game 14 = .ok (.iload_n 2, 1) := by decide +kernel
theorem dX12_game_15 : decode cX12_game 15 = .ok (.invokevirtual 369, 3) := by decide +kernel
theorem dX12_game_18 : decode cX12_game 18 = .ok (.ifCond .eq 12, 3) := by decide +kernel
theorem dX12_game_21 : decode cX12_game 21 = .ok (.iload_n 3, 1) := by decide +kernel
theorem dX12_game_22 : decode cX12_game 22 = .ok (.ifCond .lt 8, 3) := by decide +kernel
theorem dX12_game_25 : decode cX12_game 25 = .ok (.iload_n 3, 1) := by decide +kernel
theorem dX12_game_26 : decode cX12_game 26 = .ok (.iconst 1, 1) := by decide +kernel
theorem dX12_game_27 : decode cX12_game 27 = .ok (.if_icmp .le 9, 3) := by decide +kernel
theorem dX12_game_30 : decode cX12_game 30 = .ok (.aload_n 0, 1) := by decide +kernel
theorem dX12_game_31 : decode cX12_game 31 = .ok (.iconst 1, 1) := by decide +kernel
theorem dX12_game_32 : decode cX12_game 32 = .ok (.invokevirtual 274, 3) := by decide +kernel
theorem dX12_game_35 : decode cX12_game 35 = .ok (.ireturn, 1) := by decide +kernel
theorem dX12_game_36 : decode cX12_game 36 = .ok (.iload_n 1, 1) := by decide +kernel
theorem dX12_game_37 : decode cX12_game 37 = .ok (.iload_n 2, 1) := by decide +kernel
theorem dX12_game_38 : decode cX12_game 38 = .ok (.if_icmp .ne 9, 3) := by decide +kernel
theorem dX12_game_41 : decode cX12_game 41 = .ok (.aload_n 0, 1) := by decide +kernel
theorem dX12_game_42 : decode cX12_game 42 = .ok (.iconst 2, 1) := by decide +kernel
theorem dX12_game_43 : decode cX12_game 43 = .ok (.invokevirtual 274, 3) := by decide +kernel
theorem dX12_game_46 : decode cX12_game 46 = .ok (.ireturn, 1) := by decide +kernel
theorem dX12_game_47 : decode cX12_game 47 = .ok (.aload_n 0, 1) := by decide +kernel
theorem dX12_game_48 : decode cX12_game 48 = .ok (.iload_n 1, 1) := by decide +kernel
theorem dX12_game_49 : decode cX12_game 49 = .ok (.invokevirtual 390, 3) := by decide +kernel
theorem dX12_game_52 : decode cX12_game 52 = .ok (.ifCond .ne 11, 3) := by decide +kernel
theorem dX12_game_55 : decode cX12_game 55 = .ok (.aload_n 0, 1) := by decide +kernel
theorem dX12_game_56 : decode cX12_game 56 = .ok (.iload_n 2, 1) := by decide +kernel
theorem dX12_game_57 : decode cX12_game 57 = .ok (.invokevirtual 390, 3) := by decide +kernel
theorem dX12_game_60 : decode cX12_game 60 = .ok (.ifCond .eq 5, 3) := by decide +kernel
theorem dX12_game_63 : decode cX12_game 63 = .ok (.iconst (-1), 1) := by decide +kernel
theorem dX12_game_64 : decode cX12_game 64 = .ok (.ireturn, 1) := by decide +kernel
theorem dX12_game_65 : decode cX12_game 65 = .ok (.aload_n 0, 1) := by decide +kernel
theorem dX12_game_66 : decode cX12_game 66 = .ok (.iload_n 1, 1) := by decide +kernel
theorem dX12_game_67 : decode cX12_game 67 = .ok (.iload_n 2, 1) := by decide +kernel
theorem dX12_game_68 : decode cX12_game 68 = .ok (.invokevirtual 438, 3) := by decide +kernel
theorem dX12_game_71 : decode cX12_game 71 = .ok (.iconst 0, 1) := by decide +kernel
theorem dX12_game_72 : decode cX12_game 72 = .ok (.istore 4, 2) := by decide +kernel
theorem dX12_game_74 : decode cX12_game 74 = .ok (.iconst (-1), 1) := by decide +kernel
theorem dX12_game_75 : decode cX12_game 75 = .ok (.istore 5, 2) := by decide +kernel
theorem dX12_game_77 : decode cX12_game 77 = .ok (.iconst 0, 1) := by decide +kernel
theorem dX12_game_78 : decode cX12_game 78 = .ok (.istore 6, 2) := by decide +kernel
theorem dX12_game_80 : decode cX12_game 80 = .ok (.iload 6, 2) := by decide +kernel
theorem dX12_game_82 : decode cX12_game 82 = .ok (.iconst 4, 1) := by decide +kernel
theorem dX12_game_83 : decode cX12_game 83 = .ok (.if_icmp .ge 90, 3) := by decide +kernel
theorem dX12_game_86 : decode cX12_game 86 = .ok (.aload_n 0, 1) := by decide +kernel
theorem dX12_game_87 : decode cX12_game 87 = .ok (.getfield 121, 3) := by decide +kernel
theorem dX12_game_90 : decode cX12_game 90 = .ok (.iconst 2, 1) := by decide +kernel
theorem dX12_game_91 : decode cX12_game 91 = .ok (.iload 6, 2) := by decide +kernel
theorem dX12_game_93 : decode cX12_game 93 = .ok (.iconst 2, 1) := by decide +kernel
theorem dX12_game_94 : decode cX12_game 94 = .ok (.ixor, 1) := by decide +kernel
theorem dX12_game_95 : decode cX12_game 95 = .ok (.imul, 1) := by decide +kernel
theorem dX12_game_96 : decode cX12_game 96 = .ok (.iaload, 1) := by decide +kernel
theorem dX12_game_97 : decode cX12_game 97 = .ok (.aload_n 0, 1) := by decide +kernel
theorem dX12_game_98 : decode cX12_game 98 = .ok (.getfield 121, 3) := by decide +kernel
theorem dX12_game_101 : decode cX12_game 101 = .ok (.iconst 2, 1) := by decide +kernel
theorem dX12_game_102 : decode cX12_game 102 = .ok (.iload 6, 2) := by decide +kernel
theorem dX12_game_104 : decode cX12_game 104 = .ok (.imul, 1) := by decide +kernel
theorem dX12_game_105 : decode cX12_game 105 = .ok (.iaload, 1) := by decide +kernel
theorem dX12_game_106 : decode cX12_game 106 = .ok (.if_icmp .gt 61, 3) := by decide +kernel
theorem dX12_game_109 : decode cX12_game 109 = .ok (.aload_n 0, 1) := by decide +kernel
theorem dX12_game_110 : decode cX12_game 110 = .ok (.getfield 121, 3) := by decide +kernel
theorem dX12_game_113 : decode cX12_game 113 = .ok (.iconst 2, 1) := by decide +kernel
theorem dX12_game_114 : decode cX12_game 114 = .ok (.iload 6, 2) := by decide +kernel
theorem dX12_game_116 : decode cX12_game 116 = .ok (.iconst 1, 1) := by decide +kernel
theorem dX12_game_117 : decode cX12_game 117 = .ok (.ixor, 1) := by decide +kernel
theorem dX12_game_118 : decode cX12_game 118 = .ok (.imul, 1) := by decide +kernel
theorem dX12_game_119 : decode cX12_game 119 = .ok (.iconst 1, 1) := by decide +kernel
theorem dX12_game_120 : decode cX12_game 120 = .ok (.iadd, 1) := by decide +kernel
theorem dX12_game_121 : decode cX12_game 121 = .ok (.iaload, 1) := by decide +kernel
theorem dX12_game_122 : decode cX12_game 122 = .ok (.aload_n 0, 1) := by decide +kernel
theorem dX12_game_123 : decode cX12_game 123 = .ok (.getfield 121, 3) := by decide +kernel
theorem dX12_game_126 : decode cX12_game 126 = .ok (.iconst 2, 1) := by decide +kernel
theorem dX12_game_127 : decode cX12_game 127 = .ok (.iload 6, 2) := by decide +kernel
theorem dX12_game_129 : decode cX12_game 129 = .ok (.imul, 1) := by decide +kernel
theorem dX12_game_130 : decode cX12_game 130 = .ok (.iconst 1, 1) := by decide +kernel
theorem dX12_game_131 : decode cX12_game 131 = .ok (.iadd, 1) := by decide +kernel
theorem dX12_game_132 : decode cX12_game 132 = .ok (.iaload, 1) := by decide +kernel
theorem dX12_game_133 : decode cX12_game 133 = .ok (.if_icmp .le 6, 3) := by decide +kernel
theorem dX12_game_136 : decode cX12_game 136 = .ok (.goto 31, 3) := by decide +kernel
theorem dX12_game_139 : decode cX12_game 139 = .ok (.iinc 4 1, 3) := by decide +kernel
theorem dX12_game_142 : decode cX12_game 142 = .ok (.iload 5, 2) := by decide +kernel
theorem dX12_game_144 : decode cX12_game 144 = .ok (.iconst (-1), 1) := by decide +kernel
theorem dX12_game_145 : decode cX12_game 145 = .ok (.if_icmp .ne 18, 3) := by decide +kernel
theorem dX12_game_148 : decode cX12_game 148 = .ok (.bipush 10, 2) := by decide +kernel
theorem dX12_game_150 : decode cX12_game 150 = .ok (.iload 6, 2) := by decide +kernel
theorem dX12_game_152 : decode cX12_game 152 = .ok (.iconst 2, 1) := by decide +kernel
theorem dX12_game_153 : decode cX12_game 153 = .ok (.idiv, 1) := by decide +kernel
theorem dX12_game_154 : decode cX12_game 154 = .ok (.imul, 1) := by decide +kernel
theorem dX12_game_155 : decode cX12_game 155 = .ok (.iload 6, 2) := by decide +kernel
theorem dX12_game_157 : decode cX12_game 157 = .ok (.iconst 2, 1) := by decide +kernel
theorem dX12_game_158 : decode cX12_game 158 = .ok (.irem, 1) := by decide +kernel
theorem dX12_game_159 : decode cX12_game 159 = .ok (.iadd, 1) := by decide +kernel
theorem dX12_game_160 : decode cX12_game 160 = .ok (.goto 5, 3) := by decide +kernel
theorem dX12_game_163 : decode cX12_game 163 = .ok (.iload 5, 2) := by decide +kernel
theorem dX12_game_165 : decode cX12_game 165 = .ok (.istore 5, 2) := by decide +kernel
theorem dX12_game_167 : decode cX12_game 167 = .ok (.iinc 6 1, 3) := by decide +kernel
theorem dX12_game_170 : decode cX12_game 170 = .ok (.goto (-90), 3) := by decide +kernel
theorem dX12_game_173 : decode cX12_game 173 = .ok (.iload_n 3, 1) := by decide +kernel
theorem dX12_game_174 : decode cX12_game 174 = .ok (.ifCond .ne 8, 3) := by decide +kernel
theorem dX12_game_177 : decode cX12_game 177 = .ok (.iload 4, 2) := by decide +kernel
theorem dX12_game_179 : decode cX12_game 179 = .ok (.goto 5, 3) := by decide +kernel
theorem dX12_game_182 : decode cX12_game 182 = .ok (.iload 5, 2) := by decide +kernel
theorem dX12_game_184 : decode cX12_game 184 = .ok (.ireturn, 1) := by decide +kernel
theorem dX12_drawOf_0 : decode cX12_drawOf 0 = .ok (.aload_n 0, 1) := by decide +kernel
theorem dX12_drawOf_1 : decode cX12_drawOf 1 = .ok (.aload_n 0, 1) := by decide +kernel
theorem dX12_drawOf_2 : decode cX12_drawOf 2 = .ok (.getfield 442, 3) := by decide +kernel
theorem dX12_drawOf_5 : decode cX12_drawOf 5 = .ok (.ldc_w 445, 3) := by decide +kernel
theorem dX12_drawOf_8 : decode cX12_drawOf 8 = .ok (.imul, 1) := by decide +kernel
theorem dX12_drawOf_9 : decode cX12_drawOf 9 = .ok (.sipush 12345, 3) := by decide +kernel
theorem dX12_drawOf_12 : decode cX12_drawOf 12 = .ok (.iadd, 1) := by decide +kernel
theorem dX12_drawOf_13 : decode cX12_drawOf 13 = .ok (.putfield 442, 3) := by decide +kernel
theorem dX12_drawOf_16 : decode cX12_drawOf 16 = .ok (.aload_n 0, 1) := by decide +kernel
theorem dX12_drawOf_17 : decode cX12_drawOf 17 = .ok (.getfield 442, 3) := by decide +kernel
theorem dX12_drawOf_20 : decode cX12_drawOf 20 = .ok (.bipush 16, 2) := by decide +kernel
theorem dX12_drawOf_22 : decode cX12_drawOf 22 = .ok (.ishr, 1) := by decide +kernel
theorem dX12_drawOf_23 : decode cX12_drawOf 23 = .ok (.sipush 32767, 3) := by decide +kernel
theorem dX12_drawOf_26 : decode cX12_drawOf 26 = .ok (.iand, 1) := by decide +kernel
theorem dX12_drawOf_27 : decode cX12_drawOf 27 = .ok (.iload_n 1, 1) := by decide +kernel
theorem dX12_drawOf_28 : decode cX12_drawOf 28 = .ok (.irem, 1) := by decide +kernel
theorem dX12_drawOf_29 : decode cX12_drawOf 29 = .ok (.ireturn, 1) := by decide +kernel
set_option maxRecDepth 20000 in
theorem ggX12_something_X12_drawOf : GoodIn wsX12_something wsX12_drawOf := goodIn_r _ [9, 10, 11, 24, 25, 26, 27, 28, 29, 30, 31, 32, 33, 34, 35, 36, 37, 38, 39, 40, 41, 42, 43, 44, 45, 46, 47, 48, 49, 50, 51, 52, 53, 54, 55, 56, 57, 58, 59, 60, 61, 62, 63, 64, 65, 66, 67, 68, 69, 70, 71, 72, 73, 74, 75, 76, 77, 78, 79, 80] (by decide +kernel) (by decide +kernel)
set_option maxRecDepth 20000 in
theorem gX12_something_X12_drawOf : GoodIn wsX12_something (wsV RX12 446 RX12 yX12_drawOf wsX12_drawOf) := goodIn_app (goodIn_of _ (by decide +kernel)) ggX12_something_X12_drawOf
set_option maxRecDepth 20000 in
theorem ggX12_something_X12_isAsleep : GoodIn wsX12_something wsX12_isAsleep := goodIn_r _ [15, 16, 17, 18, 8, 19, 24, 25, 26, 27, 28, 29, 30, 31, 32, 33, 34, 35, 36, 37, 38, 39, 40, 41, 42, 43, 44, 45, 46, 47, 48, 49, 50, 51, 52, 53, 54, 55, 56, 57, 58, 59, 60, 61, 62, 63, 64, 65, 66, 67, 68, 69, 70, 71, 72, 73, 74, 75, 76, 77, 78, 79, 80] (by decide +kernel) (by decide +kernel)
set_option maxRecDepth 20000 in
theorem gX12_something_X12_isAsleep : GoodIn wsX12_something (wsV RX12 390 RX12 yX12_isAsleep wsX12_isAsleep) := goodIn_app (goodIn_of _ (by decide +kernel)) ggX12_something_X12_isAsleep
set_option maxRecDepth 20000 in
theorem ggX12_something_X12_turnOver : GoodIn wsX12_something wsX12_turnOver := goodIn_r _ [23, 16, 2, 12, 13, 14, 8, 15, 17, 18, 19, 24, 25, 26, 27, 28, 29, 30, 31, 32, 33, 34, 35, 36, 37, 38, 39, 40, 41, 42, 43, 44, 45, 46, 47, 48, 49, 50, 51, 52, 53, 54, 55, 56, 57, 58, 59, 60, 61, 62, 63, 64, 65, 66, 67, 68, 69, 70, 71, 72, 73, 74, 75, 76, 77, 78, 79, 80] (by decide +kernel) (by decide +kernel)
set_option maxRecDepth 20000 in
theorem gX12_something_X12_turnOver : GoodIn wsX12_something (wsV RX12 397 RX12 yX12_turnOver wsX12_turnOver) := goodIn_app (goodIn_of _ (by decide +kernel)) ggX12_something_X12_turnOver
theorem dX12_something_0 : decode cX12_something 0 = .ok (.aload_n 0, 1) := by decide +kernel
theorem dX12_something_1 : decode cX12_something 1 = .ok (.bipush 6, 2) := by decide +kernel
theorem dX12_something_3 : decode cX12_something 3 = .ok (.invokevirtual 446, 3) := by decide +kernel
theorem dX12_something_6 : decode cX12_something 6 = .ok (.istore_n 1, 1) := by decide +kernel
theorem dX12_something_7 : decode cX12_something 7 = .ok (.iload_n 1, 1) := by decide +kernel
theorem dX12_something_8 : decode cX12_something 8 = .ok (.iconst 3, 1) := by decide +kernel
theorem dX12_something_9 : decode cX12_something 9 = .ok (.if_icmp .ge 69, 3) := by decide +kernel
theorem dX12_something_12 : decode cX12_something 12 = .ok (.aload_n 0, 1) := by decide +kernel
theorem dX12_something_13 : decode cX12_something 13 = .ok (.getfield 34, 3) := by decide +kernel
theorem dX12_something_16 : decode cX12_something 16 = .ok (.iconst 0, 1) := by decide +kernel
theorem dX12_something_17 : decode cX12_something 17 = .ok (.iaload, 1) := by decide +kernel
theorem dX12_something_18 : decode cX12_something 18 = .ok (.ifCond .le 60, 3) := by decide +kernel
theorem dX12_something_21 : decode cX12_something 21 = .ok (.aload_n 0, 1) := by decide +kernel
theorem dX12_something_22 : decode cX12_something 22 = .ok (.aload_n 0, 1) := by decide +kernel
theorem dX12_something_23 : decode cX12_something 23 = .ok (.getfield 34, 3) := by decide +kernel
theorem dX12_something_26 : decode cX12_something 26 = .ok (.iconst 0, 1) := by decide +kernel
theorem dX12_something_27 : decode cX12_something 27 = .ok (.iaload, 1) := by decide +kernel
theorem dX12_something_28 : decode cX12_something 28 = .ok (.invokevirtual 446, 3) := by decide +kernel
theorem dX12_something_31 : decode cX12_something 31 = .ok (.istore_n 2, 1) := by decide +kernel
theorem dX12_something_32 : decode cX12_something 32 = .ok (.iload_n 1, 1) := by decide +kernel
theorem dX12_something_33 : decode cX12_something 33 = .ok (.ifCond .ne 18, 3) := by decide +kernel
theorem dX12_something_36 : decode cX12_something 36 = .ok (.aload_n 0, 1) := by decide +kernel
theorem dX12_something_37 : decode cX12_something 37 = .ok (.iload_n 2, 1) := by decide +kernel
theorem dX12_something_38 : decode cX12_something 38 = .ok (.invokevirtual 390, 3) := by decide +kernel
theorem dX12_something_41 : decode cX12_something 41 = .ok (.ifCond .ne 10, 3) := by decide +kernel
theorem dX12_something_44 : decode cX12_something 44 = .ok (.aload_n 0, 1) := by decide +kernel
theorem dX12_something_45 : decode cX12_something 45 = .ok (.getfield 69, 3) := by decide +kernel
theorem dX12_something_48 : decode cX12_something 48 = .ok (.iload_n 2, 1) := by decide +kernel
theorem dX12_something_49 : decode cX12_something 49 = .ok (.iconst 1, 1) := by decide +kernel
theorem dX12_something_50 : decode cX12_something 50 = .ok (.iastore, 1) := by decide +kernel
theorem dX12_something_51 : decode cX12_something 51 = .ok (.iload_n 1, 1) := by decide +kernel
theorem dX12_something_52 : decode cX12_something 52 = .ok (.iconst 1, 1) := by decide +kernel
theorem dX12_something_53 : decode cX12_something 53 = .ok (.if_icmp .ne 8, 3) := by decide +kernel
theorem dX12_something_56 : decode cX12_something 56 = .ok (.aload_n 0, 1) := by decide +kernel
theorem dX12_something_57 : decode cX12_something 57 = .ok (.iload_n 2, 1) := by decide +kernel
theorem dX12_something_58 : decode cX12_something 58 = .ok (.invokevirtual 397, 3) := by decide +kernel
theorem dX12_something_61 : decode cX12_something 61 = .ok (.iload_n 1, 1) := by decide +kernel
theorem dX12_something_62 : decode cX12_something 62 = .ok (.iconst 2, 1) := by decide +kernel
theorem dX12_something_63 : decode cX12_something 63 = .ok (.if_icmp .ne 15, 3) := by decide +kernel
theorem dX12_something_66 : decode cX12_something 66 = .ok (.aload_n 0, 1) := by decide +kernel
theorem dX12_something_67 : decode cX12_something 67 = .ok (.getfield 78, 3) := by decide +kernel
theorem dX12_something_70 : decode cX12_something 70 = .ok (.iload_n 2, 1) := by decide +kernel
theorem dX12_something_71 : decode cX12_something 71 = .ok (.aload_n 0, 1) := by decide +kernel
theorem dX12_something_72 : decode cX12_something 72 = .ok (.bipush 21, 2) := by decide +kernel
theorem dX12_something_74 : decode cX12_something 74 = .ok (.invokevirtual 446, 3) := by decide +kernel
theorem dX12_something_77 : decode cX12_something 77 = .ok (.iastore, 1) := by decide +kernel
theorem dX12_something_78 : decode cX12_something 78 = .ok (.aload_n 0, 1) := by decide +kernel
theorem dX12_something_79 : decode cX12_something 79 = .ok (.aload_n 0, 1) := by decide +kernel
theorem dX12_something_80 : decode cX12_something 80 = .ok (.bipush 10, 2) := by decide +kernel
theorem dX12_something_82 : decode cX12_something 82 = .ok (.invokevirtual 446, 3) := by decide +kernel
theorem dX12_something_85 : decode cX12_something 85 = .ok (.putfield 84, 3) := by decide +kernel
theorem dX12_something_88 : decode cX12_something 88 = .ok (.return_, 1) := by decide +kernel
set_option maxRecDepth 20000 in
theorem ggX12_years_X12_isIn : GoodIn wsX12_years wsX12_isIn := goodIn_r _ [13] (by decide +kernel) (by decide +kernel)
set_option maxRecDepth 20000 in
theorem gX12_years_X12_isIn : GoodIn wsX12_years (va_wsS RX12 145 yX12_isIn wsX12_isIn) := goodIn_app (goodIn_of _ (by decide +kernel)) ggX12_years_X12_isIn
set_option maxRecDepth 20000 in
theorem ggX12_years_X12_fail : GoodIn wsX12_years wsX12_fail := goodIn_r _ [17, 1, 115, 116, 117, 118, 119, 120, 121, 122, 123, 124, 125, 126, 127, 128, 129, 130, 131, 132, 133, 134, 135, 136, 137, 138, 139, 140, 141, 142, 143, 144, 145, 146, 147, 148, 149, 150, 151, 152, 153, 154, 155, 156, 157, 158, 159, 160, 161, 162, 163, 164, 165, 166, 167, 168, 169, 170, 171] (by decide +kernel) (by decide +kernel)
set_option maxRecDepth 20000 in
theorem gX12_years_X12_fail : GoodIn wsX12_years (wsV RX12 274 RX12 yX12_fail wsX12_fail) := goodIn_app (goodIn_of _ (by decide +kernel)) ggX12_years_X12_fail
set_option maxRecDepth 20000 in
theorem ggX12_years_X12_pack : GoodIn wsX12_years wsX12_pack := goodIn_r _ [21, 22, 8, 23, 24, 25, 26, 115, 116, 117, 118, 119, 120, 121, 122, 123, 124, 125, 126, 127, 128, 129, 130, 131, 132, 133, 134, 135, 136, 137, 138, 139, 140, 141, 142, 143, 144, 145, 146, 147, 148, 149, 150, 151, 152, 153, 154, 155, 156, 157, 158, 159, 160, 161, 162, 163, 164, 165, 166, 167, 168, 169, 170, 171] (by decide +kernel) (by decide +kernel)
set_option maxRecDepth 20000 in
theorem gX12_years_X12_pack : GoodIn wsX12_years (wsV RX12 372 RX12 yX12_pack wsX12_pack) := goodIn_app (goodIn_of _ (by decide +kernel)) ggX12_years_X12_pack
set_option maxRecDepth 20000 in
theorem ggX12_years_X12_something : GoodIn wsX12_years wsX12_something := goodIn_r _ [30, 9, 23, 26, 7, 31, 32, 33, 12, 34, 5, 35, 36, 37, 38, 39, 8, 40, 41, 42, 43, 44, 45, 46, 115, 116, 117, 118, 119, 120, 121, 122, 123, 124, 125, 126, 127, 128, 129, 130, 131, 132, 133, 134, 135, 136, 137, 138, 139, 140, 141, 142, 143, 144, 145, 146, 147, 148, 149, 150, 151, 152, 153, 154, 155, 156, 157, 158, 159, 160, 161, 162, 163, 164, 165, 166, 167, 168, 169, 170, 171] (by decide +kernel) (by decide +kernel)
set_option maxRecDepth 20000 in
theorem gX12_years_X12_something : GoodIn wsX12_years (wsV RX12 449 RX12 yX12_something wsX12_something) := goodIn_app (goodIn_of _ (by decide +kernel)) ggX12_years_X12_something
set_option maxRecDepth 20000 in
theorem ggX12_years_X12_aTick : GoodIn wsX12_years wsX12_aTick := goodIn_r _ [50, 6, 9, 23, 24, 25, 51, 52, 53, 54, 8, 55, 22, 40, 41, 12, 42, 56, 57, 58, 59, 60, 61, 62, 63, 64, 65, 66, 67, 68, 69, 70, 71, 7, 72, 73, 74, 75, 76, 77, 78, 79, 80, 81, 82, 83, 84, 85, 86, 87, 88, 89, 90, 91, 92, 26, 93, 94, 95, 96, 97, 98, 99, 100, 101, 102, 103, 104, 105, 106, 107, 108, 109, 110, 115, 116, 117, 118, 119, 120, 121, 122, 123, 124, 125, 126, 127, 128, 129, 130, 131, 132, 133, 134, 135, 136, 137, 138, 139, 140, 141, 142, 143, 144, 145, 146, 147, 148, 149, 150, 151, 152, 153, 154, 155, 156, 157, 158, 159, 160, 161, 162, 163, 164, 165, 166, 167, 168, 169, 170, 171] (by decide +kernel) (by decide +kernel)
set_option maxRecDepth 20000 in
theorem gX12_years_X12_aTick : GoodIn wsX12_years (wsV RX12 348 RX12 yX12_aTick wsX12_aTick) := goodIn_app (goodIn_of _ (by decide +kernel)) ggX12_years_X12_aTick
set_option maxRecDepth 20000 in
theorem ggX12_years_X12_bitsOf : GoodIn wsX12_years wsX12_bitsOf := goodIn_r _ [101] (by decide +kernel) (by decide +kernel)
set_option maxRecDepth 20000 in
theorem gX12_years_X12_bitsOf : GoodIn wsX12_years (va_wsS RX12 335 yX12_bitsOf wsX12_bitsOf) := goodIn_app (goodIn_of _ (by decide +kernel)) ggX12_years_X12_bitsOf
set_option maxRecDepth 20000 in
theorem ggX12_years_X12_unpack : GoodIn wsX12_years wsX12_unpack := goodIn_r _ [114, 22, 8, 23, 24, 25, 26, 115, 116, 117, 118, 119, 120, 121, 122, 123, 124, 125, 126, 127, 128, 129, 130, 131, 132, 133, 134, 135, 136, 137, 138, 139, 140, 141, 142, 143, 144, 145, 146, 147, 148, 149, 150, 151, 152, 153, 154, 155, 156, 157, 158, 159, 160, 161, 162, 163, 164, 165, 166, 167, 168, 169, 170, 171] (by decide +kernel) (by decide +kernel)
set_option maxRecDepth 20000 in
theorem gX12_years_X12_unpack : GoodIn wsX12_years (wsV RX12 403 RX12 yX12_unpack wsX12_unpack) := goodIn_app (goodIn_of _ (by decide +kernel)) ggX12_years_X12_unpack
theorem dX12_years_0 : decode cX12_years 0 = .ok (.aload_n 0, 1) := by decide +kernel
theorem dX12_years_1 : decode cX12_years 1 = .ok (.iconst 0, 1) := by decide +kernel
theorem dX12_years_2 : decode cX12_years 2 = .ok (.putfield 142, 3) := by decide +kernel
theorem dX12_years_5 : decode cX12_years 5 = .ok (.iload_n 3, 1) := by decide +kernel
theorem dX12_years_6 : decode cX12_years 6 = .ok (.i2l, 1) := by decide +kernel
theorem dX12_years_7 : decode cX12_years 7 = .ok (.lconst 0, 1) := by decide +kernel
theorem dX12_years_8 : decode cX12_years 8 = .ok (.ldc2_w 423, 3) := by decide +kernel
theorem dX12_years_11 : decode cX12_years 11 = .ok (.invokestatic 145, 3) := by decide +kernel
theorem dX12_years_14 : decode cX12_years 14 = .ok (.ifCond .ne 9, 3) := by decide +kernel
theorem dX12_years_17 : decode cX12_years 17 = .ok (.aload_n 0, 1) := by decide +kernel
theorem dX12_years_18 : decode cX12_years 18 = .ok (.iconst 1, 1) := by decide +kernel
theorem dX12_years_19 : decode cX12_years 19 = .ok (.invokevirtual 274, 3) := by decide +kernel
theorem dX12_years_22 : decode cX12_years 22 = .ok (.ireturn, 1) := by decide +kernel
theorem dX12_years_23 : decode cX12_years 23 = .ok (.iload_n 2, 1) := by decide +kernel
theorem dX12_years_24 : decode cX12_years 24 = .ok (.i2l, 1) := by decide +kernel
theorem dX12_years_25 : decode cX12_years 25 = .ok (.lconst 0, 1) := by decide +kernel
theorem dX12_years_26 : decode cX12_years 26 = .ok (.ldc2_w 406, 3) := by decide +kernel
theorem dX12_years_29 : decode cX12_years 29 = .ok (.invokestatic 145, 3) := by decide +kernel
theorem dX12_years_32 : decode cX12_years 32 = .ok (.ifCond .ne 9, 3) := by decide +kernel
theorem dX12_years_35 : decode cX12_years 35 = .ok (.aload_n 0, 1) := by decide +kernel
theorem dX12_years_36 : decode cX12_years 36 = .ok (.iconst 2, 1) := by decide +kernel
theorem dX12_years_37 : decode cX12_years 37 = .ok (.invokevirtual 274, 3) := by decide +kernel
theorem dX12_years_40 : decode cX12_years 40 = .ok (.ireturn, 1) := by decide +kernel
theorem dX12_years_41 : decode cX12_years 41 = .ok (.aload_n 0, 1) := by decide +kernel
theorem dX12_years_42 : decode cX12_years 42 = .ok (.aload_n 0, 1) := by decide +kernel
theorem dX12_years_43 : decode cX12_years 43 = .ok (.getfield 96, 3) := by decide +kernel
theorem dX12_years_46 : decode cX12_years 46 = .ok (.iconst 0, 1) := by decide +kernel
theorem dX12_years_47 : decode cX12_years 47 = .ok (.invokevirtual 372, 3) := by decide +kernel
theorem dX12_years_50 : decode cX12_years 50 = .ok (.aload_n 0, 1) := by decide +kernel
theorem dX12_years_51 : decode cX12_years 51 = .ok (.iload_n 1, 1) := by decide +kernel
theorem dX12_years_52 : decode cX12_years 52 = .ok (.putfield 442, 3) := by decide +kernel
theorem dX12_years_55 : decode cX12_years 55 = .ok (.iconst 0, 1) := by decide +kernel
theorem dX12_years_56 : decode cX12_years 56 = .ok (.istore 4, 2) := by decide +kernel
theorem dX12_years_58 : decode cX12_years 58 = .ok (.iconst 0, 1) := by decide +kernel
theorem dX12_years_59 : decode cX12_years 59 = .ok (.istore 5, 2) := by decide +kernel
theorem dX12_years_61 : decode cX12_years 61 = .ok (.iconst 0, 1) := by decide +kernel
theorem dX12_years_62 : decode cX12_years 62 = .ok (.istore 6, 2) := by decide +kernel
theorem dX12_years_64 : decode cX12_years 64 = .ok (.iload 6, 2) := by decide +kernel
theorem dX12_years_66 : decode cX12_years 66 = .ok (.iload_n 2, 1) := by decide +kernel
theorem dX12_years_67 : decode cX12_years 67 = .ok (.if_icmp .ge 38, 3) := by decide +kernel
theorem dX12_years_70 : decode cX12_years 70 = .ok (.aload_n 0, 1) := by decide +kernel
theorem dX12_years_71 : decode cX12_years 71 = .ok (.invokevirtual 449, 3) := by decide +kernel
theorem dX12_years_74 : decode cX12_years 74 = .ok (.aload_n 0, 1) := by decide +kernel
theorem dX12_years_75 : decode cX12_years 75 = .ok (.invokevirtual 348, 3) := by decide +kernel
theorem dX12_years_78 : decode cX12_years 78 = .ok (.iload 4, 2) := by decide +kernel
theorem dX12_years_80 : decode cX12_years 80 = .ok (.aload_n 0, 1) := by decide +kernel
theorem dX12_years_81 : decode cX12_years 81 = .ok (.getfield 341, 3) := by decide +kernel
theorem dX12_years_84 : decode cX12_years 84 = .ok (.ior, 1) := by decide +kernel
theorem dX12_years_85 : decode cX12_years 85 = .ok (.istore 4, 2) := by decide +kernel
theorem dX12_years_87 : decode cX12_years 87 = .ok (.iload 5, 2) := by decide +kernel
theorem dX12_years_89 : decode cX12_years 89 = .ok (.aload_n 0, 1) := by decide +kernel
theorem dX12_years_90 : decode cX12_years 90 = .ok (.getfield 341, 3) := by decide +kernel
theorem dX12_years_93 : decode cX12_years 93 = .ok (.invokestatic 335, 3) := by decide +kernel
theorem dX12_years_96 : decode cX12_years 96 = .ok (.iadd, 1) := by decide +kernel
theorem dX12_years_97 : decode cX12_years 97 = .ok (.istore 5, 2) := by decide +kernel
theorem dX12_years_99 : decode cX12_years 99 = .ok (.iinc 6 1, 3) := by decide +kernel
theorem dX12_years_102 : decode cX12_years 102 = .ok (.goto (-38), 3) := by decide +kernel
theorem dX12_years_105 : decode cX12_years 105 = .ok (.aload_n 0, 1) := by decide +kernel
theorem dX12_years_106 : decode cX12_years 106 = .ok (.iconst (-1), 1) := by decide +kernel
theorem dX12_years_107 : decode cX12_years 107 = .ok (.putfield 84, 3) := by decide +kernel
theorem dX12_years_110 : decode cX12_years 110 = .ok (.iload_n 3, 1) := by decide +kernel
theorem dX12_years_111 : decode cX12_years 111 = .ok (.ifCond .ne 8, 3) := by decide +kernel
theorem dX12_years_114 : decode cX12_years 114 = .ok (.iload 5, 2) := by decide +kernel
theorem dX12_years_116 : decode cX12_years 116 = .ok (.goto 27, 3) := by decide +kernel
theorem dX12_years_119 : decode cX12_years 119 = .ok (.iload_n 3, 1) := by decide +kernel
theorem dX12_years_120 : decode cX12_years 120 = .ok (.iconst 1, 1) := by decide +kernel
theorem dX12_years_121 : decode cX12_years 121 = .ok (.if_icmp .ne 10, 3) := by decide +kernel
theorem dX12_years_124 : decode cX12_years 124 = .ok (.aload_n 0, 1) := by decide +kernel
theorem dX12_years_125 : decode cX12_years 125 = .ok (.getfield 290, 3) := by decide +kernel
theorem dX12_years_128 : decode cX12_years 128 = .ok (.goto 15, 3) := by decide +kernel
theorem dX12_years_131 : decode cX12_years 131 = .ok (.aload_n 0, 1) := by decide +kernel
theorem dX12_years_132 : decode cX12_years 132 = .ok (.getfield 34, 3) := by decide +kernel
theorem dX12_years_135 : decode cX12_years 135 = .ok (.iconst 0, 1) := by decide +kernel
theorem dX12_years_136 : decode cX12_years 136 = .ok (.iaload, 1) := by decide +kernel
theorem dX12_years_137 : decode cX12_years 137 = .ok (.iload 4, 2) := by decide +kernel
theorem dX12_years_139 : decode cX12_years 139 = .ok (.invokestatic 335, 3) := by decide +kernel
theorem dX12_years_142 : decode cX12_years 142 = .ok (.isub, 1) := by decide +kernel
theorem dX12_years_143 : decode cX12_years 143 = .ok (.istore 6, 2) := by decide +kernel
theorem dX12_years_145 : decode cX12_years 145 = .ok (.aload_n 0, 1) := by decide +kernel
theorem dX12_years_146 : decode cX12_years 146 = .ok (.aload_n 0, 1) := by decide +kernel
theorem dX12_years_147 : decode cX12_years 147 = .ok (.getfield 96, 3) := by decide +kernel
theorem dX12_years_150 : decode cX12_years 150 = .ok (.iconst 0, 1) := by decide +kernel
theorem dX12_years_151 : decode cX12_years 151 = .ok (.invokevirtual 403, 3) := by decide +kernel
theorem dX12_years_154 : decode cX12_years 154 = .ok (.iload 6, 2) := by decide +kernel
theorem dX12_years_156 : decode cX12_years 156 = .ok (.ireturn, 1) := by decide +kernel
theorem dX12_copyTo_0 : decode cX12_copyTo 0 = .ok (.iconst 0, 1) := by decide +kernel
theorem dX12_copyTo_1 : decode cX12_copyTo 1 = .ok (.istore_n 2, 1) := by decide +kernel
theorem dX12_copyTo_2 : decode cX12_copyTo 2 = .ok (.iload_n 2, 1) := by decide +kernel
theorem dX12_copyTo_3 : decode cX12_copyTo 3 = .ok (.aload_n 0, 1) := by decide +kernel
theorem dX12_copyTo_4 : decode cX12_copyTo 4 = .ok (.arraylength, 1) := by decide +kernel
theorem dX12_copyTo_5 : decode cX12_copyTo 5 = .ok (.if_icmp .ge 15, 3) := by decide +kernel
theorem dX12_copyTo_8 : decode cX12_copyTo 8 = .ok (.aload_n 0, 1) := by decide +kernel
theorem dX12_copyTo_9 : decode cX12_copyTo 9 = .ok (.iload_n 2, 1) := by decide +kernel
theorem dX12_copyTo_10 : decode cX12_copyTo 10 = .ok (.aload_n 1, 1) := by decide +kernel
theorem dX12_copyTo_11 : decode cX12_copyTo 11 = .ok (.iload_n 2, 1) := by decide +kernel
theorem dX12_copyTo_12 : decode cX12_copyTo 12 = .ok (.iaload, 1) := by decide +kernel
theorem dX12_copyTo_13 : decode cX12_copyTo 13 = .ok (.iastore, 1) := by decide +kernel
theorem dX12_copyTo_14 : decode cX12_copyTo 14 = .ok (.iinc 2 1, 3) := by decide +kernel
theorem dX12_copyTo_17 : decode cX12_copyTo 17 = .ok (.goto (-15), 3) := by decide +kernel
theorem dX12_copyTo_20 : decode cX12_copyTo 20 = .ok (.return_, 1) := by decide +kernel
set_option maxRecDepth 20000 in
theorem ggX12_image_X12_pack : GoodIn wsX12_image wsX12_pack := goodIn_r _ [22, 23, 24, 25, 26, 27, 28, 32, 33, 34, 35, 36, 37, 38, 39, 40, 41, 42, 43, 44, 45, 46, 47, 48, 49, 50, 51, 52, 53, 54, 55, 56, 57, 58, 59, 60, 61, 62, 63, 64, 65, 66, 67, 68, 69, 70, 71, 72, 73, 74, 75, 76, 77, 78, 79, 80, 81, 82, 83, 84, 85, 86, 87, 88] (by decide +kernel) (by decide +kernel)
set_option maxRecDepth 20000 in
theorem gX12_image_X12_pack : GoodIn wsX12_image (wsV RX12 372 RX12 yX12_pack wsX12_pack) := goodIn_app (goodIn_of _ (by decide +kernel)) ggX12_image_X12_pack
set_option maxRecDepth 20000 in
theorem ggX12_image_X12_copyTo : GoodIn wsX12_image wsX12_copyTo := goodIn_r _ [31] (by decide +kernel) (by decide +kernel)
set_option maxRecDepth 20000 in
theorem gX12_image_X12_copyTo : GoodIn wsX12_image (va_wsS RX12 458 yX12_copyTo wsX12_copyTo) := goodIn_app (goodIn_of _ (by decide +kernel)) ggX12_image_X12_copyTo
theorem dX12_image_0 : decode cX12_image 0 = .ok (.aload_n 0, 1) := by decide +kernel
theorem dX12_image_1 : decode cX12_image 1 = .ok (.iconst 0, 1) := by decide +kernel
theorem dX12_image_2 : decode cX12_image 2 = .ok (.putfield 142, 3) := by decide +kernel
theorem dX12_image_5 : decode cX12_image 5 = .ok (.aload_n 0, 1) := by decide +kernel
theorem dX12_image_6 : decode cX12_image 6 = .ok (.iconst 1, 1) := by decide +kernel
theorem dX12_image_7 : decode cX12_image 7 = .ok (.putfield 298, 3) := by decide +kernel
theorem dX12_image_10 : decode cX12_image 10 = .ok (.aload_n 0, 1) := by decide +kernel
theorem dX12_image_11 : decode cX12_image 11 = .ok (.aload_n 0, 1) := by decide +kernel
theorem dX12_image_12 : decode cX12_image 12 = .ok (.getfield 293, 3) := by decide +kernel
theorem dX12_image_15 : decode cX12_image 15 = .ok (.putfield 452, 3) := by decide +kernel
theorem dX12_image_18 : decode cX12_image 18 = .ok (.aload_n 0, 1) := by decide +kernel
theorem dX12_image_19 : decode cX12_image 19 = .ok (.aload_n 0, 1) := by decide +kernel
theorem dX12_image_20 : decode cX12_image 20 = .ok (.getfield 296, 3) := by decide +kernel
theorem dX12_image_23 : decode cX12_image 23 = .ok (.putfield 455, 3) := by decide +kernel
theorem dX12_image_26 : decode cX12_image 26 = .ok (.aload_n 0, 1) := by decide +kernel
theorem dX12_image_27 : decode cX12_image 27 = .ok (.aload_n 0, 1) := by decide +kernel
theorem dX12_image_28 : decode cX12_image 28 = .ok (.getfield 124, 3) := by decide +kernel
theorem dX12_image_31 : decode cX12_image 31 = .ok (.iconst 0, 1) := by decide +kernel
theorem dX12_image_32 : decode cX12_image 32 = .ok (.invokevirtual 372, 3) := by decide +kernel
theorem dX12_image_35 : decode cX12_image 35 = .ok (.aload_n 0, 1) := by decide +kernel
theorem dX12_image_36 : decode cX12_image 36 = .ok (.getfield 127, 3) := by decide +kernel
theorem dX12_image_39 : decode cX12_image 39 = .ok (.aload_n 0, 1) := by decide +kernel
theorem dX12_image_40 : decode cX12_image 40 = .ok (.getfield 81, 3) := by decide +kernel
theorem dX12_image_43 : decode cX12_image 43 = .ok (.invokestatic 458, 3) := by decide +kernel
theorem dX12_image_46 : decode cX12_image 46 = .ok (.aload_n 0, 1) := by decide +kernel
theorem dX12_image_47 : decode cX12_image 47 = .ok (.getfield 130, 3) := by decide +kernel
theorem dX12_image_50 : decode cX12_image 50 = .ok (.aload_n 0, 1) := by decide +kernel
theorem dX12_image_51 : decode cX12_image 51 = .ok (.getfield 105, 3) := by decide +kernel
theorem dX12_image_54 : decode cX12_image 54 = .ok (.invokestatic 458, 3) := by decide +kernel
theorem dX12_image_57 : decode cX12_image 57 = .ok (.aload_n 0, 1) := by decide +kernel
theorem dX12_image_58 : decode cX12_image 58 = .ok (.getfield 133, 3) := by decide +kernel
theorem dX12_image_61 : decode cX12_image 61 = .ok (.aload_n 0, 1) := by decide +kernel
theorem dX12_image_62 : decode cX12_image 62 = .ok (.getfield 108, 3) := by decide +kernel
theorem dX12_image_65 : decode cX12_image 65 = .ok (.invokestatic 458, 3) := by decide +kernel
theorem dX12_image_68 : decode cX12_image 68 = .ok (.iconst 0, 1) := by decide +kernel
theorem dX12_image_69 : decode cX12_image 69 = .ok (.istore_n 1, 1) := by decide +kernel
theorem dX12_image_70 : decode cX12_image 70 = .ok (.iload_n 1, 1) := by decide +kernel
theorem dX12_image_71 : decode cX12_image 71 = .ok (.bipush 8, 2) := by decide +kernel
theorem dX12_image_73 : decode cX12_image 73 = .ok (.if_icmp .ge 21, 3) := by decide +kernel
theorem dX12_image_76 : decode cX12_image 76 = .ok (.aload_n 0, 1) := by decide +kernel
theorem dX12_image_77 : decode cX12_image 77 = .ok (.getfield 139, 3) := by decide +kernel
theorem dX12_image_80 : decode cX12_image 80 = .ok (.iload_n 1, 1) := by decide +kernel
theorem dX12_image_81 : decode cX12_image 81 = .ok (.aload_n 0, 1) := by decide +kernel
theorem dX12_image_82 : decode cX12_image 82 = .ok (.getfield 114, 3) := by decide +kernel
theorem dX12_image_85 : decode cX12_image 85 = .ok (.iload_n 1, 1) := by decide +kernel
theorem dX12_image_86 : decode cX12_image 86 = .ok (.baload, 1) := by decide +kernel
theorem dX12_image_87 : decode cX12_image 87 = .ok (.bastore, 1) := by decide +kernel
theorem dX12_image_88 : decode cX12_image 88 = .ok (.iinc 1 1, 3) := by decide +kernel
theorem dX12_image_91 : decode cX12_image 91 = .ok (.goto (-21), 3) := by decide +kernel
theorem dX12_image_94 : decode cX12_image 94 = .ok (.aload_n 0, 1) := by decide +kernel
theorem dX12_image_95 : decode cX12_image 95 = .ok (.getfield 136, 3) := by decide +kernel
theorem dX12_image_98 : decode cX12_image 98 = .ok (.aload_n 0, 1) := by decide +kernel
theorem dX12_image_99 : decode cX12_image 99 = .ok (.getfield 59, 3) := by decide +kernel
theorem dX12_image_102 : decode cX12_image 102 = .ok (.invokestatic 458, 3) := by decide +kernel
theorem dX12_image_105 : decode cX12_image 105 = .ok (.return_, 1) := by decide +kernel
set_option maxRecDepth 20000 in
theorem ggX12_restore_X12_unpack : GoodIn wsX12_restore wsX12_unpack := goodIn_r _ [22, 23, 24, 25, 26, 27, 28, 32, 33, 34, 35, 36, 37, 38, 39, 40, 41, 42, 43, 44, 45, 46, 47, 48, 49, 50, 51, 52, 53, 54, 55, 56, 57, 58, 59, 60, 61, 62, 63, 64, 65, 66, 67, 68, 69, 70, 71, 72, 73, 74, 75, 76, 77, 78, 79, 80, 81, 82, 83, 84, 85, 86, 87, 88] (by decide +kernel) (by decide +kernel)
set_option maxRecDepth 20000 in
theorem gX12_restore_X12_unpack : GoodIn wsX12_restore (wsV RX12 403 RX12 yX12_unpack wsX12_unpack) := goodIn_app (goodIn_of _ (by decide +kernel)) ggX12_restore_X12_unpack
set_option maxRecDepth 20000 in
theorem ggX12_restore_X12_copyTo : GoodIn wsX12_restore wsX12_copyTo := goodIn_r _ [31] (by decide +kernel) (by decide +kernel)
set_option maxRecDepth 20000 in
theorem gX12_restore_X12_copyTo : GoodIn wsX12_restore (va_wsS RX12 458 yX12_copyTo wsX12_copyTo) := goodIn_app (goodIn_of _ (by decide +kernel)) ggX12_restore_X12_copyTo
theorem dX12_restore_0 : decode cX12_restore 0 = .ok (.aload_n 0, 1) := by decide +kernel
theorem dX12_restore_1 : decode cX12_restore 1 = .ok (.iconst 0, 1) := by decide +kernel
theorem dX12_restore_2 : decode cX12_restore 2 = .ok (.putfield 142, 3) := by decide +kernel
theorem dX12_restore_5 : decode cX12_restore 5 = .ok (.aload_n 0, 1) := by decide +kernel
theorem dX12_restore_6 : decode cX12_restore 6 = .ok (.getfield 298, 3) := by decide +kernel
theorem dX12_restore_9 : decode cX12_restore 9 = .ok (.ifCond .ne 5, 3) := by decide +kernel
theorem dX12_restore_12 : decode cX12_restore 12 = .ok (.iconst 0, 1) := by decide +kernel
theorem dX12_restore_13 : decode cX12_restore 13 = .ok (.ireturn, 1) := by decide +kernel
theorem dX12_restore_14 : decode cX12_restore 14 = .ok (.aload_n 0, 1) := by decide +kernel
theorem dX12_restore_15 : decode cX12_restore 15 = .ok (.aload_n 0, 1) := by decide +kernel
theorem dX12_restore_16 : decode cX12_restore 16 = .ok (.getfield 452, 3) := by decide +kernel
theorem dX12_restore_19 : decode cX12_restore 19 = .ok (.putfield 293, 3) := by decide +kernel
theorem dX12_restore_22 : decode cX12_restore 22 = .ok (.aload_n 0, 1) := by decide +kernel
theorem dX12_restore_23 : decode cX12_restore 23 = .ok (.aload_n 0, 1) := by decide +kernel
theorem dX12_restore_24 : decode cX12_restore 24 = .ok (.getfield 455, 3) := by decide +kernel
theorem dX12_restore_27 : decode cX12_restore 27 = .ok (.putfield 296, 3) := by decide +kernel
theorem dX12_restore_30 : decode cX12_restore 30 = .ok (.aload_n 0, 1) := by decide +kernel
theorem dX12_restore_31 : decode cX12_restore 31 = .ok (.aload_n 0, 1) := by decide +kernel
theorem dX12_restore_32 : decode cX12_restore 32 = .ok (.getfield 124, 3) := by decide +kernel
theorem dX12_restore_35 : decode cX12_restore 35 = .ok (.iconst 0, 1) := by decide +kernel
theorem dX12_restore_36 : decode cX12_restore 36 = .ok (.invokevirtual 403, 3) := by decide +kernel
theorem dX12_restore_39 : decode cX12_restore 39 = .ok (.aload_n 0, 1) := by decide +kernel
theorem dX12_restore_40 : decode cX12_restore 40 = .ok (.getfield 81, 3) := by decide +kernel
theorem dX12_restore_43 : decode cX12_restore 43 = .ok (.aload_n 0, 1) := by decide +kernel
theorem dX12_restore_44 : decode cX12_restore 44 = .ok (.getfield 127, 3) := by decide +kernel
theorem dX12_restore_47 : decode cX12_restore 47 = .ok (.invokestatic 458, 3) := by decide +kernel
theorem dX12_restore_50 : decode cX12_restore 50 = .ok (.aload_n 0, 1) := by decide +kernel
theorem dX12_restore_51 : decode cX12_restore 51 = .ok (.getfield 105, 3) := by decide +kernel
theorem dX12_restore_54 : decode cX12_restore 54 = .ok (.aload_n 0, 1) := by decide +kernel
theorem dX12_restore_55 : decode cX12_restore 55 = .ok (.getfield 130, 3) := by decide +kernel
theorem dX12_restore_58 : decode cX12_restore 58 = .ok (.invokestatic 458, 3) := by decide +kernel
theorem dX12_restore_61 : decode cX12_restore 61 = .ok (.aload_n 0, 1) := by decide +kernel
theorem dX12_restore_62 : decode cX12_restore 62 = .ok (.getfield 108, 3) := by decide +kernel
theorem dX12_restore_65 : decode cX12_restore 65 = .ok (.aload_n 0, 1) := by decide +kernel
theorem dX12_restore_66 : decode cX12_restore 66 = .ok (.getfield 133, 3) := by decide +kernel
theorem dX12_restore_69 : decode cX12_restore 69 = .ok (.invokestatic 458, 3) := by decide +kernel
theorem dX12_restore_72 : decode cX12_restore 72 = .ok (.iconst 0, 1) := by decide +kernel
theorem dX12_restore_73 : decode cX12_restore 73 = .ok (.istore_n 1, 1) := by decide +kernel
theorem dX12_restore_74 : decode cX12_restore 74 = .ok (.iload_n 1, 1) := by decide +kernel
theorem dX12_restore_75 : decode cX12_restore 75 = .ok (.bipush 8, 2) := by decide +kernel
theorem dX12_restore_77 : decode cX12_restore 77 = .ok (.if_icmp .ge 21, 3) := by decide +kernel
theorem dX12_restore_80 : decode cX12_restore 80 = .ok (.aload_n 0, 1) := by decide +kernel
theorem dX12_restore_81 : decode cX12_restore 81 = .ok (.getfield 114, 3) := by decide +kernel
theorem dX12_restore_84 : decode cX12_restore 84 = .ok (.iload_n 1, 1) := by decide +kernel
theorem dX12_restore_85 : decode cX12_restore 85 = .ok (.aload_n 0, 1) := by decide +kernel
theorem dX12_restore_86 : decode cX12_restore 86 = .ok (.getfield 139, 3) := by decide +kernel
theorem dX12_restore_89 : decode cX12_restore 89 = .ok (.iload_n 1, 1) := by decide +kernel
theorem dX12_restore_90 : decode cX12_restore 90 = .ok (.baload, 1) := by decide +kernel
theorem dX12_restore_91 : decode cX12_restore 91 = .ok (.bastore, 1) := by decide +kernel
theorem dX12_restore_92 : decode cX12_restore 92 = .ok (.iinc 1 1, 3) := by decide +kernel
theorem dX12_restore_95 : decode cX12_restore 95 = .ok (.goto (-21), 3) := by decide +kernel
theorem dX12_restore_98 : decode cX12_restore 98 = .ok (.aload_n 0, 1) := by decide +kernel
theorem dX12_restore_99 : decode cX12_restore 99 = .ok (.getfield 59, 3) := by decide +kernel
theorem dX12_restore_102 : decode cX12_restore 102 = .ok (.aload_n 0, 1) := by decide +kernel
theorem dX12_restore_103 : decode cX12_restore 103 = .ok (.getfield 136, 3) := by decide +kernel
theorem dX12_restore_106 : decode cX12_restore 106 = .ok (.invokestatic 458, 3) := by decide +kernel
theorem dX12_restore_109 : decode cX12_restore 109 = .ok (.iconst 1, 1) := by decide +kernel
theorem dX12_restore_110 : decode cX12_restore 110 = .ok (.ireturn, 1) := by decide +kernel
theorem dJ6_bitCount_0f7a4_0 : decode cJ6_bitCount_0f7a4 0 = .ok (.iload_n 0, 1) := by decide +kernel
theorem dJ6_bitCount_0f7a4_1 : decode cJ6_bitCount_0f7a4 1 = .ok (.iload_n 0, 1) := by decide +kernel
theorem dJ6_bitCount_0f7a4_2 : decode cJ6_bitCount_0f7a4 2 = .ok (.iconst 1, 1) := by decide +kernel
theorem dJ6_bitCount_0f7a4_3 : decode cJ6_bitCount_0f7a4 3 = .ok (.iushr, 1) := by decide +kernel
theorem dJ6_bitCount_0f7a4_4 : decode cJ6_bitCount_0f7a4 4 = .ok (.ldc_w 265, 3) := by decide +kernel
theorem dJ6_bitCount_0f7a4_7 : decode cJ6_bitCount_0f7a4 7 = .ok (.iand, 1) := by decide +kernel
theorem dJ6_bitCount_0f7a4_8 : decode cJ6_bitCount_0f7a4 8 = .ok (.isub, 1) := by decide +kernel
theorem dJ6_bitCount_0f7a4_9 : decode cJ6_bitCount_0f7a4 9 = .ok (.istore_n 0, 1) := by decide +kernel
theorem dJ6_bitCount_0f7a4_10 : decode cJ6_bitCount_0f7a4 10 = .ok (.iload_n 0, 1) := by decide +kernel
theorem dJ6_bitCount_0f7a4_11 : decode cJ6_bitCount_0f7a4 11 = .ok (.ldc_w 266, 3) := by decide +kernel
theorem dJ6_bitCount_0f7a4_14 : decode cJ6_bitCount_0f7a4 14 = .ok (.iand, 1) := by decide +kernel
theorem dJ6_bitCount_0f7a4_15 : decode cJ6_bitCount_0f7a4 15 = .ok (.iload_n 0, 1) := by decide +kernel
theorem dJ6_bitCount_0f7a4_16 : decode cJ6_bitCount_0f7a4 16 = .ok (.iconst 2, 1) := by decide +kernel
theorem dJ6_bitCount_0f7a4_17 : decode cJ6_bitCount_0f7a4 17 = .ok (.iushr, 1) := by decide +kernel
theorem dJ6_bitCount_0f7a4_18 : decode cJ6_bitCount_0f7a4 18 = .ok (.ldc_w 266, 3) := by decide +kernel
theorem dJ6_bitCount_0f7a4_21 : decode cJ6_bitCount_0f7a4 21 = .ok (.iand, 1) := by decide +kernel
theorem dJ6_bitCount_0f7a4_22 : decode cJ6_bitCount_0f7a4 22 = .ok (.iadd, 1) := by decide +kernel
theorem dJ6_bitCount_0f7a4_23 : decode cJ6_bitCount_0f7a4 23 = .ok (.istore_n 0, 1) := by decide +kernel
theorem dJ6_bitCount_0f7a4_24 : decode cJ6_bitCount_0f7a4 24 = .ok (.iload_n 0, 1) := by decide +kernel
theorem dJ6_bitCount_0f7a4_25 : decode cJ6_bitCount_0f7a4 25 = .ok (.iload_n 0, 1) := by decide +kernel
theorem dJ6_bitCount_0f7a4_26 : decode cJ6_bitCount_0f7a4 26 = .ok (.iconst 4, 1) := by decide +kernel
theorem dJ6_bitCount_0f7a4_27 : decode cJ6_bitCount_0f7a4 27 = .ok (.iushr, 1) := by decide +kernel
theorem dJ6_bitCount_0f7a4_28 : decode cJ6_bitCount_0f7a4 28 = .ok (.iadd, 1) := by decide +kernel
theorem dJ6_bitCount_0f7a4_29 : decode cJ6_bitCount_0f7a4 29 = .ok (.ldc_w 267, 3) := by decide +kernel
theorem dJ6_bitCount_0f7a4_32 : decode cJ6_bitCount_0f7a4 32 = .ok (.iand, 1) := by decide +kernel
theorem dJ6_bitCount_0f7a4_33 : decode cJ6_bitCount_0f7a4 33 = .ok (.istore_n 0, 1) := by decide +kernel
theorem dJ6_bitCount_0f7a4_34 : decode cJ6_bitCount_0f7a4 34 = .ok (.iload_n 0, 1) := by decide +kernel
theorem dJ6_bitCount_0f7a4_35 : decode cJ6_bitCount_0f7a4 35 = .ok (.iload_n 0, 1) := by decide +kernel
theorem dJ6_bitCount_0f7a4_36 : decode cJ6_bitCount_0f7a4 36 = .ok (.bipush 8, 2) := by decide +kernel
theorem dJ6_bitCount_0f7a4_38 : decode cJ6_bitCount_0f7a4 38 = .ok (.iushr, 1) := by decide +kernel
theorem dJ6_bitCount_0f7a4_39 : decode cJ6_bitCount_0f7a4 39 = .ok (.iadd, 1) := by decide +kernel
theorem dJ6_bitCount_0f7a4_40 : decode cJ6_bitCount_0f7a4 40 = .ok (.istore_n 0, 1) := by decide +kernel
theorem dJ6_bitCount_0f7a4_41 : decode cJ6_bitCount_0f7a4 41 = .ok (.iload_n 0, 1) := by decide +kernel
theorem dJ6_bitCount_0f7a4_42 : decode cJ6_bitCount_0f7a4 42 = .ok (.iload_n 0, 1) := by decide +kernel
theorem dJ6_bitCount_0f7a4_43 : decode cJ6_bitCount_0f7a4 43 = .ok (.bipush 16, 2) := by decide +kernel
theorem dJ6_bitCount_0f7a4_45 : decode cJ6_bitCount_0f7a4 45 = .ok (.iushr, 1) := by decide +kernel
theorem dJ6_bitCount_0f7a4_46 : decode cJ6_bitCount_0f7a4 46 = .ok (.iadd, 1) := by decide +kernel
theorem dJ6_bitCount_0f7a4_47 : decode cJ6_bitCount_0f7a4 47 = .ok (.istore_n 0, 1) := by decide +kernel
theorem dJ6_bitCount_0f7a4_48 : decode cJ6_bitCount_0f7a4 48 = .ok (.iload_n 0, 1) := by decide +kernel
theorem dJ6_bitCount_0f7a4_49 : decode cJ6_bitCount_0f7a4 49 = .ok (.bipush 63, 2) := by decide +kernel
theorem dJ6_bitCount_0f7a4_51 : decode cJ6_bitCount_0f7a4 51 = .ok (.iand, 1) := by decide +kernel
theorem dJ6_bitCount_0f7a4_52 : decode cJ6_bitCount_0f7a4 52 = .ok (.ireturn, 1) := by decide +kernel
theorem dJ9_abs_0f7a4_0 : decode cJ9_abs_0f7a4 0 = .ok (.iload_n 0, 1) := by decide +kernel
theorem dJ9_abs_0f7a4_1 : decode cJ9_abs_0f7a4 1 = .ok (.ifCond .ge 8, 3) := by decide +kernel
theorem dJ9_abs_0f7a4_4 : decode cJ9_abs_0f7a4 4 = .ok (.iload_n 0, 1) := by decide +kernel
theorem dJ9_abs_0f7a4_5 : decode cJ9_abs_0f7a4 5 = .ok (.ineg, 1) := by decide +kernel
theorem dJ9_abs_0f7a4_6 : decode cJ9_abs_0f7a4 6 = .ok (.goto 4, 3) := by decide +kernel
theorem dJ9_abs_0f7a4_9 : decode cJ9_abs_0f7a4 9 = .ok (.iload_n 0, 1) := by decide +kernel
theorem dJ9_abs_0f7a4_10 : decode cJ9_abs_0f7a4 10 = .ok (.ireturn, 1) := by decide +kernel
theorem dJ9_max_7cf53_0 : decode cJ9_max_7cf53 0 = .ok (.iload_n 0, 1) := by decide +kernel
theorem dJ9_max_7cf53_1 : decode cJ9_max_7cf53 1 = .ok (.iload_n 1, 1) := by decide +kernel
theorem dJ9_max_7cf53_2 : decode cJ9_max_7cf53 2 = .ok (.if_icmp .lt 7, 3) := by decide +kernel
theorem dJ9_max_7cf53_5 : decode cJ9_max_7cf53 5 = .ok (.iload_n 0, 1) := by decide +kernel
theorem dJ9_max_7cf53_6 : decode cJ9_max_7cf53 6 = .ok (.goto 4, 3) := by decide +kernel
theorem dJ9_max_7cf53_9 : decode cJ9_max_7cf53 9 = .ok (.iload_n 1, 1) := by decide +kernel
theorem dJ9_max_7cf53_10 : decode cJ9_max_7cf53 10 = .ok (.ireturn, 1) := by decide +kernel
theorem dJ9_min_7cf53_0 : decode cJ9_min_7cf53 0 = .ok (.iload_n 0, 1) := by decide +kernel
theorem dJ9_min_7cf53_1 : decode cJ9_min_7cf53 1 = .ok (.iload_n 1, 1) := by decide +kernel
theorem dJ9_min_7cf53_2 : decode cJ9_min_7cf53 2 = .ok (.if_icmp .gt 7, 3) := by decide +kernel
theorem dJ9_min_7cf53_5 : decode cJ9_min_7cf53 5 = .ok (.iload_n 0, 1) := by decide +kernel
theorem dJ9_min_7cf53_6 : decode cJ9_min_7cf53 6 = .ok (.goto 4, 3) := by decide +kernel
theorem dJ9_min_7cf53_9 : decode cJ9_min_7cf53 9 = .ok (.iload_n 1, 1) := by decide +kernel
theorem dJ9_min_7cf53_10 : decode cJ9_min_7cf53 10 = .ok (.ireturn, 1) := by decide +kernel
set_option maxRecDepth 20000 in
theorem ggJ0_length_8abf5_J0_coder_7d493 : GoodIn wsJ0_length_8abf5 wsJ0_coder_7d493 := goodIn_r _ [6, 7, 8] (by decide +kernel) (by decide +kernel)
set_option maxRecDepth 20000 in
theorem gJ0_length_8abf5_J0_coder_7d493 : GoodIn wsJ0_length_8abf5 (wsV RJ0 335 RJ0 yJ0_coder_7d493 wsJ0_coder_7d493) := goodIn_app (goodIn_of _ (by decide +kernel)) ggJ0_length_8abf5_J0_coder_7d493
theorem dJ0_length_8abf5_0 : decode cJ0_length_8abf5 0 = .ok (.aload_n 0, 1) := by decide +kernel
theorem dJ0_length_8abf5_1 : decode cJ0_length_8abf5 1 = .ok (.getfield 9, 3) := by decide +kernel
theorem dJ0_length_8abf5_4 : decode cJ0_length_8abf5 4 = .ok (.arraylength, 1) := by decide +kernel
theorem dJ0_length_8abf5_5 : decode cJ0_length_8abf5 5 = .ok (.aload_n 0, 1) := by decide +kernel
theorem dJ0_length_8abf5_6 : decode cJ0_length_8abf5 6 = .ok (.invokevirtual 335, 3) := by decide +kernel
theorem dJ0_length_8abf5_9 : decode cJ0_length_8abf5 9 = .ok (.ishr, 1) := by decide +kernel
theorem dJ0_length_8abf5_10 : decode cJ0_length_8abf5 10 = .ok (.ireturn, 1) := by decide +kernel
theorem dJ0_isEmpty_aae02_0 : decode cJ0_isEmpty_aae02 0 = .ok (.aload_n 0, 1) := by decide +kernel
theorem dJ0_isEmpty_aae02_1 : decode cJ0_isEmpty_aae02 1 = .ok (.getfield 9, 3) := by decide +kernel
theorem dJ0_isEmpty_aae02_4 : decode cJ0_isEmpty_aae02 4 = .ok (.arraylength, 1) := by decide +kernel
theorem dJ0_isEmpty_aae02_5 : decode cJ0_isEmpty_aae02 5 = .ok (.ifCond .ne 7, 3) := by decide +kernel
theorem dJ0_isEmpty_aae02_8 : decode cJ0_isEmpty_aae02 8 = .ok (.iconst 1, 1) := by decide +kernel
theorem dJ0_isEmpty_aae02_9 : decode cJ0_isEmpty_aae02 9 = .ok (.goto 4, 3) := by decide +kernel
theorem dJ0_isEmpty_aae02_12 : decode cJ0_isEmpty_aae02 12 = .ok (.iconst 0, 1) := by decide +kernel
theorem dJ0_isEmpty_aae02_13 : decode cJ0_isEmpty_aae02 13 = .ok (.ireturn, 1) := by decide +kernel
set_option maxRecDepth 20000 in
theorem ggJ0_charAt_5068e_J0_isLatin1_aae02 : GoodIn wsJ0_charAt_5068e wsJ0_isLatin1_aae02 := goodIn_r _ [6, 7, 8] (by decide +kernel) (by decide +kernel)
set_option maxRecDepth 20000 in
theorem gJ0_charAt_5068e_J0_isLatin1_aae02 : GoodIn wsJ0_charAt_5068e (wsV RJ0 492 RJ0 yJ0_isLatin1_aae02 wsJ0_isLatin1_aae02) := goodIn_app (goodIn_of _ (by decide +kernel)) ggJ0_charAt_5068e_J0_isLatin1_aae02
set_option maxRecDepth 20000 in
theorem ggJ0_charAt_5068e_J1_charAt_3b067 : GoodIn wsJ0_charAt_5068e wsJ1_charAt_3b067 := goodIn_r _ [12, 13, 14, 5, 15, 16, 17, 18, 19, 20] (by decide +kernel) (by decide +kernel)
set_option maxRecDepth 20000 in
theorem gJ0_charAt_5068e_J1_charAt_3b067 : GoodIn wsJ0_charAt_5068e (va_wsS RJ0 495 yJ1_charAt_3b067 wsJ1_charAt_3b067) := goodIn_app (goodIn_of _ (by decide +kernel)) ggJ0_charAt_5068e_J1_charAt_3b067
set_option maxRecDepth 20000 in
theorem ggJ0_charAt_5068e_J2_charAt_3b067 : GoodIn wsJ0_charAt_5068e wsJ2_charAt_3b067 := goodIn_r _ [24, 25, 26, 23, 27, 28, 29, 30, 31, 14, 5, 15, 16, 17, 18, 19, 20, 32, 33, 34, 35, 36, 37] (by decide +kernel) (by decide +kernel)
set_option maxRecDepth 20000 in
theorem gJ0_charAt_5068e_J2_charAt_3b067 : GoodIn wsJ0_charAt_5068e (va_wsS RJ0 498 yJ2_charAt_3b067 wsJ2_charAt_3b067) := goodIn_app (goodIn_of _ (by decide +kernel)) ggJ0_charAt_5068e_J2_charAt_3b067
theorem dJ0_charAt_5068e_0 : decode cJ0_charAt_5068e 0 = .ok (.aload_n 0, 1) := by decide +kernel
theorem dJ0_charAt_5068e_1 : decode cJ0_charAt_5068e 1 = .ok (.invokevirtual 492, 3) := by decide +kernel
theorem dJ0_charAt_5068e_4 : decode cJ0_charAt_5068e 4 = .ok (.ifCond .eq 12, 3) := by decide +kernel
theorem dJ0_charAt_5068e_7 : decode cJ0_charAt_5068e 7 = .ok (.aload_n 0, 1) := by decide +kernel
theorem dJ0_charAt_5068e_8 : decode cJ0_charAt_5068e 8 = .ok (.getfield 9, 3) := by decide +kernel
theorem dJ0_charAt_5068e_11 : decode cJ0_charAt_5068e 11 = .ok (.iload_n 1, 1) := by decide +kernel
theorem dJ0_charAt_5068e_12 : decode cJ0_charAt_5068e 12 = .ok (.invokestatic 495, 3) := by decide +kernel
theorem dJ0_charAt_5068e_15 : decode cJ0_charAt_5068e 15 = .ok (.ireturn, 1) := by decide +kernel
theorem dJ0_charAt_5068e_16 : decode cJ0_charAt_5068e 16 = .ok (.aload_n 0, 1) := by decide +kernel
theorem dJ0_charAt_5068e_17 : decode cJ0_charAt_5068e 17 = .ok (.getfield 9, 3) := by decide +kernel
theorem dJ0_charAt_5068e_20 : decode cJ0_charAt_5068e 20 = .ok (.iload_n 1, 1) := by decide +kernel
theorem dJ0_charAt_5068e_21 : decode cJ0_charAt_5068e 21 = .ok (.invokestatic 498, 3) := by decide +kernel
theorem dJ0_charAt_5068e_24 : decode cJ0_charAt_5068e 24 = .ok (.ireturn, 1) := by decide +kernel
theorem dJ0_coder_7d493_0 : decode cJ0_coder_7d493 0 = .ok (.getstatic 38, 3) := by decide +kernel
theorem dJ0_coder_7d493_3 : decode cJ0_coder_7d493 3 = .ok (.ifCond .eq 10, 3) := by decide +kernel
theorem dJ0_coder_7d493_6 : decode cJ0_coder_7d493 6 = .ok (.aload_n 0, 1) := by decide +kernel
theorem dJ0_coder_7d493_7 : decode cJ0_coder_7d493 7 = .ok (.getfield 15, 3) := by decide +kernel
theorem dJ0_coder_7d493_10 : decode cJ0_coder_7d493 10 = .ok (.goto 4, 3) := by decide +kernel
theorem dJ0_coder_7d493_13 : decode cJ0_coder_7d493 13 = .ok (.iconst 1, 1) := by decide +kernel
theorem dJ0_coder_7d493_14 : decode cJ0_coder_7d493 14 = .ok (.ireturn, 1) := by decide +kernel
theorem dJ0_isLatin1_aae02_0 : decode cJ0_isLatin1_aae02 0 = .ok (.getstatic 38, 3) := by decide +kernel
theorem dJ0_isLatin1_aae02_3 : decode cJ0_isLatin1_aae02 3 = .ok (.ifCond .eq 14, 3) := by decide +kernel
theorem dJ0_isLatin1_aae02_6 : decode cJ0_isLatin1_aae02 6 = .ok (.aload_n 0, 1) := by decide +kernel
theorem dJ0_isLatin1_aae02_7 : decode cJ0_isLatin1_aae02 7 = .ok (.getfield 15, 3) := by decide +kernel
theorem dJ0_isLatin1_aae02_10 : decode cJ0_isLatin1_aae02 10 = .ok (.ifCond .ne 7, 3) := by decide +kernel
theorem dJ0_isLatin1_aae02_13 : decode cJ0_isLatin1_aae02 13 = .ok (.iconst 1, 1) := by decide +kernel
theorem dJ0_isLatin1_aae02_14 : decode cJ0_isLatin1_aae02 14 = .ok (.goto 4, 3) := by decide +kernel
theorem dJ0_isLatin1_aae02_17 : decode cJ0_isLatin1_aae02 17 = .ok (.iconst 0, 1) := by decide +kernel
theorem dJ0_isLatin1_aae02_18 : decode cJ0_isLatin1_aae02 18 = .ok (.ireturn, 1) := by decide +kernel
set_option maxRecDepth 20000 in
theorem ggJ0_checkIndex_df160_J3_checkIndex_8e157 : GoodIn wsJ0_checkIndex_df160 wsJ3_checkIndex_8e157 := goodIn_r _ [5] (by decide +kernel) (by decide +kernel)
set_option maxRecDepth 20000 in
theorem gJ0_checkIndex_df160_J3_checkIndex_8e157 : GoodIn wsJ0_checkIndex_df160 (va_wsS RJ0 1059 yJ3_checkIndex_8e157 wsJ3_checkIndex_8e157) := goodIn_app (goodIn_of _ (by decide +kernel)) ggJ0_checkIndex_df160_J3_checkIndex_8e157
theorem dJ0_checkIndex_df160_0 : decode cJ0_checkIndex_df160 0 = .ok (.iload_n 0, 1) := by decide +kernel
theorem dJ0_checkIndex_df160_1 : decode cJ0_checkIndex_df160 1 = .ok (.iload_n 1, 1) := by decide +kernel
theorem dJ0_checkIndex_df160_2 : decode cJ0_checkIndex_df160 2 = .ok (.getstatic 1053, 3) := by decide +kernel
theorem dJ0_checkIndex_df160_5 : decode cJ0_checkIndex_df160 5 = .ok (.invokestatic 1059, 3) := by decide +kernel
theorem dJ0_checkIndex_df160_8 : decode cJ0_checkIndex_df160 8 = .ok (.pop, 1) := by decide +kernel
theorem dJ0_checkIndex_df160_9 : decode cJ0_checkIndex_df160 9 = .ok (.return_, 1) := by decide +kernel
set_option maxRecDepth 20000 in
theorem ggJ1_charAt_3b067_J0_checkIndex_df160 : GoodIn wsJ1_charAt_3b067 wsJ0_checkIndex_df160 := goodIn_r _ [4, 5, 6, 7, 8, 9] (by decide +kernel) (by decide +kernel)
set_option maxRecDepth 20000 in
theorem gJ1_charAt_3b067_J0_checkIndex_df160 : GoodIn wsJ1_charAt_3b067 (va_wsS RJ1 9 yJ0_checkIndex_df160 wsJ0_checkIndex_df160) := goodIn_app (goodIn_of _ (by decide +kernel)) ggJ1_charAt_3b067_J0_checkIndex_df160
theorem dJ1_charAt_3b067_0 : decode cJ1_charAt_3b067 0 = .ok (.iload_n 1, 1) := by decide +kernel
theorem dJ1_charAt_3b067_1 : decode cJ1_charAt_3b067 1 = .ok (.aload_n 0, 1) := by decide +kernel
theorem dJ1_charAt_3b067_2 : decode cJ1_charAt_3b067 2 = .ok (.arraylength, 1) := by decide +kernel
theorem dJ1_charAt_3b067_3 : decode cJ1_charAt_3b067 3 = .ok (.invokestatic 9, 3) := by decide +kernel
theorem dJ1_charAt_3b067_6 : decode cJ1_charAt_3b067 6 = .ok (.aload_n 0, 1) := by decide +kernel
theorem dJ1_charAt_3b067_7 : decode cJ1_charAt_3b067 7 = .ok (.iload_n 1, 1) := by decide +kernel
theorem dJ1_charAt_3b067_8 : decode cJ1_charAt_3b067 8 = .ok (.baload, 1) := by decide +kernel
theorem dJ1_charAt_3b067_9 : decode cJ1_charAt_3b067 9 = .ok (.sipush 255, 3) := by decide +kernel
theorem dJ1_charAt_3b067_12 : decode cJ1_charAt_3b067 12 = .ok (.iand, 1) := by decide +kernel
theorem dJ1_charAt_3b067_13 : decode cJ1_charAt_3b067 13 = .ok (.i2c, 1) := by decide +kernel
theorem dJ1_charAt_3b067_14 : decode cJ1_charAt_3b067 14 = .ok (.ireturn, 1) := by decide +kernel
set_option maxRecDepth 20000 in
theorem ggJ2_getChar_3b067_J2_length_9d52b : GoodIn wsJ2_getChar_3b067 wsJ2_length_9d52b := goodIn_r _ [7] (by decide +kernel) (by decide +kernel)
set_option maxRecDepth 20000 in
theorem gJ2_getChar_3b067_J2_length_9d52b : GoodIn wsJ2_getChar_3b067 (va_wsS RJ2 48 yJ2_length_9d52b wsJ2_length_9d52b) := goodIn_app (goodIn_of _ (by decide +kernel)) ggJ2_getChar_3b067_J2_length_9d52b
theorem dJ2_getChar_3b067_0 : decode cJ2_getChar_3b067 0 = .ok (.getstatic 44, 3) := by decide +kernel
theorem dJ2_getChar_3b067_3 : decode cJ2_getChar_3b067 3 = .ok (.ifCond .ne 25, 3) := by decide +kernel
theorem dJ2_getChar_3b067_6 : decode cJ2_getChar_3b067 6 = .ok (.iload_n 1, 1) := by decide +kernel
theorem dJ2_getChar_3b067_7 : decode cJ2_getChar_3b067 7 = .ok (.ifCond .lt 11, 3) := by decide +kernel
theorem dJ2_getChar_3b067_10 : decode cJ2_getChar_3b067 10 = .ok (.iload_n 1, 1) := by decide +kernel
theorem dJ2_getChar_3b067_11 : decode cJ2_getChar_3b067 11 = .ok (.aload_n 0, 1) := by decide +kernel
theorem dJ2_getChar_3b067_12 : decode cJ2_getChar_3b067 12 = .ok (.invokestatic 48, 3) := by decide +kernel
theorem dJ2_getChar_3b067_15 : decode cJ2_getChar_3b067 15 = .ok (.if_icmp .lt 13, 3) := by decide +kernel
theorem dJ2_getChar_3b067_18 : decode cJ2_getChar_3b067 18 = .ok (.new 52, 3) := by decide +kernel
theorem dJ2_getChar_3b067_21 : decode cJ2_getChar_3b067 21 = .ok (.dup, 1) := by decide +kernel
theorem dJ2_getChar_3b067_22 : decode cJ2_getChar_3b067 22 = .ok (.ldc 54, 2) := by decide +kernel
theorem dJ2_getChar_3b067_24 : decode cJ2_getChar_3b067 24 = .ok (.invokespecial 56, 3) := by decide +kernel
theorem dJ2_getChar_3b067_27 : decode cJ2_getChar_3b067 27 = .ok (.athrow, 1) := by decide +kernel
theorem dJ2_getChar_3b067_28 : decode cJ2_getChar_3b067 28 = .ok (.iload_n 1, 1) := by decide +kernel
theorem dJ2_getChar_3b067_29 : decode cJ2_getChar_3b067 29 = .ok (.iconst 1, 1) := by decide +kernel
theorem dJ2_getChar_3b067_30 : decode cJ2_getChar_3b067 30 = .ok (.ishl, 1) := by decide +kernel
theorem dJ2_getChar_3b067_31 : decode cJ2_getChar_3b067 31 = .ok (.istore_n 1, 1) := by decide +kernel
theorem dJ2_getChar_3b067_32 : decode cJ2_getChar_3b067 32 = .ok (.aload_n 0, 1) := by decide +kernel
theorem dJ2_getChar_3b067_33 : decode cJ2_getChar_3b067 33 = .ok (.iload_n 1, 1) := by decide +kernel
theorem dJ2_getChar_3b067_34 : decode cJ2_getChar_3b067 34 = .ok (.iinc 1 1, 3) := by decide +kernel
theorem dJ2_getChar_3b067_37 : decode cJ2_getChar_3b067 37 = .ok (.baload, 1) := by decide +kernel
theorem dJ2_getChar_3b067_38 : decode cJ2_getChar_3b067 38 = .ok (.sipush 255, 3) := by decide +kernel
theorem dJ2_getChar_3b067_41 : decode cJ2_getChar_3b067 41 = .ok (.iand, 1) := by decide +kernel
theorem dJ2_getChar_3b067_42 : decode cJ2_getChar_3b067 42 = .ok (.getstatic 59, 3) := by decide +kernel
theorem dJ2_getChar_3b067_45 : decode cJ2_getChar_3b067 45 = .ok (.ishl, 1) := by decide +kernel
theorem dJ2_getChar_3b067_46 : decode cJ2_getChar_3b067 46 = .ok (.aload_n 0, 1) := by decide +kernel
theorem dJ2_getChar_3b067_47 : decode cJ2_getChar_3b067 47 = .ok (.iload_n 1, 1) := by decide +kernel
theorem dJ2_getChar_3b067_48 : decode cJ2_getChar_3b067 48 = .ok (.baload, 1) := by decide +kernel
theorem dJ2_getChar_3b067_49 : decode cJ2_getChar_3b067 49 = .ok (.sipush 255, 3) := by decide +kernel
theorem dJ2_getChar_3b067_52 : decode cJ2_getChar_3b067 52 = .ok (.iand, 1) := by decide +kernel
theorem dJ2_getChar_3b067_53 : decode cJ2_getChar_3b067 53 = .ok (.getstatic 63, 3) := by decide +kernel
theorem dJ2_getChar_3b067_56 : decode cJ2_getChar_3b067 56 = .ok (.ishl, 1) := by decide +kernel
theorem dJ2_getChar_3b067_57 : decode cJ2_getChar_3b067 57 = .ok (.ior, 1) := by decide +kernel
theorem dJ2_getChar_3b067_58 : decode cJ2_getChar_3b067 58 = .ok (.i2c, 1) := by decide +kernel
theorem dJ2_getChar_3b067_59 : decode cJ2_getChar_3b067 59 = .ok (.ireturn, 1) := by decide +kernel
theorem dJ2_length_9d52b_0 : decode cJ2_length_9d52b 0 = .ok (.aload_n 0, 1) := by decide +kernel
theorem dJ2_length_9d52b_1 : decode cJ2_length_9d52b 1 = .ok (.arraylength, 1) := by decide +kernel
theorem dJ2_length_9d52b_2 : decode cJ2_length_9d52b 2 = .ok (.iconst 1, 1) := by decide +kernel
theorem dJ2_length_9d52b_3 : decode cJ2_length_9d52b 3 = .ok (.ishr, 1) := by decide +kernel
theorem dJ2_length_9d52b_4 : decode cJ2_length_9d52b 4 = .ok (.ireturn, 1) := by decide +kernel
set_option maxRecDepth 20000 in
theorem ggJ2_charAt_3b067_J2_checkIndex_2214a : GoodIn wsJ2_charAt_3b067 wsJ2_checkIndex_2214a := goodIn_r _ [4, 5, 6, 3, 7, 8, 9, 10, 11, 12, 13, 14, 15, 16] (by decide +kernel) (by decide +kernel)
set_option maxRecDepth 20000 in
theorem gJ2_charAt_3b067_J2_checkIndex_2214a : GoodIn wsJ2_charAt_3b067 (va_wsS RJ2 67 yJ2_checkIndex_2214a wsJ2_checkIndex_2214a) := goodIn_app (goodIn_of _ (by decide +kernel)) ggJ2_charAt_3b067_J2_checkIndex_2214a
set_option maxRecDepth 20000 in
theorem ggJ2_charAt_3b067_J2_getChar_3b067 : GoodIn wsJ2_charAt_3b067 wsJ2_getChar_3b067 := goodIn_r _ [19, 20, 21, 22, 5, 6, 3, 7] (by decide +kernel) (by decide +kernel)
set_option maxRecDepth 20000 in
theorem gJ2_charAt_3b067_J2_getChar_3b067 : GoodIn wsJ2_charAt_3b067 (va_wsS RJ2 71 yJ2_getChar_3b067 wsJ2_getChar_3b067) := goodIn_app (goodIn_of _ (by decide +kernel)) ggJ2_charAt_3b067_J2_getChar_3b067
theorem dJ2_charAt_3b067_0 : decode cJ2_charAt_3b067 0 = .ok (.iload_n 1, 1) := by decide +kernel
theorem dJ2_charAt_3b067_1 : decode cJ2_charAt_3b067 1 = .ok (.aload_n 0, 1) := by decide +kernel
theorem dJ2_charAt_3b067_2 : decode cJ2_charAt_3b067 2 = .ok (.invokestatic 67, 3) := by decide +kernel
theorem dJ2_charAt_3b067_5 : decode cJ2_charAt_3b067 5 = .ok (.aload_n 0, 1) := by decide +kernel
theorem dJ2_charAt_3b067_6 : decode cJ2_charAt_3b067 6 = .ok (.iload_n 1, 1) := by decide +kernel
theorem dJ2_charAt_3b067_7 : decode cJ2_charAt_3b067 7 = .ok (.invokestatic 71, 3) := by decide +kernel
theorem dJ2_charAt_3b067_10 : decode cJ2_charAt_3b067 10 = .ok (.ireturn, 1) := by decide +kernel
set_option maxRecDepth 20000 in
theorem ggJ2_checkIndex_2214a_J2_length_9d52b : GoodIn wsJ2_checkIndex_2214a wsJ2_length_9d52b := goodIn_r _ [4] (by decide +kernel) (by decide +kernel)
set_option maxRecDepth 20000 in
theorem gJ2_checkIndex_2214a_J2_length_9d52b : GoodIn wsJ2_checkIndex_2214a (va_wsS RJ2 48 yJ2_length_9d52b wsJ2_length_9d52b) := goodIn_app (goodIn_of _ (by decide +kernel)) ggJ2_checkIndex_2214a_J2_length_9d52b
set_option maxRecDepth 20000 in
theorem ggJ2_checkIndex_2214a_J0_checkIndex_df160 : GoodIn wsJ2_checkIndex_2214a wsJ0_checkIndex_df160 := goodIn_r _ [8, 9, 10, 11, 12, 13] (by decide +kernel) (by decide +kernel)
set_option maxRecDepth 20000 in
theorem gJ2_checkIndex_2214a_J0_checkIndex_df160 : GoodIn wsJ2_checkIndex_2214a (va_wsS RJ2 414 yJ0_checkIndex_df160 wsJ0_checkIndex_df160) := goodIn_app (goodIn_of _ (by decide +kernel)) ggJ2_checkIndex_2214a_J0_checkIndex_df160
theorem dJ2_checkIndex_2214a_0 : decode cJ2_checkIndex_2214a 0 = .ok (.iload_n 0, 1) := by decide +kernel
theorem dJ2_checkIndex_2214a_1 : decode cJ2_checkIndex_2214a 1 = .ok (.aload_n 1, 1) := by decide +kernel
theorem dJ2_checkIndex_2214a_2 : decode cJ2_checkIndex_2214a 2 = .ok (.invokestatic 48, 3) := by decide +kernel
theorem dJ2_checkIndex_2214a_5 : decode cJ2_checkIndex_2214a 5 = .ok (.invokestatic 414, 3) := by decide +kernel
theorem dJ2_checkIndex_2214a_8 : decode cJ2_checkIndex_2214a 8 = .ok (.return_, 1) := by decide +kernel
theorem dJ3_checkIndex_8e157_0 : decode cJ3_checkIndex_8e157 0 = .ok (.iload_n 0, 1) := by decide +kernel
theorem dJ3_checkIndex_8e157_1 : decode cJ3_checkIndex_8e157 1 = .ok (.ifCond .lt 8, 3) := by decide +kernel
theorem dJ3_checkIndex_8e157_4 : decode cJ3_checkIndex_8e157 4 = .ok (.iload_n 0, 1) := by decide +kernel
theorem dJ3_checkIndex_8e157_5 : decode cJ3_checkIndex_8e157 5 = .ok (.iload_n 1, 1) := by decide +kernel
theorem dJ3_checkIndex_8e157_6 : decode cJ3_checkIndex_8e157 6 = .ok (.if_icmp .lt 10, 3) := by decide +kernel
theorem dJ3_checkIndex_8e157_9 : decode cJ3_checkIndex_8e157 9 = .ok (.aload_n 2, 1) := by decide +kernel
theorem dJ3_checkIndex_8e157_10 : decode cJ3_checkIndex_8e157 10 = .ok (.iload_n 0, 1) := by decide +kernel
theorem dJ3_checkIndex_8e157_11 : decode cJ3_checkIndex_8e157 11 = .ok (.iload_n 1, 1) := by decide +kernel
theorem dJ3_checkIndex_8e157_12 : decode cJ3_checkIndex_8e157 12 = .ok (.invokestatic 95, 3) := by decide +kernel
theorem dJ3_checkIndex_8e157_15 : decode cJ3_checkIndex_8e157 15 = .ok (.athrow, 1) := by decide +kernel
theorem dJ3_checkIndex_8e157_16 : decode cJ3_checkIndex_8e157 16 = .ok (.iload_n 0, 1) := by decide +kernel
theorem dJ3_checkIndex_8e157_17 : decode cJ3_checkIndex_8e157 17 = .ok (.ireturn, 1) := by decide +kernel
set_option maxRecDepth 20000 in
theorem ggL_upland_X11_upland : GoodIn wsL_upland wsX11_upland := goodIn_ca (goodIn_r _ [6, 7, 8, 9, 10, 11, 12, 13, 14, 15, 16, 17, 18, 19, 20, 21, 22, 23, 24, 25, 26, 27, 28, 29, 30, 31, 32, 33, 34, 35, 36, 37, 38, 39, 40, 41, 42, 43, 44, 45, 46, 47, 48, 49, 50, 51, 52, 53, 54, 55, 56, 57, 58, 59, 60, 61, 62, 63, 64, 65, 66, 67, 68, 69, 70, 71, 72, 73, 74, 75, 76, 77, 78, 79, 80, 81, 82, 83, 84, 85, 86, 87, 88, 89, 90, 91, 92, 93, 94, 95, 96, 97, 98, 99, 100, 101, 102, 103, 104, 105, 106, 107, 108, 109, 110, 111, 112, 113, 114, 115, 116, 117, 118, 119, 120, 121, 122, 123, 124, 125, 126, 127, 128, 129, 130, 131, 132, 133, 134, 135, 136, 137, 138, 139, 140, 141, 142, 143, 144, 145, 146, 147, 148, 149, 150, 151, 152, 153, 154, 155, 156, 157, 158, 159, 160, 161, 162, 163, 164, 165, 166, 167, 168, 169, 170, 171, 172, 173, 174, 175, 176, 177, 178, 179, 180, 181, 182, 183, 184, 185, 186, 187, 188, 189, 190, 191, 192, 193, 194, 195, 196, 197, 198, 199, 200, 201, 202, 203, 204, 205, 206, 207, 208, 209, 210, 211, 212, 213, 214, 215, 216, 217, 218, 219, 220, 221, 222, 223, 224, 225, 226, 227, 228, 229, 230, 231, 232, 233, 234, 235, 236, 237, 238, 239, 240, 241, 242, 243, 244, 245, 246, 247, 248, 249, 250, 251, 252, 253, 254, 255, 256, 257, 258, 259, 260, 261, 262, 263, 264, 265, 266, 267, 268, 269, 270, 271, 5, 272, 273, 274, 275, 276, 277, 278, 279, 280, 281, 282, 283, 284, 285, 286, 287, 288, 289, 290, 291, 292, 293, 294, 295, 296, 297, 298, 299, 300, 301, 302, 303, 304, 305, 306, 307, 308, 309, 310, 311, 312, 313, 314, 315, 316, 317, 318, 319, 320, 321, 322, 323, 324, 325, 326, 327, 328, 329, 330, 331, 332, 333, 334, 335, 336, 337, 338, 339, 340, 341, 342, 343, 344, 345, 346, 347, 348, 349, 350, 351, 352, 353, 354, 355, 356, 357, 358, 359, 360, 361, 362, 363, 364, 365, 366, 367, 368, 369, 370, 371, 372, 373, 374, 375, 376, 377, 378, 379, 380, 381, 382, 383, 384, 385, 386, 387, 388, 389, 390, 391, 392, 393, 394, 395, 396, 397, 398, 399, 400, 401, 402] (by decide +kernel) (by decide +kernel)) (goodIn_sub (fun _ h => List.mem_cons_of_mem _ (List.mem_append_right _ h)) (by decide +kernel))
set_option maxRecDepth 20000 in
theorem gL_upland_X11_upland : GoodIn wsL_upland (wsV RL 7 RX11 yX11_upland wsX11_upland) := goodIn_app (goodIn_of _ (by decide +kernel)) ggL_upland_X11_upland
theorem dL_upland_0 : decode cL_upland 0 = .ok (.aload_n 2, 1) := by decide +kernel
theorem dL_upland_1 : decode cL_upland 1 = .ok (.iconst 0, 1) := by decide +kernel
theorem dL_upland_2 : decode cL_upland 2 = .ok (.aload_n 0, 1) := by decide +kernel
theorem dL_upland_3 : decode cL_upland 3 = .ok (.iload_n 1, 1) := by decide +kernel
theorem dL_upland_4 : decode cL_upland 4 = .ok (.invokevirtual 7, 3) := by decide +kernel
theorem dL_upland_7 : decode cL_upland 7 = .ok (.i2l, 1) := by decide +kernel
theorem dL_upland_8 : decode cL_upland 8 = .ok (.lastore, 1) := by decide +kernel
theorem dL_upland_9 : decode cL_upland 9 = .ok (.goto 6, 3) := by decide +kernel
theorem dL_upland_12 : decode cL_upland 12 = .ok (.astore_n 3, 1) := by decide +kernel
theorem dL_upland_13 : decode cL_upland 13 = .ok (.iconst 1, 1) := by decide +kernel
theorem dL_upland_14 : decode cL_upland 14 = .ok (.ireturn, 1) := by decide +kernel
theorem dL_upland_15 : decode cL_upland 15 = .ok (.iconst 0, 1) := by decide +kernel
theorem dL_upland_16 : decode cL_upland 16 = .ok (.ireturn, 1) := by decide +kernel
set_option maxRecDepth 20000 in
theorem ggL_count_X11_count : GoodIn wsL_count wsX11_count := goodIn_ca (goodIn_r _ [6, 7, 8, 9, 10, 11, 12, 13, 14, 15, 16, 17, 18, 19, 20, 21, 22, 23, 24, 25, 5, 26, 27, 28, 29, 30, 31, 32, 33, 34, 35, 36, 37, 38, 39, 40, 41, 42, 43, 44, 45, 46, 47, 48, 49, 50, 51, 52, 53, 54, 55, 56, 57, 58, 59, 60, 61, 62, 63, 64, 65, 66, 67, 68, 69, 70, 71, 72, 73, 74, 75, 76, 77, 78, 79, 80, 81, 82, 83, 84, 85, 86, 87, 88, 89, 90, 91, 92, 93, 94, 95, 96, 97, 98, 99, 100, 101, 102, 103, 104, 105, 106, 107, 108, 109, 110, 111, 112, 113, 114, 115, 116, 117, 118, 119, 120, 121, 122, 123, 124, 125, 126, 127, 128, 129, 130, 131, 132, 133, 134, 135, 136, 137, 138, 139, 140, 141, 142, 143, 144, 145, 146] (by decide +kernel) (by decide +kernel)) (goodIn_sub (fun _ h => List.mem_cons_of_mem _ (List.mem_append_right _ h)) (by decide +kernel))
set_option maxRecDepth 20000 in
theorem gL_count_X11_count : GoodIn wsL_count (wsV RL 15 RX11 yX11_count wsX11_count) := goodIn_app (goodIn_of _ (by decide +kernel)) ggL_count_X11_count
theorem dL_count_0 : decode cL_count 0 = .ok (.aload_n 2, 1) := by decide +kernel
theorem dL_count_1 : decode cL_count 1 = .ok (.iconst 0, 1) := by decide +kernel
theorem dL_count_2 : decode cL_count 2 = .ok (.aload_n 0, 1) := by decide +kernel
theorem dL_count_3 : decode cL_count 3 = .ok (.iload_n 1, 1) := by decide +kernel
theorem dL_count_4 : decode cL_count 4 = .ok (.invokevirtual 15, 3) := by decide +kernel
theorem dL_count_7 : decode cL_count 7 = .ok (.i2l, 1) := by decide +kernel
theorem dL_count_8 : decode cL_count 8 = .ok (.lastore, 1) := by decide +kernel
theorem dL_count_9 : decode cL_count 9 = .ok (.goto 6, 3) := by decide +kernel
theorem dL_count_12 : decode cL_count 12 = .ok (.astore_n 3, 1) := by decide +kernel
theorem dL_count_13 : decode cL_count 13 = .ok (.iconst 1, 1) := by decide +kernel
theorem dL_count_14 : decode cL_count 14 = .ok (.ireturn, 1) := by decide +kernel
theorem dL_count_15 : decode cL_count 15 = .ok (.iconst 0, 1) := by decide +kernel
theorem dL_count_16 : decode cL_count 16 = .ok (.ireturn, 1) := by decide +kernel
set_option maxRecDepth 20000 in
theorem ggL_farm_X11_farm : GoodIn wsL_farm wsX11_farm := goodIn_ca (goodIn_r _ [6, 7, 8, 9, 10, 11, 12, 13, 14, 15, 16, 17, 18, 19, 20, 21, 22, 23, 24, 5, 25, 26, 27, 28, 29, 30, 31, 32, 33, 34, 35, 36, 37, 38, 39, 40, 41, 42, 43, 44, 45, 46, 47, 48, 49, 50, 51, 52, 53, 54, 55, 56, 57, 58, 59, 60, 61, 62, 63, 64, 65, 66, 67, 68, 69, 70, 71, 72, 73, 74, 75, 76, 77, 78, 79, 80, 81] (by decide +kernel) (by decide +kernel)) (goodIn_sub (fun _ h => List.mem_cons_of_mem _ (List.mem_append_right _ h)) (by decide +kernel))
set_option maxRecDepth 20000 in
theorem gL_farm_X11_farm : GoodIn wsL_farm (wsV RL 20 RX11 yX11_farm wsX11_farm) := goodIn_app (goodIn_of _ (by decide +kernel)) ggL_farm_X11_farm
theorem dL_farm_0 : decode cL_farm 0 = .ok (.aload_n 3, 1) := by decide +kernel
theorem dL_farm_1 : decode cL_farm 1 = .ok (.iconst 0, 1) := by decide +kernel
theorem dL_farm_2 : decode cL_farm 2 = .ok (.aload_n 0, 1) := by decide +kernel
theorem dL_farm_3 : decode cL_farm 3 = .ok (.iload_n 1, 1) := by decide +kernel
theorem dL_farm_4 : decode cL_farm 4 = .ok (.iload_n 2, 1) := by decide +kernel
theorem dL_farm_5 : decode cL_farm 5 = .ok (.invokevirtual 20, 3) := by decide +kernel
theorem dL_farm_8 : decode cL_farm 8 = .ok (.i2l, 1) := by decide +kernel
theorem dL_farm_9 : decode cL_farm 9 = .ok (.lastore, 1) := by decide +kernel
theorem dL_farm_10 : decode cL_farm 10 = .ok (.goto 7, 3) := by decide +kernel
theorem dL_farm_13 : decode cL_farm 13 = .ok (.astore 4, 2) := by decide +kernel
theorem dL_farm_15 : decode cL_farm 15 = .ok (.iconst 1, 1) := by decide +kernel
theorem dL_farm_16 : decode cL_farm 16 = .ok (.ireturn, 1) := by decide +kernel
theorem dL_farm_17 : decode cL_farm 17 = .ok (.iconst 0, 1) := by decide +kernel
theorem dL_farm_18 : decode cL_farm 18 = .ok (.ireturn, 1) := by decide +kernel
set_option maxRecDepth 20000 in
theorem ggL_begin_X11_begin : GoodIn wsL_begin wsX11_begin := goodIn_ca (goodIn_r _ [6, 7, 8, 9, 10, 11, 12, 5, 13, 14, 15, 16, 17, 18, 19, 20, 21, 22, 23, 24, 25, 26, 27, 28, 29, 30, 31, 32, 33, 34, 35, 36, 37, 38, 39, 40, 41, 42, 43, 44, 45, 46, 47, 48, 49, 50, 51, 52, 53, 54, 55, 56, 57, 58, 59, 60, 61, 62, 63, 64, 65, 66, 67, 68, 69, 70, 71, 72, 73, 74, 75, 76, 77, 78, 79, 80, 81, 82, 83, 84, 85, 86, 87, 88, 89, 90, 91] (by decide +kernel) (by decide +kernel)) (goodIn_sub (fun _ h => List.mem_cons_of_mem _ (List.mem_append_right _ h)) (by decide +kernel))
set_option maxRecDepth 20000 in
theorem gL_begin_X11_begin : GoodIn wsL_begin (wsV RL 24 RX11 yX11_begin wsX11_begin) := goodIn_app (goodIn_of _ (by decide +kernel)) ggL_begin_X11_begin
theorem dL_begin_0 : decode cL_begin 0 = .ok (.aload_n 2, 1) := by decide +kernel
theorem dL_begin_1 : decode cL_begin 1 = .ok (.iconst 0, 1) := by decide +kernel
theorem dL_begin_2 : decode cL_begin 2 = .ok (.aload_n 0, 1) := by decide +kernel
theorem dL_begin_3 : decode cL_begin 3 = .ok (.iload_n 1, 1) := by decide +kernel
theorem dL_begin_4 : decode cL_begin 4 = .ok (.invokevirtual 24, 3) := by decide +kernel
theorem dL_begin_7 : decode cL_begin 7 = .ok (.ifCond .eq 7, 3) := by decide +kernel
theorem dL_begin_10 : decode cL_begin 10 = .ok (.lconst 1, 1) := by decide +kernel
theorem dL_begin_11 : decode cL_begin 11 = .ok (.goto 4, 3) := by decide +kernel
theorem dL_begin_14 : decode cL_begin 14 = .ok (.lconst 0, 1) := by decide +kernel
theorem dL_begin_15 : decode cL_begin 15 = .ok (.lastore, 1) := by decide +kernel
theorem dL_begin_16 : decode cL_begin 16 = .ok (.goto 6, 3) := by decide +kernel
theorem dL_begin_19 : decode cL_begin 19 = .ok (.astore_n 3, 1) := by decide +kernel
theorem dL_begin_20 : decode cL_begin 20 = .ok (.iconst 1, 1) := by decide +kernel
theorem dL_begin_21 : decode cL_begin 21 = .ok (.ireturn, 1) := by decide +kernel
theorem dL_begin_22 : decode cL_begin 22 = .ok (.iconst 0, 1) := by decide +kernel
theorem dL_begin_23 : decode cL_begin 23 = .ok (.ireturn, 1) := by decide +kernel
set_option maxRecDepth 20000 in
theorem ggL_sleep_X11_sleep : GoodIn wsL_sleep wsX11_sleep := goodIn_ca (goodIn_r _ [6, 7, 8, 9, 10, 11, 12, 5, 13, 14, 15, 16, 17, 18, 19, 20, 21, 22, 23, 24, 25, 26, 27, 28, 29, 30, 31, 32, 33, 34, 35, 36, 37, 38, 39, 40, 41, 42, 43, 44, 45, 46, 47, 48, 49, 50, 51, 52, 53, 54, 55, 56, 57, 58, 59, 60, 61, 62, 63, 64, 65, 66, 67, 68, 69, 70, 71, 72, 73, 74, 75, 76, 77, 78, 79, 80, 81, 82, 83, 84, 85, 86, 87, 88, 89, 90] (by decide +kernel) (by decide +kernel)) (goodIn_sub (fun _ h => List.mem_cons_of_mem _ (List.mem_append_right _ h)) (by decide +kernel))
set_option maxRecDepth 20000 in
theorem gL_sleep_X11_sleep : GoodIn wsL_sleep (wsV RL 28 RX11 yX11_sleep wsX11_sleep) := goodIn_app (goodIn_of _ (by decide +kernel)) ggL_sleep_X11_sleep
theorem dL_sleep_0 : decode cL_sleep 0 = .ok (.aload_n 3, 1) := by decide +kernel
theorem dL_sleep_1 : decode cL_sleep 1 = .ok (.iconst 0, 1) := by decide +kernel
theorem dL_sleep_2 : decode cL_sleep 2 = .ok (.aload_n 0, 1) := by decide +kernel
theorem dL_sleep_3 : decode cL_sleep 3 = .ok (.iload_n 1, 1) := by decide +kernel
theorem dL_sleep_4 : decode cL_sleep 4 = .ok (.iload_n 2, 1) := by decide +kernel
theorem dL_sleep_5 : decode cL_sleep 5 = .ok (.invokevirtual 28, 3) := by decide +kernel
theorem dL_sleep_8 : decode cL_sleep 8 = .ok (.ifCond .eq 7, 3) := by decide +kernel
theorem dL_sleep_11 : decode cL_sleep 11 = .ok (.lconst 1, 1) := by decide +kernel
theorem dL_sleep_12 : decode cL_sleep 12 = .ok (.goto 4, 3) := by decide +kernel
theorem dL_sleep_15 : decode cL_sleep 15 = .ok (.lconst 0, 1) := by decide +kernel
theorem dL_sleep_16 : decode cL_sleep 16 = .ok (.lastore, 1) := by decide +kernel
theorem dL_sleep_17 : decode cL_sleep 17 = .ok (.goto 7, 3) := by decide +kernel
theorem dL_sleep_20 : decode cL_sleep 20 = .ok (.astore 4, 2) := by decide +kernel
theorem dL_sleep_22 : decode cL_sleep 22 = .ok (.iconst 1, 1) := by decide +kernel
theorem dL_sleep_23 : decode cL_sleep 23 = .ok (.ireturn, 1) := by decide +kernel
theorem dL_sleep_24 : decode cL_sleep 24 = .ok (.iconst 0, 1) := by decide +kernel
theorem dL_sleep_25 : decode cL_sleep 25 = .ok (.ireturn, 1) := by decide +kernel
set_option maxRecDepth 20000 in
theorem ggL_hat_X11_hat : GoodIn wsL_hat wsX11_hat := goodIn_ca (goodIn_r _ [6, 7, 8, 9, 10, 11, 12, 13, 14, 5, 15, 16, 17, 18, 19, 20, 21, 22, 23, 24, 25, 26, 27, 28, 29, 30, 31, 32, 33, 34, 35, 36, 37, 38, 39, 40, 41, 42, 43, 44, 45, 46, 47, 48, 49, 50, 51, 52, 53, 54, 55, 56, 57, 58, 59, 60, 61, 62, 63, 64, 65, 66, 67, 68, 69, 70, 71, 72, 73, 74, 75, 76, 77, 78, 79, 80, 81, 82, 83, 84, 85, 86, 87, 88, 89, 90, 91, 92, 93, 94, 95, 96, 97, 98, 99, 100, 101, 102, 103, 104, 105, 106, 107, 108, 109, 110, 111, 112, 113, 114, 115, 116, 117, 118, 119, 120, 121, 122, 123, 124] (by decide +kernel) (by decide +kernel)) (goodIn_sub (fun _ h => List.mem_cons_of_mem _ (List.mem_append_right _ h)) (by decide +kernel))
set_option maxRecDepth 20000 in
theorem gL_hat_X11_hat : GoodIn wsL_hat (wsV RL 32 RX11 yX11_hat wsX11_hat) := goodIn_app (goodIn_of _ (by decide +kernel)) ggL_hat_X11_hat
theorem dL_hat_0 : decode cL_hat 0 = .ok (.aload_n 3, 1) := by decide +kernel
theorem dL_hat_1 : decode cL_hat 1 = .ok (.iconst 0, 1) := by decide +kernel
theorem dL_hat_2 : decode cL_hat 2 = .ok (.aload_n 0, 1) := by decide +kernel
theorem dL_hat_3 : decode cL_hat 3 = .ok (.iload_n 1, 1) := by decide +kernel
theorem dL_hat_4 : decode cL_hat 4 = .ok (.iload_n 2, 1) := by decide +kernel
theorem dL_hat_5 : decode cL_hat 5 = .ok (.invokevirtual 32, 3) := by decide +kernel
theorem dL_hat_8 : decode cL_hat 8 = .ok (.i2l, 1) := by decide +kernel
theorem dL_hat_9 : decode cL_hat 9 = .ok (.lastore, 1) := by decide +kernel
theorem dL_hat_10 : decode cL_hat 10 = .ok (.goto 7, 3) := by decide +kernel
theorem dL_hat_13 : decode cL_hat 13 = .ok (.astore 4, 2) := by decide +kernel
