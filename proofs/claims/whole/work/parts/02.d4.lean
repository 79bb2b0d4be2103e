theorem dX12_reckon_78 : decode cX12_reckon 78 = .ok (.ireturn, 1) := by decide +kernel
theorem dX12_reckon_79 : decode cX12_reckon 79 = .ok (.iload_n 1, 1) := by decide +kernel
theorem dX12_reckon_80 : decode cX12_reckon 80 = .ok (.iload_n 2, 1) := by decide +kernel
theorem dX12_reckon_81 : decode cX12_reckon 81 = .ok (.if_icmp .ne 7, 3) := by decide +kernel
theorem dX12_reckon_84 : decode cX12_reckon 84 = .ok (.iconst 1, 1) := by decide +kernel
theorem dX12_reckon_85 : decode cX12_reckon 85 = .ok (.goto 4, 3) := by decide +kernel
theorem dX12_reckon_88 : decode cX12_reckon 88 = .ok (.iconst 0, 1) := by decide +kernel
theorem dX12_reckon_89 : decode cX12_reckon 89 = .ok (.ireturn, 1) := by decide +kernel
theorem dX12_reckon_90 : decode cX12_reckon 90 = .ok (.iload_n 1, 1) := by decide +kernel
theorem dX12_reckon_91 : decode cX12_reckon 91 = .ok (.ifCond .eq 11, 3) := by decide +kernel
theorem dX12_reckon_94 : decode cX12_reckon 94 = .ok (.iload_n 2, 1) := by decide +kernel
theorem dX12_reckon_95 : decode cX12_reckon 95 = .ok (.ifCond .eq 7, 3) := by decide +kernel
theorem dX12_reckon_98 : decode cX12_reckon 98 = .ok (.iconst 1, 1) := by decide +kernel
theorem dX12_reckon_99 : decode cX12_reckon 99 = .ok (.goto 4, 3) := by decide +kernel
theorem dX12_reckon_102 : decode cX12_reckon 102 = .ok (.iconst 0, 1) := by decide +kernel
theorem dX12_reckon_103 : decode cX12_reckon 103 = .ok (.ireturn, 1) := by decide +kernel
theorem dX12_reckon_104 : decode cX12_reckon 104 = .ok (.iload_n 1, 1) := by decide +kernel
theorem dX12_reckon_105 : decode cX12_reckon 105 = .ok (.ifCond .ne 7, 3) := by decide +kernel
theorem dX12_reckon_108 : decode cX12_reckon 108 = .ok (.iload_n 2, 1) := by decide +kernel
theorem dX12_reckon_109 : decode cX12_reckon 109 = .ok (.ifCond .eq 7, 3) := by decide +kernel
theorem dX12_reckon_112 : decode cX12_reckon 112 = .ok (.iconst 1, 1) := by decide +kernel
theorem dX12_reckon_113 : decode cX12_reckon 113 = .ok (.goto 4, 3) := by decide +kernel
theorem dX12_reckon_116 : decode cX12_reckon 116 = .ok (.iconst 0, 1) := by decide +kernel
theorem dX12_reckon_117 : decode cX12_reckon 117 = .ok (.ireturn, 1) := by decide +kernel
set_option maxRecDepth 20000 in
theorem ggX12_valueNow_X12_reckon : GoodIn wsX12_valueNow wsX12_reckon := goodIn_r _ [8] (by decide +kernel) (by decide +kernel)
set_option maxRecDepth 20000 in
theorem gX12_valueNow_X12_reckon : GoodIn wsX12_valueNow (va_wsS RX12 328 yX12_reckon wsX12_reckon) := goodIn_app (goodIn_of _ (by decide +kernel)) ggX12_valueNow_X12_reckon
theorem dX12_valueNow_0 : decode cX12_valueNow 0 = .ok (.iconst 0, 1) := by decide +kernel
theorem dX12_valueNow_1 : decode cX12_valueNow 1 = .ok (.istore_n 1, 1) := by decide +kernel
theorem dX12_valueNow_2 : decode cX12_valueNow 2 = .ok (.iconst 0, 1) := by decide +kernel
theorem dX12_valueNow_3 : decode cX12_valueNow 3 = .ok (.istore_n 2, 1) := by decide +kernel
theorem dX12_valueNow_4 : decode cX12_valueNow 4 = .ok (.iload_n 2, 1) := by decide +kernel
theorem dX12_valueNow_5 : decode cX12_valueNow 5 = .ok (.aload_n 0, 1) := by decide +kernel
theorem dX12_valueNow_6 : decode cX12_valueNow 6 = .ok (.getfield 34, 3) := by decide +kernel
theorem dX12_valueNow_9 : decode cX12_valueNow 9 = .ok (.iconst 4, 1) := by decide +kernel
theorem dX12_valueNow_10 : decode cX12_valueNow 10 = .ok (.iaload, 1) := by decide +kernel
theorem dX12_valueNow_11 : decode cX12_valueNow 11 = .ok (.if_icmp .ge 112, 3) := by decide +kernel
theorem dX12_valueNow_14 : decode cX12_valueNow 14 = .ok (.aload_n 0, 1) := by decide +kernel
theorem dX12_valueNow_15 : decode cX12_valueNow 15 = .ok (.getfield 56, 3) := by decide +kernel
theorem dX12_valueNow_18 : decode cX12_valueNow 18 = .ok (.iload_n 2, 1) := by decide +kernel
theorem dX12_valueNow_19 : decode cX12_valueNow 19 = .ok (.iaload, 1) := by decide +kernel
theorem dX12_valueNow_20 : decode cX12_valueNow 20 = .ok (.istore_n 3, 1) := by decide +kernel
theorem dX12_valueNow_21 : decode cX12_valueNow 21 = .ok (.iload_n 3, 1) := by decide +kernel
theorem dX12_valueNow_22 : decode cX12_valueNow 22 = .ok (.bipush (-20), 2) := by decide +kernel
theorem dX12_valueNow_24 : decode cX12_valueNow 24 = .ok (.if_icmp .le 31, 3) := by decide +kernel
theorem dX12_valueNow_27 : decode cX12_valueNow 27 = .ok (.aload_n 0, 1) := by decide +kernel
theorem dX12_valueNow_28 : decode cX12_valueNow 28 = .ok (.getfield 90, 3) := by decide +kernel
theorem dX12_valueNow_31 : decode cX12_valueNow 31 = .ok (.iload_n 1, 1) := by decide +kernel
theorem dX12_valueNow_32 : decode cX12_valueNow 32 = .ok (.iload_n 3, 1) := by decide +kernel
theorem dX12_valueNow_33 : decode cX12_valueNow 33 = .ok (.ifCond .lt 7, 3) := by decide +kernel
theorem dX12_valueNow_36 : decode cX12_valueNow 36 = .ok (.iload_n 3, 1) := by decide +kernel
theorem dX12_valueNow_37 : decode cX12_valueNow 37 = .ok (.goto 11, 3) := by decide +kernel
theorem dX12_valueNow_40 : decode cX12_valueNow 40 = .ok (.aload_n 0, 1) := by decide +kernel
theorem dX12_valueNow_41 : decode cX12_valueNow 41 = .ok (.getfield 87, 3) := by decide +kernel
theorem dX12_valueNow_44 : decode cX12_valueNow 44 = .ok (.iconst (-1), 1) := by decide +kernel
theorem dX12_valueNow_45 : decode cX12_valueNow 45 = .ok (.iload_n 3, 1) := by decide +kernel
theorem dX12_valueNow_46 : decode cX12_valueNow 46 = .ok (.isub, 1) := by decide +kernel
theorem dX12_valueNow_47 : decode cX12_valueNow 47 = .ok (.iaload, 1) := by decide +kernel
theorem dX12_valueNow_48 : decode cX12_valueNow 48 = .ok (.iastore, 1) := by decide +kernel
theorem dX12_valueNow_49 : decode cX12_valueNow 49 = .ok (.iinc 1 1, 3) := by decide +kernel
theorem dX12_valueNow_52 : decode cX12_valueNow 52 = .ok (.goto 65, 3) := by decide +kernel
theorem dX12_valueNow_55 : decode cX12_valueNow 55 = .ok (.iload_n 3, 1) := by decide +kernel
theorem dX12_valueNow_56 : decode cX12_valueNow 56 = .ok (.bipush (-28), 2) := by decide +kernel
theorem dX12_valueNow_58 : decode cX12_valueNow 58 = .ok (.if_icmp .ne 30, 3) := by decide +kernel
theorem dX12_valueNow_61 : decode cX12_valueNow 61 = .ok (.aload_n 0, 1) := by decide +kernel
theorem dX12_valueNow_62 : decode cX12_valueNow 62 = .ok (.getfield 90, 3) := by decide +kernel
theorem dX12_valueNow_65 : decode cX12_valueNow 65 = .ok (.iload_n 1, 1) := by decide +kernel
theorem dX12_valueNow_66 : decode cX12_valueNow 66 = .ok (.iconst 1, 1) := by decide +kernel
theorem dX12_valueNow_67 : decode cX12_valueNow 67 = .ok (.isub, 1) := by decide +kernel
theorem dX12_valueNow_68 : decode cX12_valueNow 68 = .ok (.aload_n 0, 1) := by decide +kernel
theorem dX12_valueNow_69 : decode cX12_valueNow 69 = .ok (.getfield 90, 3) := by decide +kernel
theorem dX12_valueNow_72 : decode cX12_valueNow 72 = .ok (.iload_n 1, 1) := by decide +kernel
theorem dX12_valueNow_73 : decode cX12_valueNow 73 = .ok (.iconst 1, 1) := by decide +kernel
theorem dX12_valueNow_74 : decode cX12_valueNow 74 = .ok (.isub, 1) := by decide +kernel
theorem dX12_valueNow_75 : decode cX12_valueNow 75 = .ok (.iaload, 1) := by decide +kernel
theorem dX12_valueNow_76 : decode cX12_valueNow 76 = .ok (.ifCond .eq 7, 3) := by decide +kernel
theorem dX12_valueNow_79 : decode cX12_valueNow 79 = .ok (.iconst 0, 1) := by decide +kernel
theorem dX12_valueNow_80 : decode cX12_valueNow 80 = .ok (.goto 4, 3) := by decide +kernel
theorem dX12_valueNow_83 : decode cX12_valueNow 83 = .ok (.iconst 1, 1) := by decide +kernel
theorem dX12_valueNow_84 : decode cX12_valueNow 84 = .ok (.iastore, 1) := by decide +kernel
theorem dX12_valueNow_85 : decode cX12_valueNow 85 = .ok (.goto 32, 3) := by decide +kernel
theorem dX12_valueNow_88 : decode cX12_valueNow 88 = .ok (.iinc 1 (-1), 3) := by decide +kernel
theorem dX12_valueNow_91 : decode cX12_valueNow 91 = .ok (.aload_n 0, 1) := by decide +kernel
theorem dX12_valueNow_92 : decode cX12_valueNow 92 = .ok (.getfield 90, 3) := by decide +kernel
theorem dX12_valueNow_95 : decode cX12_valueNow 95 = .ok (.iload_n 1, 1) := by decide +kernel
theorem dX12_valueNow_96 : decode cX12_valueNow 96 = .ok (.iconst 1, 1) := by decide +kernel
theorem dX12_valueNow_97 : decode cX12_valueNow 97 = .ok (.isub, 1) := by decide +kernel
theorem dX12_valueNow_98 : decode cX12_valueNow 98 = .ok (.iload_n 3, 1) := by decide +kernel
theorem dX12_valueNow_99 : decode cX12_valueNow 99 = .ok (.aload_n 0, 1) := by decide +kernel
theorem dX12_valueNow_100 : decode cX12_valueNow 100 = .ok (.getfield 90, 3) := by decide +kernel
theorem dX12_valueNow_103 : decode cX12_valueNow 103 = .ok (.iload_n 1, 1) := by decide +kernel
theorem dX12_valueNow_104 : decode cX12_valueNow 104 = .ok (.iconst 1, 1) := by decide +kernel
theorem dX12_valueNow_105 : decode cX12_valueNow 105 = .ok (.isub, 1) := by decide +kernel
theorem dX12_valueNow_106 : decode cX12_valueNow 106 = .ok (.iaload, 1) := by decide +kernel
theorem dX12_valueNow_107 : decode cX12_valueNow 107 = .ok (.aload_n 0, 1) := by decide +kernel
theorem dX12_valueNow_108 : decode cX12_valueNow 108 = .ok (.getfield 90, 3) := by decide +kernel
theorem dX12_valueNow_111 : decode cX12_valueNow 111 = .ok (.iload_n 1, 1) := by decide +kernel
theorem dX12_valueNow_112 : decode cX12_valueNow 112 = .ok (.iaload, 1) := by decide +kernel
theorem dX12_valueNow_113 : decode cX12_valueNow 113 = .ok (.invokestatic 328, 3) := by decide +kernel
theorem dX12_valueNow_116 : decode cX12_valueNow 116 = .ok (.iastore, 1) := by decide +kernel
theorem dX12_valueNow_117 : decode cX12_valueNow 117 = .ok (.iinc 2 1, 3) := by decide +kernel
theorem dX12_valueNow_120 : decode cX12_valueNow 120 = .ok (.goto (-116), 3) := by decide +kernel
theorem dX12_valueNow_123 : decode cX12_valueNow 123 = .ok (.aload_n 0, 1) := by decide +kernel
theorem dX12_valueNow_124 : decode cX12_valueNow 124 = .ok (.getfield 90, 3) := by decide +kernel
theorem dX12_valueNow_127 : decode cX12_valueNow 127 = .ok (.iconst 0, 1) := by decide +kernel
theorem dX12_valueNow_128 : decode cX12_valueNow 128 = .ok (.iaload, 1) := by decide +kernel
theorem dX12_valueNow_129 : decode cX12_valueNow 129 = .ok (.ireturn, 1) := by decide +kernel
set_option maxRecDepth 20000 in
theorem ggX12_minds_X12_isOf : GoodIn wsX12_minds wsX12_isOf := goodIn_r _ [15] (by decide +kernel) (by decide +kernel)
set_option maxRecDepth 20000 in
theorem gX12_minds_X12_isOf : GoodIn wsX12_minds (va_wsS RX12 332 yX12_isOf wsX12_isOf) := goodIn_app (goodIn_of _ (by decide +kernel)) ggX12_minds_X12_isOf
set_option maxRecDepth 20000 in
theorem ggX12_minds_X12_bitsOf : GoodIn wsX12_minds wsX12_bitsOf := goodIn_r _ [18] (by decide +kernel) (by decide +kernel)
set_option maxRecDepth 20000 in
theorem gX12_minds_X12_bitsOf : GoodIn wsX12_minds (va_wsS RX12 335 yX12_bitsOf wsX12_bitsOf) := goodIn_app (goodIn_of _ (by decide +kernel)) ggX12_minds_X12_bitsOf
set_option maxRecDepth 20000 in
theorem ggX12_minds_X12_mistOf : GoodIn wsX12_minds wsX12_mistOf := goodIn_r _ [22, 23, 1, 24, 11, 34, 35, 36, 37, 38, 39, 40, 41, 42, 43, 44, 45, 46, 47, 48, 49, 50, 51, 52, 53, 54, 55, 56, 57, 58, 59, 60, 61, 62, 63, 64, 65, 66, 67, 68, 69, 70, 71, 72, 73, 74, 75, 76, 77, 78, 79, 80, 81, 82, 83, 84, 85, 86, 87, 88, 89, 90] (by decide +kernel) (by decide +kernel)
set_option maxRecDepth 20000 in
theorem gX12_minds_X12_mistOf : GoodIn wsX12_minds (wsV RX12 318 RX12 yX12_mistOf wsX12_mistOf) := goodIn_app (goodIn_of _ (by decide +kernel)) ggX12_minds_X12_mistOf
set_option maxRecDepth 20000 in
theorem ggX12_minds_X12_valueNow : GoodIn wsX12_minds wsX12_valueNow := goodIn_r _ [28, 1, 29, 30, 8, 31, 32, 14, 33, 34, 35, 36, 37, 38, 39, 40, 41, 42, 43, 44, 45, 46, 47, 48, 49, 50, 51, 52, 53, 54, 55, 56, 57, 58, 59, 60, 61, 62, 63, 64, 65, 66, 67, 68, 69, 70, 71, 72, 73, 74, 75, 76, 77, 78, 79, 80, 81, 82, 83, 84, 85, 86, 87, 88, 89, 90] (by decide +kernel) (by decide +kernel)
set_option maxRecDepth 20000 in
theorem gX12_minds_X12_valueNow : GoodIn wsX12_minds (wsV RX12 338 RX12 yX12_valueNow wsX12_valueNow) := goodIn_app (goodIn_of _ (by decide +kernel)) ggX12_minds_X12_valueNow
theorem dX12_minds_0 : decode cX12_minds 0 = .ok (.aload_n 0, 1) := by decide +kernel
theorem dX12_minds_1 : decode cX12_minds 1 = .ok (.getfield 34, 3) := by decide +kernel
theorem dX12_minds_4 : decode cX12_minds 4 = .ok (.iconst 4, 1) := by decide +kernel
theorem dX12_minds_5 : decode cX12_minds 5 = .ok (.iaload, 1) := by decide +kernel
theorem dX12_minds_6 : decode cX12_minds 6 = .ok (.ifCond .eq 13, 3) := by decide +kernel
theorem dX12_minds_9 : decode cX12_minds 9 = .ok (.aload_n 0, 1) := by decide +kernel
theorem dX12_minds_10 : decode cX12_minds 10 = .ok (.getfield 38, 3) := by decide +kernel
theorem dX12_minds_13 : decode cX12_minds 13 = .ok (.iload_n 1, 1) := by decide +kernel
theorem dX12_minds_14 : decode cX12_minds 14 = .ok (.iaload, 1) := by decide +kernel
theorem dX12_minds_15 : decode cX12_minds 15 = .ok (.iconst 1, 1) := by decide +kernel
theorem dX12_minds_16 : decode cX12_minds 16 = .ok (.if_icmp .ne 5, 3) := by decide +kernel
theorem dX12_minds_19 : decode cX12_minds 19 = .ok (.iconst 1, 1) := by decide +kernel
theorem dX12_minds_20 : decode cX12_minds 20 = .ok (.ireturn, 1) := by decide +kernel
theorem dX12_minds_21 : decode cX12_minds 21 = .ok (.iconst (-1), 1) := by decide +kernel
theorem dX12_minds_22 : decode cX12_minds 22 = .ok (.istore_n 3, 1) := by decide +kernel
theorem dX12_minds_23 : decode cX12_minds 23 = .ok (.iconst 0, 1) := by decide +kernel
theorem dX12_minds_24 : decode cX12_minds 24 = .ok (.istore 4, 2) := by decide +kernel
theorem dX12_minds_26 : decode cX12_minds 26 = .ok (.iload 4, 2) := by decide +kernel
theorem dX12_minds_28 : decode cX12_minds 28 = .ok (.aload_n 0, 1) := by decide +kernel
theorem dX12_minds_29 : decode cX12_minds 29 = .ok (.getfield 34, 3) := by decide +kernel
theorem dX12_minds_32 : decode cX12_minds 32 = .ok (.iconst 0, 1) := by decide +kernel
theorem dX12_minds_33 : decode cX12_minds 33 = .ok (.iaload, 1) := by decide +kernel
theorem dX12_minds_34 : decode cX12_minds 34 = .ok (.if_icmp .ge 62, 3) := by decide +kernel
theorem dX12_minds_37 : decode cX12_minds 37 = .ok (.iload_n 2, 1) := by decide +kernel
theorem dX12_minds_38 : decode cX12_minds 38 = .ok (.iload 4, 2) := by decide +kernel
theorem dX12_minds_40 : decode cX12_minds 40 = .ok (.invokestatic 332, 3) := by decide +kernel
theorem dX12_minds_43 : decode cX12_minds 43 = .ok (.ifCond .eq 47, 3) := by decide +kernel
theorem dX12_minds_46 : decode cX12_minds 46 = .ok (.iload_n 3, 1) := by decide +kernel
theorem dX12_minds_47 : decode cX12_minds 47 = .ok (.iconst (-1), 1) := by decide +kernel
theorem dX12_minds_48 : decode cX12_minds 48 = .ok (.if_icmp .eq 39, 3) := by decide +kernel
theorem dX12_minds_51 : decode cX12_minds 51 = .ok (.aload_n 0, 1) := by decide +kernel
theorem dX12_minds_52 : decode cX12_minds 52 = .ok (.getfield 41, 3) := by decide +kernel
theorem dX12_minds_55 : decode cX12_minds 55 = .ok (.iload 4, 2) := by decide +kernel
theorem dX12_minds_57 : decode cX12_minds 57 = .ok (.iaload, 1) := by decide +kernel
theorem dX12_minds_58 : decode cX12_minds 58 = .ok (.aload_n 0, 1) := by decide +kernel
theorem dX12_minds_59 : decode cX12_minds 59 = .ok (.getfield 41, 3) := by decide +kernel
theorem dX12_minds_62 : decode cX12_minds 62 = .ok (.iload_n 1, 1) := by decide +kernel
theorem dX12_minds_63 : decode cX12_minds 63 = .ok (.iaload, 1) := by decide +kernel
theorem dX12_minds_64 : decode cX12_minds 64 = .ok (.isub, 1) := by decide +kernel
theorem dX12_minds_65 : decode cX12_minds 65 = .ok (.invokestatic 315, 3) := by decide +kernel
theorem dX12_minds_68 : decode cX12_minds 68 = .ok (.aload_n 0, 1) := by decide +kernel
theorem dX12_minds_69 : decode cX12_minds 69 = .ok (.getfield 41, 3) := by decide +kernel
theorem dX12_minds_72 : decode cX12_minds 72 = .ok (.iload_n 3, 1) := by decide +kernel
theorem dX12_minds_73 : decode cX12_minds 73 = .ok (.iaload, 1) := by decide +kernel
theorem dX12_minds_74 : decode cX12_minds 74 = .ok (.aload_n 0, 1) := by decide +kernel
theorem dX12_minds_75 : decode cX12_minds 75 = .ok (.getfield 41, 3) := by decide +kernel
theorem dX12_minds_78 : decode cX12_minds 78 = .ok (.iload_n 1, 1) := by decide +kernel
theorem dX12_minds_79 : decode cX12_minds 79 = .ok (.iaload, 1) := by decide +kernel
theorem dX12_minds_80 : decode cX12_minds 80 = .ok (.isub, 1) := by decide +kernel
theorem dX12_minds_81 : decode cX12_minds 81 = .ok (.invokestatic 315, 3) := by decide +kernel
theorem dX12_minds_84 : decode cX12_minds 84 = .ok (.if_icmp .ge 6, 3) := by decide +kernel
theorem dX12_minds_87 : decode cX12_minds 87 = .ok (.iload 4, 2) := by decide +kernel
theorem dX12_minds_89 : decode cX12_minds 89 = .ok (.istore_n 3, 1) := by decide +kernel
theorem dX12_minds_90 : decode cX12_minds 90 = .ok (.iinc 4 1, 3) := by decide +kernel
theorem dX12_minds_93 : decode cX12_minds 93 = .ok (.goto (-67), 3) := by decide +kernel
theorem dX12_minds_96 : decode cX12_minds 96 = .ok (.aload_n 0, 1) := by decide +kernel
theorem dX12_minds_97 : decode cX12_minds 97 = .ok (.getfield 87, 3) := by decide +kernel
theorem dX12_minds_100 : decode cX12_minds 100 = .ok (.iconst 0, 1) := by decide +kernel
theorem dX12_minds_101 : decode cX12_minds 101 = .ok (.iload_n 2, 1) := by decide +kernel
theorem dX12_minds_102 : decode cX12_minds 102 = .ok (.invokestatic 335, 3) := by decide +kernel
theorem dX12_minds_105 : decode cX12_minds 105 = .ok (.iastore, 1) := by decide +kernel
theorem dX12_minds_106 : decode cX12_minds 106 = .ok (.aload_n 0, 1) := by decide +kernel
theorem dX12_minds_107 : decode cX12_minds 107 = .ok (.getfield 87, 3) := by decide +kernel
theorem dX12_minds_110 : decode cX12_minds 110 = .ok (.iconst 1, 1) := by decide +kernel
theorem dX12_minds_111 : decode cX12_minds 111 = .ok (.aload_n 0, 1) := by decide +kernel
theorem dX12_minds_112 : decode cX12_minds 112 = .ok (.getfield 41, 3) := by decide +kernel
theorem dX12_minds_115 : decode cX12_minds 115 = .ok (.iload_n 3, 1) := by decide +kernel
theorem dX12_minds_116 : decode cX12_minds 116 = .ok (.iaload, 1) := by decide +kernel
theorem dX12_minds_117 : decode cX12_minds 117 = .ok (.aload_n 0, 1) := by decide +kernel
theorem dX12_minds_118 : decode cX12_minds 118 = .ok (.getfield 41, 3) := by decide +kernel
theorem dX12_minds_121 : decode cX12_minds 121 = .ok (.iload_n 1, 1) := by decide +kernel
theorem dX12_minds_122 : decode cX12_minds 122 = .ok (.iaload, 1) := by decide +kernel
theorem dX12_minds_123 : decode cX12_minds 123 = .ok (.isub, 1) := by decide +kernel
theorem dX12_minds_124 : decode cX12_minds 124 = .ok (.invokestatic 315, 3) := by decide +kernel
theorem dX12_minds_127 : decode cX12_minds 127 = .ok (.iastore, 1) := by decide +kernel
theorem dX12_minds_128 : decode cX12_minds 128 = .ok (.aload_n 0, 1) := by decide +kernel
theorem dX12_minds_129 : decode cX12_minds 129 = .ok (.getfield 87, 3) := by decide +kernel
theorem dX12_minds_132 : decode cX12_minds 132 = .ok (.iconst 2, 1) := by decide +kernel
theorem dX12_minds_133 : decode cX12_minds 133 = .ok (.aload_n 0, 1) := by decide +kernel
theorem dX12_minds_134 : decode cX12_minds 134 = .ok (.getfield 44, 3) := by decide +kernel
theorem dX12_minds_137 : decode cX12_minds 137 = .ok (.iload_n 3, 1) := by decide +kernel
theorem dX12_minds_138 : decode cX12_minds 138 = .ok (.iaload, 1) := by decide +kernel
theorem dX12_minds_139 : decode cX12_minds 139 = .ok (.aload_n 0, 1) := by decide +kernel
theorem dX12_minds_140 : decode cX12_minds 140 = .ok (.getfield 44, 3) := by decide +kernel
theorem dX12_minds_143 : decode cX12_minds 143 = .ok (.iload_n 1, 1) := by decide +kernel
theorem dX12_minds_144 : decode cX12_minds 144 = .ok (.iaload, 1) := by decide +kernel
theorem dX12_minds_145 : decode cX12_minds 145 = .ok (.isub, 1) := by decide +kernel
theorem dX12_minds_146 : decode cX12_minds 146 = .ok (.iastore, 1) := by decide +kernel
theorem dX12_minds_147 : decode cX12_minds 147 = .ok (.aload_n 0, 1) := by decide +kernel
theorem dX12_minds_148 : decode cX12_minds 148 = .ok (.getfield 87, 3) := by decide +kernel
theorem dX12_minds_151 : decode cX12_minds 151 = .ok (.iconst 3, 1) := by decide +kernel
theorem dX12_minds_152 : decode cX12_minds 152 = .ok (.aload_n 0, 1) := by decide +kernel
theorem dX12_minds_153 : decode cX12_minds 153 = .ok (.getfield 75, 3) := by decide +kernel
theorem dX12_minds_156 : decode cX12_minds 156 = .ok (.iload_n 1, 1) := by decide +kernel
theorem dX12_minds_157 : decode cX12_minds 157 = .ok (.iaload, 1) := by decide +kernel
theorem dX12_minds_158 : decode cX12_minds 158 = .ok (.iastore, 1) := by decide +kernel
theorem dX12_minds_159 : decode cX12_minds 159 = .ok (.aload_n 0, 1) := by decide +kernel
theorem dX12_minds_160 : decode cX12_minds 160 = .ok (.getfield 87, 3) := by decide +kernel
theorem dX12_minds_163 : decode cX12_minds 163 = .ok (.iconst 4, 1) := by decide +kernel
theorem dX12_minds_164 : decode cX12_minds 164 = .ok (.aload_n 0, 1) := by decide +kernel
theorem dX12_minds_165 : decode cX12_minds 165 = .ok (.invokevirtual 318, 3) := by decide +kernel
theorem dX12_minds_168 : decode cX12_minds 168 = .ok (.iastore, 1) := by decide +kernel
theorem dX12_minds_169 : decode cX12_minds 169 = .ok (.aload_n 0, 1) := by decide +kernel
theorem dX12_minds_170 : decode cX12_minds 170 = .ok (.getfield 87, 3) := by decide +kernel
theorem dX12_minds_173 : decode cX12_minds 173 = .ok (.iconst 5, 1) := by decide +kernel
theorem dX12_minds_174 : decode cX12_minds 174 = .ok (.aload_n 0, 1) := by decide +kernel
theorem dX12_minds_175 : decode cX12_minds 175 = .ok (.getfield 287, 3) := by decide +kernel
theorem dX12_minds_178 : decode cX12_minds 178 = .ok (.iastore, 1) := by decide +kernel
theorem dX12_minds_179 : decode cX12_minds 179 = .ok (.aload_n 0, 1) := by decide +kernel
theorem dX12_minds_180 : decode cX12_minds 180 = .ok (.invokevirtual 338, 3) := by decide +kernel
theorem dX12_minds_183 : decode cX12_minds 183 = .ok (.ifCond .le 7, 3) := by decide +kernel
theorem dX12_minds_186 : decode cX12_minds 186 = .ok (.iconst 1, 1) := by decide +kernel
theorem dX12_minds_187 : decode cX12_minds 187 = .ok (.goto 4, 3) := by decide +kernel
theorem dX12_minds_190 : decode cX12_minds 190 = .ok (.iconst 0, 1) := by decide +kernel
theorem dX12_minds_191 : decode cX12_minds 191 = .ok (.ireturn, 1) := by decide +kernel
set_option maxRecDepth 20000 in
theorem ggX12_aTick_X12_isOf : GoodIn wsX12_aTick wsX12_isOf := goodIn_r _ [16] (by decide +kernel) (by decide +kernel)
set_option maxRecDepth 20000 in
theorem gX12_aTick_X12_isOf : GoodIn wsX12_aTick (va_wsS RX12 332 yX12_isOf wsX12_isOf) := goodIn_app (goodIn_of _ (by decide +kernel)) ggX12_aTick_X12_isOf
set_option maxRecDepth 20000 in
theorem ggX12_aTick_X12_seesOf : GoodIn wsX12_aTick wsX12_seesOf := goodIn_r _ [20, 2, 21, 22, 23, 15, 24, 25, 26, 27, 8, 28, 29, 30, 31, 32, 33, 34, 12, 35, 36, 37, 38, 39, 40, 41, 42, 6, 7, 9, 43, 44, 45, 46, 47, 48, 49, 50, 51, 52, 53, 54, 55, 74, 75, 76, 77, 78, 79, 80, 81, 82, 83, 84, 85, 86, 87, 88, 89, 90, 91, 92, 93, 94, 95, 96, 97, 98, 99, 100, 101, 102, 103, 104, 105, 106, 107, 108, 109, 110, 111, 112, 113, 114, 115, 116, 117, 118, 119, 120, 121, 122, 123, 124, 125, 126, 127, 128, 129, 130] (by decide +kernel) (by decide +kernel)
set_option maxRecDepth 20000 in
theorem gX12_aTick_X12_seesOf : GoodIn wsX12_aTick (wsV RX12 343 RX12 yX12_seesOf wsX12_seesOf) := goodIn_app (goodIn_of _ (by decide +kernel)) ggX12_aTick_X12_seesOf
set_option maxRecDepth 20000 in
theorem ggX12_aTick_X12_minds : GoodIn wsX12_aTick wsX12_minds := goodIn_r _ [59, 2, 60, 25, 26, 27, 8, 28, 61, 54, 5, 12, 13, 14, 15, 16, 62, 63, 64, 29, 30, 31, 32, 33, 34, 65, 66, 67, 68, 69, 70, 71, 72, 73, 74, 75, 76, 77, 78, 79, 80, 81, 82, 83, 84, 85, 86, 87, 88, 89, 90, 91, 92, 93, 94, 95, 96, 97, 98, 99, 100, 101, 102, 103, 104, 105, 106, 107, 108, 109, 110, 111, 112, 113, 114, 115, 116, 117, 118, 119, 120, 121, 122, 123, 124, 125, 126, 127, 128, 129, 130] (by decide +kernel) (by decide +kernel)
set_option maxRecDepth 20000 in
theorem gX12_aTick_X12_minds : GoodIn wsX12_aTick (wsV RX12 346 RX12 yX12_minds wsX12_minds) := goodIn_app (goodIn_of _ (by decide +kernel)) ggX12_aTick_X12_minds
theorem dX12_aTick_0 : decode cX12_aTick 0 = .ok (.aload_n 0, 1) := by decide +kernel
theorem dX12_aTick_1 : decode cX12_aTick 1 = .ok (.iconst 0, 1) := by decide +kernel
theorem dX12_aTick_2 : decode cX12_aTick 2 = .ok (.putfield 341, 3) := by decide +kernel
theorem dX12_aTick_5 : decode cX12_aTick 5 = .ok (.iconst 0, 1) := by decide +kernel
theorem dX12_aTick_6 : decode cX12_aTick 6 = .ok (.istore_n 1, 1) := by decide +kernel
theorem dX12_aTick_7 : decode cX12_aTick 7 = .ok (.iload_n 1, 1) := by decide +kernel
theorem dX12_aTick_8 : decode cX12_aTick 8 = .ok (.aload_n 0, 1) := by decide +kernel
theorem dX12_aTick_9 : decode cX12_aTick 9 = .ok (.getfield 34, 3) := by decide +kernel
theorem dX12_aTick_12 : decode cX12_aTick 12 = .ok (.iconst 0, 1) := by decide +kernel
theorem dX12_aTick_13 : decode cX12_aTick 13 = .ok (.iaload, 1) := by decide +kernel
theorem dX12_aTick_14 : decode cX12_aTick 14 = .ok (.if_icmp .ge 115, 3) := by decide +kernel
theorem dX12_aTick_17 : decode cX12_aTick 17 = .ok (.aload_n 0, 1) := by decide +kernel
theorem dX12_aTick_18 : decode cX12_aTick 18 = .ok (.getfield 69, 3) := by decide +kernel
theorem dX12_aTick_21 : decode cX12_aTick 21 = .ok (.iload_n 1, 1) := by decide +kernel
theorem dX12_aTick_22 : decode cX12_aTick 22 = .ok (.iaload, 1) := by decide +kernel
theorem dX12_aTick_23 : decode cX12_aTick 23 = .ok (.iconst 1, 1) := by decide +kernel
theorem dX12_aTick_24 : decode cX12_aTick 24 = .ok (.if_icmp .ne 57, 3) := by decide +kernel
theorem dX12_aTick_27 : decode cX12_aTick 27 = .ok (.aload_n 0, 1) := by decide +kernel
theorem dX12_aTick_28 : decode cX12_aTick 28 = .ok (.dup, 1) := by decide +kernel
theorem dX12_aTick_29 : decode cX12_aTick 29 = .ok (.getfield 341, 3) := by decide +kernel
theorem dX12_aTick_32 : decode cX12_aTick 32 = .ok (.iconst 1, 1) := by decide +kernel
theorem dX12_aTick_33 : decode cX12_aTick 33 = .ok (.iload_n 1, 1) := by decide +kernel
theorem dX12_aTick_34 : decode cX12_aTick 34 = .ok (.ishl, 1) := by decide +kernel
theorem dX12_aTick_35 : decode cX12_aTick 35 = .ok (.ior, 1) := by decide +kernel
theorem dX12_aTick_36 : decode cX12_aTick 36 = .ok (.putfield 341, 3) := by decide +kernel
theorem dX12_aTick_39 : decode cX12_aTick 39 = .ok (.aload_n 0, 1) := by decide +kernel
theorem dX12_aTick_40 : decode cX12_aTick 40 = .ok (.getfield 69, 3) := by decide +kernel
theorem dX12_aTick_43 : decode cX12_aTick 43 = .ok (.iload_n 1, 1) := by decide +kernel
theorem dX12_aTick_44 : decode cX12_aTick 44 = .ok (.iconst 0, 1) := by decide +kernel
theorem dX12_aTick_45 : decode cX12_aTick 45 = .ok (.iastore, 1) := by decide +kernel
theorem dX12_aTick_46 : decode cX12_aTick 46 = .ok (.aload_n 0, 1) := by decide +kernel
theorem dX12_aTick_47 : decode cX12_aTick 47 = .ok (.getfield 72, 3) := by decide +kernel
theorem dX12_aTick_50 : decode cX12_aTick 50 = .ok (.iload_n 1, 1) := by decide +kernel
theorem dX12_aTick_51 : decode cX12_aTick 51 = .ok (.aload_n 0, 1) := by decide +kernel
theorem dX12_aTick_52 : decode cX12_aTick 52 = .ok (.getfield 34, 3) := by decide +kernel
theorem dX12_aTick_55 : decode cX12_aTick 55 = .ok (.iconst 2, 1) := by decide +kernel
theorem dX12_aTick_56 : decode cX12_aTick 56 = .ok (.iaload, 1) := by decide +kernel
theorem dX12_aTick_57 : decode cX12_aTick 57 = .ok (.iastore, 1) := by decide +kernel
theorem dX12_aTick_58 : decode cX12_aTick 58 = .ok (.aload_n 0, 1) := by decide +kernel
theorem dX12_aTick_59 : decode cX12_aTick 59 = .ok (.getfield 75, 3) := by decide +kernel
theorem dX12_aTick_62 : decode cX12_aTick 62 = .ok (.iload_n 1, 1) := by decide +kernel
theorem dX12_aTick_63 : decode cX12_aTick 63 = .ok (.sipush 999, 3) := by decide +kernel
theorem dX12_aTick_66 : decode cX12_aTick 66 = .ok (.aload_n 0, 1) := by decide +kernel
theorem dX12_aTick_67 : decode cX12_aTick 67 = .ok (.getfield 75, 3) := by decide +kernel
theorem dX12_aTick_70 : decode cX12_aTick 70 = .ok (.iload_n 1, 1) := by decide +kernel
theorem dX12_aTick_71 : decode cX12_aTick 71 = .ok (.iaload, 1) := by decide +kernel
theorem dX12_aTick_72 : decode cX12_aTick 72 = .ok (.iconst 1, 1) := by decide +kernel
theorem dX12_aTick_73 : decode cX12_aTick 73 = .ok (.iadd, 1) := by decide +kernel
theorem dX12_aTick_74 : decode cX12_aTick 74 = .ok (.invokestatic 179, 3) := by decide +kernel
theorem dX12_aTick_77 : decode cX12_aTick 77 = .ok (.iastore, 1) := by decide +kernel
theorem dX12_aTick_78 : decode cX12_aTick 78 = .ok (.goto 45, 3) := by decide +kernel
theorem dX12_aTick_81 : decode cX12_aTick 81 = .ok (.aload_n 0, 1) := by decide +kernel
theorem dX12_aTick_82 : decode cX12_aTick 82 = .ok (.getfield 69, 3) := by decide +kernel
theorem dX12_aTick_85 : decode cX12_aTick 85 = .ok (.iload_n 1, 1) := by decide +kernel
theorem dX12_aTick_86 : decode cX12_aTick 86 = .ok (.iaload, 1) := by decide +kernel
theorem dX12_aTick_87 : decode cX12_aTick 87 = .ok (.iconst 1, 1) := by decide +kernel
theorem dX12_aTick_88 : decode cX12_aTick 88 = .ok (.if_icmp .le 16, 3) := by decide +kernel
theorem dX12_aTick_91 : decode cX12_aTick 91 = .ok (.aload_n 0, 1) := by decide +kernel
theorem dX12_aTick_92 : decode cX12_aTick 92 = .ok (.getfield 69, 3) := by decide +kernel
theorem dX12_aTick_95 : decode cX12_aTick 95 = .ok (.iload_n 1, 1) := by decide +kernel
theorem dX12_aTick_96 : decode cX12_aTick 96 = .ok (.dup2, 1) := by decide +kernel
theorem dX12_aTick_97 : decode cX12_aTick 97 = .ok (.iaload, 1) := by decide +kernel
theorem dX12_aTick_98 : decode cX12_aTick 98 = .ok (.iconst 1, 1) := by decide +kernel
theorem dX12_aTick_99 : decode cX12_aTick 99 = .ok (.isub, 1) := by decide +kernel
theorem dX12_aTick_100 : decode cX12_aTick 100 = .ok (.iastore, 1) := by decide +kernel
theorem dX12_aTick_101 : decode cX12_aTick 101 = .ok (.goto 22, 3) := by decide +kernel
theorem dX12_aTick_104 : decode cX12_aTick 104 = .ok (.aload_n 0, 1) := by decide +kernel
theorem dX12_aTick_105 : decode cX12_aTick 105 = .ok (.getfield 72, 3) := by decide +kernel
theorem dX12_aTick_108 : decode cX12_aTick 108 = .ok (.iload_n 1, 1) := by decide +kernel
theorem dX12_aTick_109 : decode cX12_aTick 109 = .ok (.iaload, 1) := by decide +kernel
theorem dX12_aTick_110 : decode cX12_aTick 110 = .ok (.ifCond .le 13, 3) := by decide +kernel
theorem dX12_aTick_113 : decode cX12_aTick 113 = .ok (.aload_n 0, 1) := by decide +kernel
theorem dX12_aTick_114 : decode cX12_aTick 114 = .ok (.getfield 72, 3) := by decide +kernel
theorem dX12_aTick_117 : decode cX12_aTick 117 = .ok (.iload_n 1, 1) := by decide +kernel
theorem dX12_aTick_118 : decode cX12_aTick 118 = .ok (.dup2, 1) := by decide +kernel
theorem dX12_aTick_119 : decode cX12_aTick 119 = .ok (.iaload, 1) := by decide +kernel
theorem dX12_aTick_120 : decode cX12_aTick 120 = .ok (.iconst 1, 1) := by decide +kernel
theorem dX12_aTick_121 : decode cX12_aTick 121 = .ok (.isub, 1) := by decide +kernel
theorem dX12_aTick_122 : decode cX12_aTick 122 = .ok (.iastore, 1) := by decide +kernel
theorem dX12_aTick_123 : decode cX12_aTick 123 = .ok (.iinc 1 1, 3) := by decide +kernel
theorem dX12_aTick_126 : decode cX12_aTick 126 = .ok (.goto (-119), 3) := by decide +kernel
theorem dX12_aTick_129 : decode cX12_aTick 129 = .ok (.iconst 0, 1) := by decide +kernel
theorem dX12_aTick_130 : decode cX12_aTick 130 = .ok (.istore_n 1, 1) := by decide +kernel
theorem dX12_aTick_131 : decode cX12_aTick 131 = .ok (.iload_n 1, 1) := by decide +kernel
theorem dX12_aTick_132 : decode cX12_aTick 132 = .ok (.aload_n 0, 1) := by decide +kernel
theorem dX12_aTick_133 : decode cX12_aTick 133 = .ok (.getfield 34, 3) := by decide +kernel
theorem dX12_aTick_136 : decode cX12_aTick 136 = .ok (.iconst 0, 1) := by decide +kernel
theorem dX12_aTick_137 : decode cX12_aTick 137 = .ok (.iaload, 1) := by decide +kernel
theorem dX12_aTick_138 : decode cX12_aTick 138 = .ok (.if_icmp .ge 89, 3) := by decide +kernel
theorem dX12_aTick_141 : decode cX12_aTick 141 = .ok (.aload_n 0, 1) := by decide +kernel
theorem dX12_aTick_142 : decode cX12_aTick 142 = .ok (.getfield 341, 3) := by decide +kernel
theorem dX12_aTick_145 : decode cX12_aTick 145 = .ok (.ifCond .eq 82, 3) := by decide +kernel
theorem dX12_aTick_148 : decode cX12_aTick 148 = .ok (.aload_n 0, 1) := by decide +kernel
theorem dX12_aTick_149 : decode cX12_aTick 149 = .ok (.getfield 69, 3) := by decide +kernel
theorem dX12_aTick_152 : decode cX12_aTick 152 = .ok (.iload_n 1, 1) := by decide +kernel
theorem dX12_aTick_153 : decode cX12_aTick 153 = .ok (.iaload, 1) := by decide +kernel
theorem dX12_aTick_154 : decode cX12_aTick 154 = .ok (.ifCond .gt 67, 3) := by decide +kernel
theorem dX12_aTick_157 : decode cX12_aTick 157 = .ok (.aload_n 0, 1) := by decide +kernel
theorem dX12_aTick_158 : decode cX12_aTick 158 = .ok (.getfield 72, 3) := by decide +kernel
theorem dX12_aTick_161 : decode cX12_aTick 161 = .ok (.iload_n 1, 1) := by decide +kernel
theorem dX12_aTick_162 : decode cX12_aTick 162 = .ok (.iaload, 1) := by decide +kernel
theorem dX12_aTick_163 : decode cX12_aTick 163 = .ok (.ifCond .gt 58, 3) := by decide +kernel
theorem dX12_aTick_166 : decode cX12_aTick 166 = .ok (.aload_n 0, 1) := by decide +kernel
theorem dX12_aTick_167 : decode cX12_aTick 167 = .ok (.getfield 290, 3) := by decide +kernel
theorem dX12_aTick_170 : decode cX12_aTick 170 = .ok (.aload_n 0, 1) := by decide +kernel
theorem dX12_aTick_171 : decode cX12_aTick 171 = .ok (.getfield 341, 3) := by decide +kernel
theorem dX12_aTick_174 : decode cX12_aTick 174 = .ok (.ior, 1) := by decide +kernel
theorem dX12_aTick_175 : decode cX12_aTick 175 = .ok (.iload_n 1, 1) := by decide +kernel
theorem dX12_aTick_176 : decode cX12_aTick 176 = .ok (.invokestatic 332, 3) := by decide +kernel
theorem dX12_aTick_179 : decode cX12_aTick 179 = .ok (.ifCond .eq 6, 3) := by decide +kernel
theorem dX12_aTick_182 : decode cX12_aTick 182 = .ok (.goto 39, 3) := by decide +kernel
theorem dX12_aTick_185 : decode cX12_aTick 185 = .ok (.aload_n 0, 1) := by decide +kernel
theorem dX12_aTick_186 : decode cX12_aTick 186 = .ok (.iload_n 1, 1) := by decide +kernel
theorem dX12_aTick_187 : decode cX12_aTick 187 = .ok (.invokevirtual 343, 3) := by decide +kernel
theorem dX12_aTick_190 : decode cX12_aTick 190 = .ok (.aload_n 0, 1) := by decide +kernel
theorem dX12_aTick_191 : decode cX12_aTick 191 = .ok (.getfield 341, 3) := by decide +kernel
theorem dX12_aTick_194 : decode cX12_aTick 194 = .ok (.iand, 1) := by decide +kernel
theorem dX12_aTick_195 : decode cX12_aTick 195 = .ok (.istore_n 2, 1) := by decide +kernel
theorem dX12_aTick_196 : decode cX12_aTick 196 = .ok (.iload_n 2, 1) := by decide +kernel
theorem dX12_aTick_197 : decode cX12_aTick 197 = .ok (.ifCond .eq 24, 3) := by decide +kernel
theorem dX12_aTick_200 : decode cX12_aTick 200 = .ok (.aload_n 0, 1) := by decide +kernel
theorem dX12_aTick_201 : decode cX12_aTick 201 = .ok (.iload_n 1, 1) := by decide +kernel
theorem dX12_aTick_202 : decode cX12_aTick 202 = .ok (.iload_n 2, 1) := by decide +kernel
theorem dX12_aTick_203 : decode cX12_aTick 203 = .ok (.invokevirtual 346, 3) := by decide +kernel
theorem dX12_aTick_206 : decode cX12_aTick 206 = .ok (.ifCond .eq 15, 3) := by decide +kernel
theorem dX12_aTick_209 : decode cX12_aTick 209 = .ok (.aload_n 0, 1) := by decide +kernel
theorem dX12_aTick_210 : decode cX12_aTick 210 = .ok (.getfield 69, 3) := by decide +kernel
theorem dX12_aTick_213 : decode cX12_aTick 213 = .ok (.iload_n 1, 1) := by decide +kernel
theorem dX12_aTick_214 : decode cX12_aTick 214 = .ok (.aload_n 0, 1) := by decide +kernel
theorem dX12_aTick_215 : decode cX12_aTick 215 = .ok (.getfield 50, 3) := by decide +kernel
theorem dX12_aTick_218 : decode cX12_aTick 218 = .ok (.iload_n 1, 1) := by decide +kernel
theorem dX12_aTick_219 : decode cX12_aTick 219 = .ok (.iaload, 1) := by decide +kernel
theorem dX12_aTick_220 : decode cX12_aTick 220 = .ok (.iastore, 1) := by decide +kernel
theorem dX12_aTick_221 : decode cX12_aTick 221 = .ok (.iinc 1 1, 3) := by decide +kernel
theorem dX12_aTick_224 : decode cX12_aTick 224 = .ok (.goto (-93), 3) := by decide +kernel
theorem dX12_aTick_227 : decode cX12_aTick 227 = .ok (.aload_n 0, 1) := by decide +kernel
theorem dX12_aTick_228 : decode cX12_aTick 228 = .ok (.dup, 1) := by decide +kernel
theorem dX12_aTick_229 : decode cX12_aTick 229 = .ok (.getfield 287, 3) := by decide +kernel
theorem dX12_aTick_232 : decode cX12_aTick 232 = .ok (.iconst 1, 1) := by decide +kernel
theorem dX12_aTick_233 : decode cX12_aTick 233 = .ok (.iadd, 1) := by decide +kernel
theorem dX12_aTick_234 : decode cX12_aTick 234 = .ok (.putfield 287, 3) := by decide +kernel
theorem dX12_aTick_237 : decode cX12_aTick 237 = .ok (.return_, 1) := by decide +kernel
set_option maxRecDepth 20000 in
theorem ggX12_goOn_X12_aTick : GoodIn wsX12_goOn wsX12_aTick := goodIn_r _ [5, 6, 7, 8, 9, 10, 11, 12, 13, 14, 15, 16, 17, 18, 19, 4, 20, 21, 22, 23, 24, 25, 26, 27, 28, 29, 30, 31, 32, 33, 34, 35, 36, 37, 38, 39, 40, 41, 42, 43, 44, 45, 46, 47, 48, 49, 50, 51, 52, 53, 54, 55, 56, 57, 58, 59, 60, 61, 62, 63, 64, 65, 66, 67, 68, 69, 70, 71, 72, 73, 74, 75, 76, 77, 78, 79, 80, 81, 82, 83, 84, 85, 86, 87, 88, 89, 90, 91, 92, 93, 94, 95, 96, 97, 98, 99, 100, 101, 102, 103, 104, 105, 106, 107, 108, 109, 110, 111, 112, 113, 114, 115, 116, 117, 118, 119, 120, 121, 122, 123, 124, 125, 126, 127, 128, 129, 130, 131, 132, 133, 134] (by decide +kernel) (by decide +kernel)
set_option maxRecDepth 20000 in
theorem gX12_goOn_X12_aTick : GoodIn wsX12_goOn (wsV RX12 348 RX12 yX12_aTick wsX12_aTick) := goodIn_app (goodIn_of _ (by decide +kernel)) ggX12_goOn_X12_aTick
theorem dX12_goOn_0 : decode cX12_goOn 0 = .ok (.iconst 0, 1) := by decide +kernel
theorem dX12_goOn_1 : decode cX12_goOn 1 = .ok (.istore_n 2, 1) := by decide +kernel
theorem dX12_goOn_2 : decode cX12_goOn 2 = .ok (.iload_n 2, 1) := by decide +kernel
theorem dX12_goOn_3 : decode cX12_goOn 3 = .ok (.iload_n 1, 1) := by decide +kernel
theorem dX12_goOn_4 : decode cX12_goOn 4 = .ok (.if_icmp .ge 13, 3) := by decide +kernel
theorem dX12_goOn_7 : decode cX12_goOn 7 = .ok (.aload_n 0, 1) := by decide +kernel
theorem dX12_goOn_8 : decode cX12_goOn 8 = .ok (.invokevirtual 348, 3) := by decide +kernel
theorem dX12_goOn_11 : decode cX12_goOn 11 = .ok (.iinc 2 1, 3) := by decide +kernel
theorem dX12_goOn_14 : decode cX12_goOn 14 = .ok (.goto (-12), 3) := by decide +kernel
theorem dX12_goOn_17 : decode cX12_goOn 17 = .ok (.return_, 1) := by decide +kernel
theorem dX12_waitingNow_0 : decode cX12_waitingNow 0 = .ok (.iconst 0, 1) := by decide +kernel
theorem dX12_waitingNow_1 : decode cX12_waitingNow 1 = .ok (.istore_n 1, 1) := by decide +kernel
theorem dX12_waitingNow_2 : decode cX12_waitingNow 2 = .ok (.iconst 0, 1) := by decide +kernel
theorem dX12_waitingNow_3 : decode cX12_waitingNow 3 = .ok (.istore_n 2, 1) := by decide +kernel
theorem dX12_waitingNow_4 : decode cX12_waitingNow 4 = .ok (.iload_n 2, 1) := by decide +kernel
theorem dX12_waitingNow_5 : decode cX12_waitingNow 5 = .ok (.aload_n 0, 1) := by decide +kernel
theorem dX12_waitingNow_6 : decode cX12_waitingNow 6 = .ok (.getfield 34, 3) := by decide +kernel
theorem dX12_waitingNow_9 : decode cX12_waitingNow 9 = .ok (.iconst 0, 1) := by decide +kernel
theorem dX12_waitingNow_10 : decode cX12_waitingNow 10 = .ok (.iaload, 1) := by decide +kernel
theorem dX12_waitingNow_11 : decode cX12_waitingNow 11 = .ok (.if_icmp .ge 28, 3) := by decide +kernel
theorem dX12_waitingNow_14 : decode cX12_waitingNow 14 = .ok (.iload_n 1, 1) := by decide +kernel
theorem dX12_waitingNow_15 : decode cX12_waitingNow 15 = .ok (.aload_n 0, 1) := by decide +kernel
theorem dX12_waitingNow_16 : decode cX12_waitingNow 16 = .ok (.getfield 69, 3) := by decide +kernel
theorem dX12_waitingNow_19 : decode cX12_waitingNow 19 = .ok (.iload_n 2, 1) := by decide +kernel
theorem dX12_waitingNow_20 : decode cX12_waitingNow 20 = .ok (.iaload, 1) := by decide +kernel
theorem dX12_waitingNow_21 : decode cX12_waitingNow 21 = .ok (.ifCond .le 9, 3) := by decide +kernel
theorem dX12_waitingNow_24 : decode cX12_waitingNow 24 = .ok (.iconst 1, 1) := by decide +kernel
theorem dX12_waitingNow_25 : decode cX12_waitingNow 25 = .ok (.iload_n 2, 1) := by decide +kernel
theorem dX12_waitingNow_26 : decode cX12_waitingNow 26 = .ok (.ishl, 1) := by decide +kernel
theorem dX12_waitingNow_27 : decode cX12_waitingNow 27 = .ok (.goto 4, 3) := by decide +kernel
theorem dX12_waitingNow_30 : decode cX12_waitingNow 30 = .ok (.iconst 0, 1) := by decide +kernel
theorem dX12_waitingNow_31 : decode cX12_waitingNow 31 = .ok (.ior, 1) := by decide +kernel
theorem dX12_waitingNow_32 : decode cX12_waitingNow 32 = .ok (.istore_n 1, 1) := by decide +kernel
theorem dX12_waitingNow_33 : decode cX12_waitingNow 33 = .ok (.iinc 2 1, 3) := by decide +kernel
theorem dX12_waitingNow_36 : decode cX12_waitingNow 36 = .ok (.goto (-32), 3) := by decide +kernel
theorem dX12_waitingNow_39 : decode cX12_waitingNow 39 = .ok (.iload_n 1, 1) := by decide +kernel
theorem dX12_waitingNow_40 : decode cX12_waitingNow 40 = .ok (.ireturn, 1) := by decide +kernel
set_option maxRecDepth 20000 in
theorem ggX12_heldWith_X12_isOf : GoodIn wsX12_heldWith wsX12_isOf := goodIn_r _ [5] (by decide +kernel) (by decide +kernel)
set_option maxRecDepth 20000 in
theorem gX12_heldWith_X12_isOf : GoodIn wsX12_heldWith (va_wsS RX12 332 yX12_isOf wsX12_isOf) := goodIn_app (goodIn_of _ (by decide +kernel)) ggX12_heldWith_X12_isOf
set_option maxRecDepth 20000 in
theorem ggX12_heldWith_X12_seesOf : GoodIn wsX12_heldWith wsX12_seesOf := goodIn_r _ [9, 1, 10, 11, 12, 4, 13, 14, 15, 16, 17, 18, 19, 20, 21, 22, 23, 24, 25, 26, 27, 28, 29, 30, 31, 32, 33, 34, 35, 36, 37, 38, 39, 40, 41, 42, 43, 44, 45, 46, 47, 48, 49, 50, 51, 52, 53, 54, 55, 56, 57, 58, 59, 60, 61, 62, 63, 64, 65, 66, 67, 68, 69, 70, 71, 72, 73, 74, 75, 76, 77, 78, 79, 80, 81, 82, 83, 84, 85, 86, 87, 88, 89, 90, 91, 92, 93, 94, 95, 96, 97, 98, 99, 100, 101, 102, 103, 104, 105, 106] (by decide +kernel) (by decide +kernel)
set_option maxRecDepth 20000 in
theorem gX12_heldWith_X12_seesOf : GoodIn wsX12_heldWith (wsV RX12 343 RX12 yX12_seesOf wsX12_seesOf) := goodIn_app (goodIn_of _ (by decide +kernel)) ggX12_heldWith_X12_seesOf
theorem dX12_heldWith_0 : decode cX12_heldWith 0 = .ok (.iconst 1, 1) := by decide +kernel
theorem dX12_heldWith_1 : decode cX12_heldWith 1 = .ok (.iload_n 1, 1) := by decide +kernel
theorem dX12_heldWith_2 : decode cX12_heldWith 2 = .ok (.ishl, 1) := by decide +kernel
theorem dX12_heldWith_3 : decode cX12_heldWith 3 = .ok (.istore_n 2, 1) := by decide +kernel
theorem dX12_heldWith_4 : decode cX12_heldWith 4 = .ok (.iconst 0, 1) := by decide +kernel
theorem dX12_heldWith_5 : decode cX12_heldWith 5 = .ok (.istore_n 3, 1) := by decide +kernel
theorem dX12_heldWith_6 : decode cX12_heldWith 6 = .ok (.iload_n 3, 1) := by decide +kernel
theorem dX12_heldWith_7 : decode cX12_heldWith 7 = .ok (.aload_n 0, 1) := by decide +kernel
theorem dX12_heldWith_8 : decode cX12_heldWith 8 = .ok (.getfield 34, 3) := by decide +kernel
theorem dX12_heldWith_11 : decode cX12_heldWith 11 = .ok (.iconst 0, 1) := by decide +kernel
theorem dX12_heldWith_12 : decode cX12_heldWith 12 = .ok (.iaload, 1) := by decide +kernel
theorem dX12_heldWith_13 : decode cX12_heldWith 13 = .ok (.if_icmp .ge 51, 3) := by decide +kernel
theorem dX12_heldWith_16 : decode cX12_heldWith 16 = .ok (.iconst 0, 1) := by decide +kernel
theorem dX12_heldWith_17 : decode cX12_heldWith 17 = .ok (.istore 4, 2) := by decide +kernel
theorem dX12_heldWith_19 : decode cX12_heldWith 19 = .ok (.iload 4, 2) := by decide +kernel
theorem dX12_heldWith_21 : decode cX12_heldWith 21 = .ok (.aload_n 0, 1) := by decide +kernel
theorem dX12_heldWith_22 : decode cX12_heldWith 22 = .ok (.getfield 34, 3) := by decide +kernel
theorem dX12_heldWith_25 : decode cX12_heldWith 25 = .ok (.iconst 0, 1) := by decide +kernel
theorem dX12_heldWith_26 : decode cX12_heldWith 26 = .ok (.iaload, 1) := by decide +kernel
theorem dX12_heldWith_27 : decode cX12_heldWith 27 = .ok (.if_icmp .ge 31, 3) := by decide +kernel
theorem dX12_heldWith_30 : decode cX12_heldWith 30 = .ok (.iload_n 2, 1) := by decide +kernel
theorem dX12_heldWith_31 : decode cX12_heldWith 31 = .ok (.iload_n 2, 1) := by decide +kernel
theorem dX12_heldWith_32 : decode cX12_heldWith 32 = .ok (.iload 4, 2) := by decide +kernel
theorem dX12_heldWith_34 : decode cX12_heldWith 34 = .ok (.invokestatic 332, 3) := by decide +kernel
theorem dX12_heldWith_37 : decode cX12_heldWith 37 = .ok (.ifCond .eq 12, 3) := by decide +kernel
theorem dX12_heldWith_40 : decode cX12_heldWith 40 = .ok (.aload_n 0, 1) := by decide +kernel
theorem dX12_heldWith_41 : decode cX12_heldWith 41 = .ok (.iload 4, 2) := by decide +kernel
theorem dX12_heldWith_43 : decode cX12_heldWith 43 = .ok (.invokevirtual 343, 3) := by decide +kernel
theorem dX12_heldWith_46 : decode cX12_heldWith 46 = .ok (.goto 4, 3) := by decide +kernel
theorem dX12_heldWith_49 : decode cX12_heldWith 49 = .ok (.iconst 0, 1) := by decide +kernel
theorem dX12_heldWith_50 : decode cX12_heldWith 50 = .ok (.ior, 1) := by decide +kernel
theorem dX12_heldWith_51 : decode cX12_heldWith 51 = .ok (.istore_n 2, 1) := by decide +kernel
theorem dX12_heldWith_52 : decode cX12_heldWith 52 = .ok (.iinc 4 1, 3) := by decide +kernel
theorem dX12_heldWith_55 : decode cX12_heldWith 55 = .ok (.goto (-36), 3) := by decide +kernel
theorem dX12_heldWith_58 : decode cX12_heldWith 58 = .ok (.iinc 3 1, 3) := by decide +kernel
theorem dX12_heldWith_61 : decode cX12_heldWith 61 = .ok (.goto (-55), 3) := by decide +kernel
theorem dX12_heldWith_64 : decode cX12_heldWith 64 = .ok (.iload_n 2, 1) := by decide +kernel
theorem dX12_heldWith_65 : decode cX12_heldWith 65 = .ok (.ireturn, 1) := by decide +kernel
set_option maxRecDepth 20000 in
theorem ggX12_partsNow_X12_isOf : GoodIn wsX12_partsNow wsX12_isOf := goodIn_r _ [5] (by decide +kernel) (by decide +kernel)
set_option maxRecDepth 20000 in
theorem gX12_partsNow_X12_isOf : GoodIn wsX12_partsNow (va_wsS RX12 332 yX12_isOf wsX12_isOf) := goodIn_app (goodIn_of _ (by decide +kernel)) ggX12_partsNow_X12_isOf
set_option maxRecDepth 20000 in
theorem ggX12_partsNow_X12_heldWith : GoodIn wsX12_partsNow wsX12_heldWith := goodIn_r _ [9, 1, 2, 3, 4, 5, 10, 11, 12, 13, 14, 15, 16, 17, 18, 19, 20, 21, 22, 23, 24, 25, 26, 27, 28, 29, 30, 31, 32, 33, 34, 35, 36, 37, 38, 39, 40, 41, 42, 43, 44, 45, 46, 47, 48, 49, 50, 51, 52, 53, 54, 55, 56, 57, 58, 59, 60, 61, 62, 63, 64, 65, 66, 67, 68, 69, 70, 71, 72, 73, 74, 75, 76, 77, 78, 79, 80, 81, 82, 83, 84, 85, 86, 87, 88, 89, 90, 91, 92, 93, 94, 95, 96, 97, 98, 99, 100, 101, 102, 103, 104, 105, 106, 107, 108, 109, 110] (by decide +kernel) (by decide +kernel)
set_option maxRecDepth 20000 in
theorem gX12_partsNow_X12_heldWith : GoodIn wsX12_partsNow (wsV RX12 351 RX12 yX12_heldWith wsX12_heldWith) := goodIn_app (goodIn_of _ (by decide +kernel)) ggX12_partsNow_X12_heldWith
theorem dX12_partsNow_0 : decode cX12_partsNow 0 = .ok (.iconst 0, 1) := by decide +kernel
theorem dX12_partsNow_1 : decode cX12_partsNow 1 = .ok (.istore_n 1, 1) := by decide +kernel
theorem dX12_partsNow_2 : decode cX12_partsNow 2 = .ok (.iconst 0, 1) := by decide +kernel
theorem dX12_partsNow_3 : decode cX12_partsNow 3 = .ok (.istore_n 2, 1) := by decide +kernel
theorem dX12_partsNow_4 : decode cX12_partsNow 4 = .ok (.iconst 0, 1) := by decide +kernel
theorem dX12_partsNow_5 : decode cX12_partsNow 5 = .ok (.istore_n 3, 1) := by decide +kernel
theorem dX12_partsNow_6 : decode cX12_partsNow 6 = .ok (.iload_n 3, 1) := by decide +kernel
theorem dX12_partsNow_7 : decode cX12_partsNow 7 = .ok (.aload_n 0, 1) := by decide +kernel
theorem dX12_partsNow_8 : decode cX12_partsNow 8 = .ok (.getfield 34, 3) := by decide +kernel
theorem dX12_partsNow_11 : decode cX12_partsNow 11 = .ok (.iconst 0, 1) := by decide +kernel
theorem dX12_partsNow_12 : decode cX12_partsNow 12 = .ok (.iaload, 1) := by decide +kernel
theorem dX12_partsNow_13 : decode cX12_partsNow 13 = .ok (.if_icmp .ge 31, 3) := by decide +kernel
theorem dX12_partsNow_16 : decode cX12_partsNow 16 = .ok (.iload_n 2, 1) := by decide +kernel
theorem dX12_partsNow_17 : decode cX12_partsNow 17 = .ok (.iload_n 3, 1) := by decide +kernel
theorem dX12_partsNow_18 : decode cX12_partsNow 18 = .ok (.invokestatic 332, 3) := by decide +kernel
theorem dX12_partsNow_21 : decode cX12_partsNow 21 = .ok (.ifCond .eq 6, 3) := by decide +kernel
theorem dX12_partsNow_24 : decode cX12_partsNow 24 = .ok (.goto 14, 3) := by decide +kernel
theorem dX12_partsNow_27 : decode cX12_partsNow 27 = .ok (.iload_n 2, 1) := by decide +kernel
theorem dX12_partsNow_28 : decode cX12_partsNow 28 = .ok (.aload_n 0, 1) := by decide +kernel
theorem dX12_partsNow_29 : decode cX12_partsNow 29 = .ok (.iload_n 3, 1) := by decide +kernel
theorem dX12_partsNow_30 : decode cX12_partsNow 30 = .ok (.invokevirtual 351, 3) := by decide +kernel
theorem dX12_partsNow_33 : decode cX12_partsNow 33 = .ok (.ior, 1) := by decide +kernel
theorem dX12_partsNow_34 : decode cX12_partsNow 34 = .ok (.istore_n 2, 1) := by decide +kernel
theorem dX12_partsNow_35 : decode cX12_partsNow 35 = .ok (.iinc 1 1, 3) := by decide +kernel
theorem dX12_partsNow_38 : decode cX12_partsNow 38 = .ok (.iinc 3 1, 3) := by decide +kernel
theorem dX12_partsNow_41 : decode cX12_partsNow 41 = .ok (.goto (-35), 3) := by decide +kernel
theorem dX12_partsNow_44 : decode cX12_partsNow 44 = .ok (.iload_n 1, 1) := by decide +kernel
theorem dX12_partsNow_45 : decode cX12_partsNow 45 = .ok (.ireturn, 1) := by decide +kernel
set_option maxRecDepth 20000 in
theorem ggX12_watchNow_X12_seesOf : GoodIn wsX12_watchNow wsX12_seesOf := goodIn_r _ [7, 1, 8, 9, 10, 6, 11, 12, 13, 14, 15, 16, 17, 18, 19, 20, 21, 22, 23, 24, 25, 26, 27, 28, 29, 30, 31, 32, 33, 34, 35, 36, 37, 38, 39, 40, 41, 42, 43, 44, 45, 46, 47, 58, 59, 60, 61, 62, 63, 64, 65, 66, 67, 68, 69, 70, 71, 72, 73, 74, 75, 76, 77, 78, 79, 80, 81, 82, 83, 84, 85, 86, 87, 88, 89, 90, 91, 92, 93, 94, 95, 96, 97, 98, 99, 100, 101, 102, 103, 104, 105, 106, 107, 108, 109, 110, 111, 112, 113, 114] (by decide +kernel) (by decide +kernel)
set_option maxRecDepth 20000 in
theorem gX12_watchNow_X12_seesOf : GoodIn wsX12_watchNow (wsV RX12 343 RX12 yX12_seesOf wsX12_seesOf) := goodIn_app (goodIn_of _ (by decide +kernel)) ggX12_watchNow_X12_seesOf
set_option maxRecDepth 20000 in
theorem ggX12_watchNow_X12_all : GoodIn wsX12_watchNow wsX12_all := goodIn_r _ [51, 1, 58, 59, 60, 61, 62, 63, 64, 65, 66, 67, 68, 69, 70, 71, 72, 73, 74, 75, 76, 77, 78, 79, 80, 81, 82, 83, 84, 85, 86, 87, 88, 89, 90, 91, 92, 93, 94, 95, 96, 97, 98, 99, 100, 101, 102, 103, 104, 105, 106, 107, 108, 109, 110, 111, 112, 113, 114] (by decide +kernel) (by decide +kernel)
set_option maxRecDepth 20000 in
theorem gX12_watchNow_X12_all : GoodIn wsX12_watchNow (wsV RX12 354 RX12 yX12_all wsX12_all) := goodIn_app (goodIn_of _ (by decide +kernel)) ggX12_watchNow_X12_all
set_option maxRecDepth 20000 in
theorem ggX12_watchNow_X12_bitsOf : GoodIn wsX12_watchNow wsX12_bitsOf := goodIn_r _ [54] (by decide +kernel) (by decide +kernel)
set_option maxRecDepth 20000 in
theorem gX12_watchNow_X12_bitsOf : GoodIn wsX12_watchNow (va_wsS RX12 335 yX12_bitsOf wsX12_bitsOf) := goodIn_app (goodIn_of _ (by decide +kernel)) ggX12_watchNow_X12_bitsOf
set_option maxRecDepth 20000 in
theorem ggX12_watchNow_X12_isOf : GoodIn wsX12_watchNow wsX12_isOf := goodIn_r _ [57] (by decide +kernel) (by decide +kernel)
set_option maxRecDepth 20000 in
theorem gX12_watchNow_X12_isOf : GoodIn wsX12_watchNow (va_wsS RX12 332 yX12_isOf wsX12_isOf) := goodIn_app (goodIn_of _ (by decide +kernel)) ggX12_watchNow_X12_isOf
theorem dX12_watchNow_0 : decode cX12_watchNow 0 = .ok (.iconst 0, 1) := by decide +kernel
theorem dX12_watchNow_1 : decode cX12_watchNow 1 = .ok (.istore_n 1, 1) := by decide +kernel
theorem dX12_watchNow_2 : decode cX12_watchNow 2 = .ok (.iload_n 1, 1) := by decide +kernel
theorem dX12_watchNow_3 : decode cX12_watchNow 3 = .ok (.aload_n 0, 1) := by decide +kernel
theorem dX12_watchNow_4 : decode cX12_watchNow 4 = .ok (.getfield 34, 3) := by decide +kernel
theorem dX12_watchNow_7 : decode cX12_watchNow 7 = .ok (.iconst 0, 1) := by decide +kernel
theorem dX12_watchNow_8 : decode cX12_watchNow 8 = .ok (.iaload, 1) := by decide +kernel
theorem dX12_watchNow_9 : decode cX12_watchNow 9 = .ok (.if_icmp .ge 24, 3) := by decide +kernel
theorem dX12_watchNow_12 : decode cX12_watchNow 12 = .ok (.aload_n 0, 1) := by decide +kernel
theorem dX12_watchNow_13 : decode cX12_watchNow 13 = .ok (.getfield 93, 3) := by decide +kernel
theorem dX12_watchNow_16 : decode cX12_watchNow 16 = .ok (.iload_n 1, 1) := by decide +kernel
theorem dX12_watchNow_17 : decode cX12_watchNow 17 = .ok (.aload_n 0, 1) := by decide +kernel
theorem dX12_watchNow_18 : decode cX12_watchNow 18 = .ok (.iload_n 1, 1) := by decide +kernel
theorem dX12_watchNow_19 : decode cX12_watchNow 19 = .ok (.invokevirtual 343, 3) := by decide +kernel
theorem dX12_watchNow_22 : decode cX12_watchNow 22 = .ok (.iconst 1, 1) := by decide +kernel
theorem dX12_watchNow_23 : decode cX12_watchNow 23 = .ok (.iload_n 1, 1) := by decide +kernel
theorem dX12_watchNow_24 : decode cX12_watchNow 24 = .ok (.ishl, 1) := by decide +kernel
theorem dX12_watchNow_25 : decode cX12_watchNow 25 = .ok (.ior, 1) := by decide +kernel
theorem dX12_watchNow_26 : decode cX12_watchNow 26 = .ok (.iastore, 1) := by decide +kernel
theorem dX12_watchNow_27 : decode cX12_watchNow 27 = .ok (.iinc 1 1, 3) := by decide +kernel
theorem dX12_watchNow_30 : decode cX12_watchNow 30 = .ok (.goto (-28), 3) := by decide +kernel
theorem dX12_watchNow_33 : decode cX12_watchNow 33 = .ok (.iconst (-1), 1) := by decide +kernel
theorem dX12_watchNow_34 : decode cX12_watchNow 34 = .ok (.istore_n 1, 1) := by decide +kernel
theorem dX12_watchNow_35 : decode cX12_watchNow 35 = .ok (.iconst 0, 1) := by decide +kernel
theorem dX12_watchNow_36 : decode cX12_watchNow 36 = .ok (.istore_n 2, 1) := by decide +kernel
theorem dX12_watchNow_37 : decode cX12_watchNow 37 = .ok (.iload_n 2, 1) := by decide +kernel
theorem dX12_watchNow_38 : decode cX12_watchNow 38 = .ok (.aload_n 0, 1) := by decide +kernel
theorem dX12_watchNow_39 : decode cX12_watchNow 39 = .ok (.invokevirtual 354, 3) := by decide +kernel
theorem dX12_watchNow_42 : decode cX12_watchNow 42 = .ok (.if_icmp .gt 83, 3) := by decide +kernel
theorem dX12_watchNow_45 : decode cX12_watchNow 45 = .ok (.iload_n 1, 1) := by decide +kernel
theorem dX12_watchNow_46 : decode cX12_watchNow 46 = .ok (.iconst (-1), 1) := by decide +kernel
theorem dX12_watchNow_47 : decode cX12_watchNow 47 = .ok (.if_icmp .eq 17, 3) := by decide +kernel
theorem dX12_watchNow_50 : decode cX12_watchNow 50 = .ok (.iload_n 2, 1) := by decide +kernel
theorem dX12_watchNow_51 : decode cX12_watchNow 51 = .ok (.invokestatic 335, 3) := by decide +kernel
theorem dX12_watchNow_54 : decode cX12_watchNow 54 = .ok (.iload_n 1, 1) := by decide +kernel
theorem dX12_watchNow_55 : decode cX12_watchNow 55 = .ok (.invokestatic 335, 3) := by decide +kernel
theorem dX12_watchNow_58 : decode cX12_watchNow 58 = .ok (.if_icmp .lt 6, 3) := by decide +kernel
theorem dX12_watchNow_61 : decode cX12_watchNow 61 = .ok (.goto 58, 3) := by decide +kernel
theorem dX12_watchNow_64 : decode cX12_watchNow 64 = .ok (.iconst 0, 1) := by decide +kernel
theorem dX12_watchNow_65 : decode cX12_watchNow 65 = .ok (.istore_n 3, 1) := by decide +kernel
theorem dX12_watchNow_66 : decode cX12_watchNow 66 = .ok (.iconst 0, 1) := by decide +kernel
theorem dX12_watchNow_67 : decode cX12_watchNow 67 = .ok (.istore 4, 2) := by decide +kernel
theorem dX12_watchNow_69 : decode cX12_watchNow 69 = .ok (.iload 4, 2) := by decide +kernel
theorem dX12_watchNow_71 : decode cX12_watchNow 71 = .ok (.aload_n 0, 1) := by decide +kernel
theorem dX12_watchNow_72 : decode cX12_watchNow 72 = .ok (.getfield 34, 3) := by decide +kernel
theorem dX12_watchNow_75 : decode cX12_watchNow 75 = .ok (.iconst 0, 1) := by decide +kernel
theorem dX12_watchNow_76 : decode cX12_watchNow 76 = .ok (.iaload, 1) := by decide +kernel
theorem dX12_watchNow_77 : decode cX12_watchNow 77 = .ok (.if_icmp .ge 32, 3) := by decide +kernel
theorem dX12_watchNow_80 : decode cX12_watchNow 80 = .ok (.iload_n 3, 1) := by decide +kernel
theorem dX12_watchNow_81 : decode cX12_watchNow 81 = .ok (.iload_n 2, 1) := by decide +kernel
theorem dX12_watchNow_82 : decode cX12_watchNow 82 = .ok (.iload 4, 2) := by decide +kernel
theorem dX12_watchNow_84 : decode cX12_watchNow 84 = .ok (.invokestatic 332, 3) := by decide +kernel
theorem dX12_watchNow_87 : decode cX12_watchNow 87 = .ok (.ifCond .eq 13, 3) := by decide +kernel
theorem dX12_watchNow_90 : decode cX12_watchNow 90 = .ok (.aload_n 0, 1) := by decide +kernel
theorem dX12_watchNow_91 : decode cX12_watchNow 91 = .ok (.getfield 93, 3) := by decide +kernel
theorem dX12_watchNow_94 : decode cX12_watchNow 94 = .ok (.iload 4, 2) := by decide +kernel
theorem dX12_watchNow_96 : decode cX12_watchNow 96 = .ok (.iaload, 1) := by decide +kernel
theorem dX12_watchNow_97 : decode cX12_watchNow 97 = .ok (.goto 4, 3) := by decide +kernel
theorem dX12_watchNow_100 : decode cX12_watchNow 100 = .ok (.iconst 0, 1) := by decide +kernel
theorem dX12_watchNow_101 : decode cX12_watchNow 101 = .ok (.ior, 1) := by decide +kernel
theorem dX12_watchNow_102 : decode cX12_watchNow 102 = .ok (.istore_n 3, 1) := by decide +kernel
theorem dX12_watchNow_103 : decode cX12_watchNow 103 = .ok (.iinc 4 1, 3) := by decide +kernel
theorem dX12_watchNow_106 : decode cX12_watchNow 106 = .ok (.goto (-37), 3) := by decide +kernel
theorem dX12_watchNow_109 : decode cX12_watchNow 109 = .ok (.iload_n 3, 1) := by decide +kernel
theorem dX12_watchNow_110 : decode cX12_watchNow 110 = .ok (.aload_n 0, 1) := by decide +kernel
theorem dX12_watchNow_111 : decode cX12_watchNow 111 = .ok (.invokevirtual 354, 3) := by decide +kernel
theorem dX12_watchNow_114 : decode cX12_watchNow 114 = .ok (.if_icmp .ne 5, 3) := by decide +kernel
theorem dX12_watchNow_117 : decode cX12_watchNow 117 = .ok (.iload_n 2, 1) := by decide +kernel
theorem dX12_watchNow_118 : decode cX12_watchNow 118 = .ok (.istore_n 1, 1) := by decide +kernel
theorem dX12_watchNow_119 : decode cX12_watchNow 119 = .ok (.iinc 2 1, 3) := by decide +kernel
theorem dX12_watchNow_122 : decode cX12_watchNow 122 = .ok (.goto (-85), 3) := by decide +kernel
theorem dX12_watchNow_125 : decode cX12_watchNow 125 = .ok (.iload_n 1, 1) := by decide +kernel
theorem dX12_watchNow_126 : decode cX12_watchNow 126 = .ok (.ireturn, 1) := by decide +kernel
set_option maxRecDepth 20000 in
theorem ggX12_stareNow_X12_inSight : GoodIn wsX12_stareNow wsX12_inSight := goodIn_r _ [11, 2, 3, 4, 5, 6, 1, 12, 13, 14, 10, 15, 16, 17, 18, 19, 20, 21, 22, 23, 24, 25, 26, 27, 28, 29, 30, 31, 32, 33, 34, 35, 36, 37, 38, 39, 40, 41, 42, 43, 44, 45, 46, 47, 48, 49, 50, 51, 52, 53, 54, 55, 56, 57, 58, 59, 60, 61, 62, 63, 64, 65, 66, 67, 68, 69, 70, 71, 72, 73, 74, 75, 76, 77, 78, 79, 80, 81, 82, 83, 84, 85, 86, 87, 88, 89, 90, 91, 92, 93, 94, 95, 96, 97, 98, 99] (by decide +kernel) (by decide +kernel)
set_option maxRecDepth 20000 in
theorem gX12_stareNow_X12_inSight : GoodIn wsX12_stareNow (wsV RX12 324 RX12 yX12_inSight wsX12_inSight) := goodIn_app (goodIn_of _ (by decide +kernel)) ggX12_stareNow_X12_inSight
theorem dX12_stareNow_0 : decode cX12_stareNow 0 = .ok (.iconst (-1), 1) := by decide +kernel
theorem dX12_stareNow_1 : decode cX12_stareNow 1 = .ok (.istore_n 1, 1) := by decide +kernel
theorem dX12_stareNow_2 : decode cX12_stareNow 2 = .ok (.iconst 0, 1) := by decide +kernel
theorem dX12_stareNow_3 : decode cX12_stareNow 3 = .ok (.istore_n 2, 1) := by decide +kernel
theorem dX12_stareNow_4 : decode cX12_stareNow 4 = .ok (.iconst 0, 1) := by decide +kernel
theorem dX12_stareNow_5 : decode cX12_stareNow 5 = .ok (.istore_n 3, 1) := by decide +kernel
theorem dX12_stareNow_6 : decode cX12_stareNow 6 = .ok (.iload_n 3, 1) := by decide +kernel
theorem dX12_stareNow_7 : decode cX12_stareNow 7 = .ok (.aload_n 0, 1) := by decide +kernel
theorem dX12_stareNow_8 : decode cX12_stareNow 8 = .ok (.getfield 34, 3) := by decide +kernel
theorem dX12_stareNow_11 : decode cX12_stareNow 11 = .ok (.iconst 0, 1) := by decide +kernel
theorem dX12_stareNow_12 : decode cX12_stareNow 12 = .ok (.iaload, 1) := by decide +kernel
theorem dX12_stareNow_13 : decode cX12_stareNow 13 = .ok (.if_icmp .ge 80, 3) := by decide +kernel
theorem dX12_stareNow_16 : decode cX12_stareNow 16 = .ok (.iload_n 3, 1) := by decide +kernel
theorem dX12_stareNow_17 : decode cX12_stareNow 17 = .ok (.iconst 1, 1) := by decide +kernel
theorem dX12_stareNow_18 : decode cX12_stareNow 18 = .ok (.iadd, 1) := by decide +kernel
theorem dX12_stareNow_19 : decode cX12_stareNow 19 = .ok (.istore 4, 2) := by decide +kernel
theorem dX12_stareNow_21 : decode cX12_stareNow 21 = .ok (.iload 4, 2) := by decide +kernel
theorem dX12_stareNow_23 : decode cX12_stareNow 23 = .ok (.aload_n 0, 1) := by decide +kernel
theorem dX12_stareNow_24 : decode cX12_stareNow 24 = .ok (.getfield 34, 3) := by decide +kernel
theorem dX12_stareNow_27 : decode cX12_stareNow 27 = .ok (.iconst 0, 1) := by decide +kernel
theorem dX12_stareNow_28 : decode cX12_stareNow 28 = .ok (.iaload, 1) := by decide +kernel
theorem dX12_stareNow_29 : decode cX12_stareNow 29 = .ok (.if_icmp .ge 58, 3) := by decide +kernel
theorem dX12_stareNow_32 : decode cX12_stareNow 32 = .ok (.aload_n 0, 1) := by decide +kernel
theorem dX12_stareNow_33 : decode cX12_stareNow 33 = .ok (.getfield 41, 3) := by decide +kernel
theorem dX12_stareNow_36 : decode cX12_stareNow 36 = .ok (.iload_n 3, 1) := by decide +kernel
theorem dX12_stareNow_37 : decode cX12_stareNow 37 = .ok (.iaload, 1) := by decide +kernel
theorem dX12_stareNow_38 : decode cX12_stareNow 38 = .ok (.aload_n 0, 1) := by decide +kernel
theorem dX12_stareNow_39 : decode cX12_stareNow 39 = .ok (.getfield 41, 3) := by decide +kernel
theorem dX12_stareNow_42 : decode cX12_stareNow 42 = .ok (.iload 4, 2) := by decide +kernel
theorem dX12_stareNow_44 : decode cX12_stareNow 44 = .ok (.iaload, 1) := by decide +kernel
theorem dX12_stareNow_45 : decode cX12_stareNow 45 = .ok (.isub, 1) := by decide +kernel
theorem dX12_stareNow_46 : decode cX12_stareNow 46 = .ok (.invokestatic 315, 3) := by decide +kernel
theorem dX12_stareNow_49 : decode cX12_stareNow 49 = .ok (.istore 5, 2) := by decide +kernel
theorem dX12_stareNow_51 : decode cX12_stareNow 51 = .ok (.iload 5, 2) := by decide +kernel
theorem dX12_stareNow_53 : decode cX12_stareNow 53 = .ok (.iload_n 2, 1) := by decide +kernel
theorem dX12_stareNow_54 : decode cX12_stareNow 54 = .ok (.if_icmp .le 27, 3) := by decide +kernel
theorem dX12_stareNow_57 : decode cX12_stareNow 57 = .ok (.aload_n 0, 1) := by decide +kernel
theorem dX12_stareNow_58 : decode cX12_stareNow 58 = .ok (.iload_n 3, 1) := by decide +kernel
theorem dX12_stareNow_59 : decode cX12_stareNow 59 = .ok (.iload 4, 2) := by decide +kernel
theorem dX12_stareNow_61 : decode cX12_stareNow 61 = .ok (.invokevirtual 324, 3) := by decide +kernel
theorem dX12_stareNow_64 : decode cX12_stareNow 64 = .ok (.ifCond .ne 6, 3) := by decide +kernel
theorem dX12_stareNow_67 : decode cX12_stareNow 67 = .ok (.goto 14, 3) := by decide +kernel
theorem dX12_stareNow_70 : decode cX12_stareNow 70 = .ok (.bipush 10, 2) := by decide +kernel
theorem dX12_stareNow_72 : decode cX12_stareNow 72 = .ok (.iload_n 3, 1) := by decide +kernel
theorem dX12_stareNow_73 : decode cX12_stareNow 73 = .ok (.imul, 1) := by decide +kernel
theorem dX12_stareNow_74 : decode cX12_stareNow 74 = .ok (.iload 4, 2) := by decide +kernel
theorem dX12_stareNow_76 : decode cX12_stareNow 76 = .ok (.iadd, 1) := by decide +kernel
theorem dX12_stareNow_77 : decode cX12_stareNow 77 = .ok (.istore_n 1, 1) := by decide +kernel
theorem dX12_stareNow_78 : decode cX12_stareNow 78 = .ok (.iload 5, 2) := by decide +kernel
theorem dX12_stareNow_80 : decode cX12_stareNow 80 = .ok (.istore_n 2, 1) := by decide +kernel
theorem dX12_stareNow_81 : decode cX12_stareNow 81 = .ok (.iinc 4 1, 3) := by decide +kernel
theorem dX12_stareNow_84 : decode cX12_stareNow 84 = .ok (.goto (-63), 3) := by decide +kernel
theorem dX12_stareNow_87 : decode cX12_stareNow 87 = .ok (.iinc 3 1, 3) := by decide +kernel
theorem dX12_stareNow_90 : decode cX12_stareNow 90 = .ok (.goto (-84), 3) := by decide +kernel
theorem dX12_stareNow_93 : decode cX12_stareNow 93 = .ok (.iload_n 1, 1) := by decide +kernel
theorem dX12_stareNow_94 : decode cX12_stareNow 94 = .ok (.ireturn, 1) := by decide +kernel
set_option maxRecDepth 20000 in
theorem ggX12_count_X12_mistOf : GoodIn wsX12_count wsX12_mistOf := goodIn_r _ [13, 14, 2, 15, 3, 89, 90, 91, 92, 93, 94, 95, 96, 97, 98, 99, 100, 101, 102, 103, 104, 105, 106, 107, 108, 109, 110, 111, 112, 113, 114, 115, 116, 117, 118, 119, 120, 121, 122, 123, 124, 125, 126, 127, 128, 129, 130, 131, 132, 133, 134, 135, 136, 137, 138, 139, 140, 141, 142, 143, 144, 145] (by decide +kernel) (by decide +kernel)
set_option maxRecDepth 20000 in
theorem gX12_count_X12_mistOf : GoodIn wsX12_count (wsV RX12 318 RX12 yX12_mistOf wsX12_mistOf) := goodIn_app (goodIn_of _ (by decide +kernel)) ggX12_count_X12_mistOf
set_option maxRecDepth 20000 in
theorem ggX12_count_X12_waitingNow : GoodIn wsX12_count wsX12_waitingNow := goodIn_r _ [19, 2, 20, 89, 90, 91, 92, 93, 94, 95, 96, 97, 98, 99, 100, 101, 102, 103, 104, 105, 106, 107, 108, 109, 110, 111, 112, 113, 114, 115, 116, 117, 118, 119, 120, 121, 122, 123, 124, 125, 126, 127, 128, 129, 130, 131, 132, 133, 134, 135, 136, 137, 138, 139, 140, 141, 142, 143, 144, 145] (by decide +kernel) (by decide +kernel)
set_option maxRecDepth 20000 in
theorem gX12_count_X12_waitingNow : GoodIn wsX12_count (wsV RX12 357 RX12 yX12_waitingNow wsX12_waitingNow) := goodIn_app (goodIn_of _ (by decide +kernel)) ggX12_count_X12_waitingNow
set_option maxRecDepth 20000 in
theorem ggX12_count_X12_partsNow : GoodIn wsX12_count wsX12_partsNow := goodIn_r _ [24, 2, 25, 26, 12, 27, 28, 29, 30, 31, 32, 33, 34, 35, 36, 37, 38, 39, 40, 41, 42, 43, 44, 9, 10, 11, 13, 14, 15, 3, 45, 46, 47, 48, 49, 50, 51, 52, 53, 54, 55, 56, 57, 58, 59, 60, 61, 62, 63, 64, 65, 66, 67, 68, 89, 90, 91, 92, 93, 94, 95, 96, 97, 98, 99, 100, 101, 102, 103, 104, 105, 106, 107, 108, 109, 110, 111, 112, 113, 114, 115, 116, 117, 118, 119, 120, 121, 122, 123, 124, 125, 126, 127, 128, 129, 130, 131, 132, 133, 134, 135, 136, 137, 138, 139, 140, 141, 142, 143, 144, 145] (by decide +kernel) (by decide +kernel)
set_option maxRecDepth 20000 in
theorem gX12_count_X12_partsNow : GoodIn wsX12_count (wsV RX12 360 RX12 yX12_partsNow wsX12_partsNow) := goodIn_app (goodIn_of _ (by decide +kernel)) ggX12_count_X12_partsNow
set_option maxRecDepth 20000 in
theorem ggX12_count_X12_watchNow : GoodIn wsX12_count wsX12_watchNow := goodIn_r _ [72, 2, 73, 32, 33, 34, 12, 35, 36, 37, 38, 39, 40, 41, 42, 43, 44, 9, 10, 11, 13, 14, 15, 3, 45, 46, 47, 48, 49, 50, 51, 52, 53, 54, 55, 56, 57, 58, 59, 60, 61, 62, 63, 64, 65, 66, 67, 68, 74, 75, 76, 77, 78, 79, 80, 25, 26, 27, 89, 90, 91, 92, 93, 94, 95, 96, 97, 98, 99, 100, 101, 102, 103, 104, 105, 106, 107, 108, 109, 110, 111, 112, 113, 114, 115, 116, 117, 118, 119, 120, 121, 122, 123, 124, 125, 126, 127, 128, 129, 130, 131, 132, 133, 134, 135, 136, 137, 138, 139, 140, 141, 142, 143, 144, 145] (by decide +kernel) (by decide +kernel)
set_option maxRecDepth 20000 in
theorem gX12_count_X12_watchNow : GoodIn wsX12_count (wsV RX12 363 RX12 yX12_watchNow wsX12_watchNow) := goodIn_app (goodIn_of _ (by decide +kernel)) ggX12_count_X12_watchNow
set_option maxRecDepth 20000 in
theorem ggX12_count_X12_stareNow : GoodIn wsX12_count wsX12_stareNow := goodIn_r _ [84, 2, 40, 41, 42, 43, 44, 36, 37, 38, 12, 39, 9, 10, 11, 13, 14, 15, 3, 45, 46, 47, 48, 49, 50, 51, 52, 53, 54, 55, 56, 57, 58, 59, 60, 61, 62, 63, 64, 65, 66, 67, 68, 89, 90, 91, 92, 93, 94, 95, 96, 97, 98, 99, 100, 101, 102, 103, 104, 105, 106, 107, 108, 109, 110, 111, 112, 113, 114, 115, 116, 117, 118, 119, 120, 121, 122, 123, 124, 125, 126, 127, 128, 129, 130, 131, 132, 133, 134, 135, 136, 137, 138, 139, 140, 141, 142, 143, 144, 145] (by decide +kernel) (by decide +kernel)
set_option maxRecDepth 20000 in
theorem gX12_count_X12_stareNow : GoodIn wsX12_count (wsV RX12 366 RX12 yX12_stareNow wsX12_stareNow) := goodIn_app (goodIn_of _ (by decide +kernel)) ggX12_count_X12_stareNow
set_option maxRecDepth 20000 in
theorem ggX12_count_X12_fail : GoodIn wsX12_count wsX12_fail := goodIn_r _ [88, 1, 89, 90, 91, 92, 93, 94, 95, 96, 97, 98, 99, 100, 101, 102, 103, 104, 105, 106, 107, 108, 109, 110, 111, 112, 113, 114, 115, 116, 117, 118, 119, 120, 121, 122, 123, 124, 125, 126, 127, 128, 129, 130, 131, 132, 133, 134, 135, 136, 137, 138, 139, 140, 141, 142, 143, 144, 145] (by decide +kernel) (by decide +kernel)
set_option maxRecDepth 20000 in
theorem gX12_count_X12_fail : GoodIn wsX12_count (wsV RX12 274 RX12 yX12_fail wsX12_fail) := goodIn_app (goodIn_of _ (by decide +kernel)) ggX12_count_X12_fail
theorem dX12_count_0 : decode cX12_count 0 = .ok (.aload_n 0, 1) := by decide +kernel
theorem dX12_count_1 : decode cX12_count 1 = .ok (.iconst 0, 1) := by decide +kernel
theorem dX12_count_2 : decode cX12_count 2 = .ok (.putfield 142, 3) := by decide +kernel
theorem dX12_count_5 : decode cX12_count 5 = .ok (.iload_n 1, 1) := by decide +kernel
theorem dX12_count_6 : decode cX12_count 6 = .ok (.tableswitch 159 0 15 #[78, 85, 90, 95, 102, 109, 114, 119, 124, 129, 134, 139, 144, 149, 149, 149], 78) := by decide +kernel
theorem dX12_count_84 : decode cX12_count 84 = .ok (.aload_n 0, 1) := by decide +kernel
theorem dX12_count_85 : decode cX12_count 85 = .ok (.getfield 34, 3) := by decide +kernel
theorem dX12_count_88 : decode cX12_count 88 = .ok (.iconst 0, 1) := by decide +kernel
theorem dX12_count_89 : decode cX12_count 89 = .ok (.iaload, 1) := by decide +kernel
theorem dX12_count_90 : decode cX12_count 90 = .ok (.ireturn, 1) := by decide +kernel
theorem dX12_count_91 : decode cX12_count 91 = .ok (.aload_n 0, 1) := by decide +kernel
theorem dX12_count_92 : decode cX12_count 92 = .ok (.getfield 287, 3) := by decide +kernel
theorem dX12_count_95 : decode cX12_count 95 = .ok (.ireturn, 1) := by decide +kernel
theorem dX12_count_96 : decode cX12_count 96 = .ok (.aload_n 0, 1) := by decide +kernel
theorem dX12_count_97 : decode cX12_count 97 = .ok (.invokevirtual 318, 3) := by decide +kernel
theorem dX12_count_100 : decode cX12_count 100 = .ok (.ireturn, 1) := by decide +kernel
theorem dX12_count_101 : decode cX12_count 101 = .ok (.aload_n 0, 1) := by decide +kernel
theorem dX12_count_102 : decode cX12_count 102 = .ok (.getfield 34, 3) := by decide +kernel
theorem dX12_count_105 : decode cX12_count 105 = .ok (.iconst 1, 1) := by decide +kernel
theorem dX12_count_106 : decode cX12_count 106 = .ok (.iaload, 1) := by decide +kernel
theorem dX12_count_107 : decode cX12_count 107 = .ok (.ireturn, 1) := by decide +kernel
theorem dX12_count_108 : decode cX12_count 108 = .ok (.aload_n 0, 1) := by decide +kernel
theorem dX12_count_109 : decode cX12_count 109 = .ok (.getfield 34, 3) := by decide +kernel
theorem dX12_count_112 : decode cX12_count 112 = .ok (.iconst 2, 1) := by decide +kernel
theorem dX12_count_113 : decode cX12_count 113 = .ok (.iaload, 1) := by decide +kernel
theorem dX12_count_114 : decode cX12_count 114 = .ok (.ireturn, 1) := by decide +kernel
theorem dX12_count_115 : decode cX12_count 115 = .ok (.aload_n 0, 1) := by decide +kernel
theorem dX12_count_116 : decode cX12_count 116 = .ok (.getfield 290, 3) := by decide +kernel
theorem dX12_count_119 : decode cX12_count 119 = .ok (.ireturn, 1) := by decide +kernel
theorem dX12_count_120 : decode cX12_count 120 = .ok (.aload_n 0, 1) := by decide +kernel
theorem dX12_count_121 : decode cX12_count 121 = .ok (.invokevirtual 357, 3) := by decide +kernel
theorem dX12_count_124 : decode cX12_count 124 = .ok (.ireturn, 1) := by decide +kernel
theorem dX12_count_125 : decode cX12_count 125 = .ok (.aload_n 0, 1) := by decide +kernel
theorem dX12_count_126 : decode cX12_count 126 = .ok (.invokevirtual 360, 3) := by decide +kernel
theorem dX12_count_129 : decode cX12_count 129 = .ok (.ireturn, 1) := by decide +kernel
theorem dX12_count_130 : decode cX12_count 130 = .ok (.aload_n 0, 1) := by decide +kernel
theorem dX12_count_131 : decode cX12_count 131 = .ok (.invokevirtual 363, 3) := by decide +kernel
theorem dX12_count_134 : decode cX12_count 134 = .ok (.ireturn, 1) := by decide +kernel
theorem dX12_count_135 : decode cX12_count 135 = .ok (.aload_n 0, 1) := by decide +kernel
theorem dX12_count_136 : decode cX12_count 136 = .ok (.invokevirtual 366, 3) := by decide +kernel
theorem dX12_count_139 : decode cX12_count 139 = .ok (.ireturn, 1) := by decide +kernel
theorem dX12_count_140 : decode cX12_count 140 = .ok (.aload_n 0, 1) := by decide +kernel
theorem dX12_count_141 : decode cX12_count 141 = .ok (.getfield 293, 3) := by decide +kernel
theorem dX12_count_144 : decode cX12_count 144 = .ok (.ireturn, 1) := by decide +kernel
theorem dX12_count_145 : decode cX12_count 145 = .ok (.aload_n 0, 1) := by decide +kernel
theorem dX12_count_146 : decode cX12_count 146 = .ok (.getfield 296, 3) := by decide +kernel
theorem dX12_count_149 : decode cX12_count 149 = .ok (.ireturn, 1) := by decide +kernel
theorem dX12_count_150 : decode cX12_count 150 = .ok (.aload_n 0, 1) := by decide +kernel
theorem dX12_count_151 : decode cX12_count 151 = .ok (.getfield 149, 3) := by decide +kernel
theorem dX12_count_154 : decode cX12_count 154 = .ok (.ireturn, 1) := by decide +kernel
theorem dX12_count_155 : decode cX12_count 155 = .ok (.aload_n 0, 1) := by decide +kernel
theorem dX12_count_156 : decode cX12_count 156 = .ok (.getfield 59, 3) := by decide +kernel
theorem dX12_count_159 : decode cX12_count 159 = .ok (.iload_n 1, 1) := by decide +kernel
theorem dX12_count_160 : decode cX12_count 160 = .ok (.bipush 13, 2) := by decide +kernel
theorem dX12_count_162 : decode cX12_count 162 = .ok (.isub, 1) := by decide +kernel
theorem dX12_count_163 : decode cX12_count 163 = .ok (.iaload, 1) := by decide +kernel
theorem dX12_count_164 : decode cX12_count 164 = .ok (.ireturn, 1) := by decide +kernel
theorem dX12_count_165 : decode cX12_count 165 = .ok (.aload_n 0, 1) := by decide +kernel
theorem dX12_count_166 : decode cX12_count 166 = .ok (.iconst 1, 1) := by decide +kernel
theorem dX12_count_167 : decode cX12_count 167 = .ok (.invokevirtual 274, 3) := by decide +kernel
theorem dX12_count_170 : decode cX12_count 170 = .ok (.ireturn, 1) := by decide +kernel
set_option maxRecDepth 20000 in
theorem ggX12_farm_X12_isFarm : GoodIn wsX12_farm wsX12_isFarm := goodIn_r _ [15, 16, 17, 18, 14, 19, 65, 66, 67, 68, 69, 70, 71, 72, 73, 74, 75, 76, 77, 78, 79, 80, 81, 82, 83, 84, 85, 86, 87, 88, 89, 90, 91, 92, 93, 94, 95, 96, 97, 98, 99, 100, 101, 102, 103, 104, 105, 106, 107, 108, 109, 110, 111, 112, 113, 114, 115, 116, 117, 118, 119, 120, 121] (by decide +kernel) (by decide +kernel)
set_option maxRecDepth 20000 in
theorem gX12_farm_X12_isFarm : GoodIn wsX12_farm (wsV RX12 369 RX12 yX12_isFarm wsX12_isFarm) := goodIn_app (goodIn_of _ (by decide +kernel)) ggX12_farm_X12_isFarm
set_option maxRecDepth 20000 in
theorem ggX12_farm_X12_fail : GoodIn wsX12_farm wsX12_fail := goodIn_r _ [23, 1, 65, 66, 67, 68, 69, 70, 71, 72, 73, 74, 75, 76, 77, 78, 79, 80, 81, 82, 83, 84, 85, 86, 87, 88, 89, 90, 91, 92, 93, 94, 95, 96, 97, 98, 99, 100, 101, 102, 103, 104, 105, 106, 107, 108, 109, 110, 111, 112, 113, 114, 115, 116, 117, 118, 119, 120, 121] (by decide +kernel) (by decide +kernel)
set_option maxRecDepth 20000 in
theorem gX12_farm_X12_fail : GoodIn wsX12_farm (wsV RX12 274 RX12 yX12_fail wsX12_fail) := goodIn_app (goodIn_of _ (by decide +kernel)) ggX12_farm_X12_fail
set_option maxRecDepth 20000 in
theorem ggX12_farm_X12_seesOf : GoodIn wsX12_farm wsX12_seesOf := goodIn_r _ [27, 16, 28, 29, 30, 14, 31, 2, 32, 33, 34, 35, 36, 37, 38, 39, 40, 41, 42, 43, 44, 45, 46, 47, 48, 49, 50, 51, 52, 53, 54, 55, 56, 57, 58, 59, 60, 61, 62, 63, 64, 3, 4, 65, 66, 67, 68, 69, 70, 71, 72, 73, 74, 75, 76, 77, 78, 79, 80, 81, 82, 83, 84, 85, 86, 87, 88, 89, 90, 91, 92, 93, 94, 95, 96, 97, 98, 99, 100, 101, 102, 103, 104, 105, 106, 107, 108, 109, 110, 111, 112, 113, 114, 115, 116, 117, 118, 119, 120, 121] (by decide +kernel) (by decide +kernel)
set_option maxRecDepth 20000 in
theorem gX12_farm_X12_seesOf : GoodIn wsX12_farm (wsV RX12 343 RX12 yX12_seesOf wsX12_seesOf) := goodIn_app (goodIn_of _ (by decide +kernel)) ggX12_farm_X12_seesOf
theorem dX12_farm_0 : decode cX12_farm 0 = .ok (.aload_n 0, 1) := by decide +kernel
theorem dX12_farm_1 : decode cX12_farm 1 = .ok (.iconst 0, 1) := by decide +kernel
theorem dX12_farm_2 : decode cX12_farm 2 = .ok (.putfield 142, 3) := by decide +kernel
theorem dX12_farm_5 : decode cX12_farm 5 = .ok (.aload_n 0, 1) := by decide +kernel
theorem dX12_farm_6 : decode cX12_farm 6 = .ok (.iload_n 1, 1) := by decide +kernel
theorem dX12_farm_7 : decode cX12_farm 7 = .ok (.invokevirtual 369, 3) := by decide +kernel
theorem dX12_farm_10 : decode cX12_farm 10 = .ok (.ifCond .ne 9, 3) := by decide +kernel
theorem dX12_farm_13 : decode cX12_farm 13 = .ok (.aload_n 0, 1) := by decide +kernel
theorem dX12_farm_14 : decode cX12_farm 14 = .ok (.iconst 1, 1) := by decide +kernel
theorem dX12_farm_15 : decode cX12_farm 15 = .ok (.invokevirtual 274, 3) := by decide +kernel
theorem dX12_farm_18 : decode cX12_farm 18 = .ok (.ireturn, 1) := by decide +kernel
theorem dX12_farm_19 : decode cX12_farm 19 = .ok (.iload_n 2, 1) := by decide +kernel
theorem dX12_farm_20 : decode cX12_farm 20 = .ok (.tableswitch 127 0 9 #[56, 63, 70, 77, 84, 91, 98, 105, 114, 121], 56) := by decide +kernel
theorem dX12_farm_76 : decode cX12_farm 76 = .ok (.aload_n 0, 1) := by decide +kernel
theorem dX12_farm_77 : decode cX12_farm 77 = .ok (.getfield 41, 3) := by decide +kernel
theorem dX12_farm_80 : decode cX12_farm 80 = .ok (.iload_n 1, 1) := by decide +kernel
theorem dX12_farm_81 : decode cX12_farm 81 = .ok (.iaload, 1) := by decide +kernel
theorem dX12_farm_82 : decode cX12_farm 82 = .ok (.ireturn, 1) := by decide +kernel
theorem dX12_farm_83 : decode cX12_farm 83 = .ok (.aload_n 0, 1) := by decide +kernel
theorem dX12_farm_84 : decode cX12_farm 84 = .ok (.getfield 44, 3) := by decide +kernel
theorem dX12_farm_87 : decode cX12_farm 87 = .ok (.iload_n 1, 1) := by decide +kernel
theorem dX12_farm_88 : decode cX12_farm 88 = .ok (.iaload, 1) := by decide +kernel
theorem dX12_farm_89 : decode cX12_farm 89 = .ok (.ireturn, 1) := by decide +kernel
theorem dX12_farm_90 : decode cX12_farm 90 = .ok (.aload_n 0, 1) := by decide +kernel
theorem dX12_farm_91 : decode cX12_farm 91 = .ok (.getfield 78, 3) := by decide +kernel
theorem dX12_farm_94 : decode cX12_farm 94 = .ok (.iload_n 1, 1) := by decide +kernel
theorem dX12_farm_95 : decode cX12_farm 95 = .ok (.iaload, 1) := by decide +kernel
theorem dX12_farm_96 : decode cX12_farm 96 = .ok (.ireturn, 1) := by decide +kernel
theorem dX12_farm_97 : decode cX12_farm 97 = .ok (.aload_n 0, 1) := by decide +kernel
theorem dX12_farm_98 : decode cX12_farm 98 = .ok (.getfield 50, 3) := by decide +kernel
theorem dX12_farm_101 : decode cX12_farm 101 = .ok (.iload_n 1, 1) := by decide +kernel
theorem dX12_farm_102 : decode cX12_farm 102 = .ok (.iaload, 1) := by decide +kernel
theorem dX12_farm_103 : decode cX12_farm 103 = .ok (.ireturn, 1) := by decide +kernel
theorem dX12_farm_104 : decode cX12_farm 104 = .ok (.aload_n 0, 1) := by decide +kernel
theorem dX12_farm_105 : decode cX12_farm 105 = .ok (.getfield 69, 3) := by decide +kernel
theorem dX12_farm_108 : decode cX12_farm 108 = .ok (.iload_n 1, 1) := by decide +kernel
theorem dX12_farm_109 : decode cX12_farm 109 = .ok (.iaload, 1) := by decide +kernel
theorem dX12_farm_110 : decode cX12_farm 110 = .ok (.ireturn, 1) := by decide +kernel
theorem dX12_farm_111 : decode cX12_farm 111 = .ok (.aload_n 0, 1) := by decide +kernel
theorem dX12_farm_112 : decode cX12_farm 112 = .ok (.getfield 72, 3) := by decide +kernel
theorem dX12_farm_115 : decode cX12_farm 115 = .ok (.iload_n 1, 1) := by decide +kernel
theorem dX12_farm_116 : decode cX12_farm 116 = .ok (.iaload, 1) := by decide +kernel
theorem dX12_farm_117 : decode cX12_farm 117 = .ok (.ireturn, 1) := by decide +kernel
theorem dX12_farm_118 : decode cX12_farm 118 = .ok (.aload_n 0, 1) := by decide +kernel
theorem dX12_farm_119 : decode cX12_farm 119 = .ok (.getfield 75, 3) := by decide +kernel
theorem dX12_farm_122 : decode cX12_farm 122 = .ok (.iload_n 1, 1) := by decide +kernel
theorem dX12_farm_123 : decode cX12_farm 123 = .ok (.iaload, 1) := by decide +kernel
theorem dX12_farm_124 : decode cX12_farm 124 = .ok (.ireturn, 1) := by decide +kernel
theorem dX12_farm_125 : decode cX12_farm 125 = .ok (.aload_n 0, 1) := by decide +kernel
theorem dX12_farm_126 : decode cX12_farm 126 = .ok (.getfield 290, 3) := by decide +kernel
theorem dX12_farm_129 : decode cX12_farm 129 = .ok (.iload_n 1, 1) := by decide +kernel
theorem dX12_farm_130 : decode cX12_farm 130 = .ok (.ishr, 1) := by decide +kernel
theorem dX12_farm_131 : decode cX12_farm 131 = .ok (.iconst 1, 1) := by decide +kernel
theorem dX12_farm_132 : decode cX12_farm 132 = .ok (.iand, 1) := by decide +kernel
theorem dX12_farm_133 : decode cX12_farm 133 = .ok (.ireturn, 1) := by decide +kernel
theorem dX12_farm_134 : decode cX12_farm 134 = .ok (.aload_n 0, 1) := by decide +kernel
theorem dX12_farm_135 : decode cX12_farm 135 = .ok (.getfield 38, 3) := by decide +kernel
theorem dX12_farm_138 : decode cX12_farm 138 = .ok (.iload_n 1, 1) := by decide +kernel
theorem dX12_farm_139 : decode cX12_farm 139 = .ok (.iaload, 1) := by decide +kernel
theorem dX12_farm_140 : decode cX12_farm 140 = .ok (.ireturn, 1) := by decide +kernel
theorem dX12_farm_141 : decode cX12_farm 141 = .ok (.aload_n 0, 1) := by decide +kernel
theorem dX12_farm_142 : decode cX12_farm 142 = .ok (.iload_n 1, 1) := by decide +kernel
theorem dX12_farm_143 : decode cX12_farm 143 = .ok (.invokevirtual 343, 3) := by decide +kernel
theorem dX12_farm_146 : decode cX12_farm 146 = .ok (.ireturn, 1) := by decide +kernel
theorem dX12_farm_147 : decode cX12_farm 147 = .ok (.aload_n 0, 1) := by decide +kernel
theorem dX12_farm_148 : decode cX12_farm 148 = .ok (.iconst 1, 1) := by decide +kernel
theorem dX12_farm_149 : decode cX12_farm 149 = .ok (.invokevirtual 274, 3) := by decide +kernel
theorem dX12_farm_152 : decode cX12_farm 152 = .ok (.ireturn, 1) := by decide +kernel
theorem dX12_refuse_0 : decode cX12_refuse 0 = .ok (.aload_n 0, 1) := by decide +kernel
theorem dX12_refuse_1 : decode cX12_refuse 1 = .ok (.getfield 59, 3) := by decide +kernel
theorem dX12_refuse_4 : decode cX12_refuse 4 = .ok (.iload_n 1, 1) := by decide +kernel
theorem dX12_refuse_5 : decode cX12_refuse 5 = .ok (.dup2, 1) := by decide +kernel
theorem dX12_refuse_6 : decode cX12_refuse 6 = .ok (.iaload, 1) := by decide +kernel
theorem dX12_refuse_7 : decode cX12_refuse 7 = .ok (.iconst 1, 1) := by decide +kernel
theorem dX12_refuse_8 : decode cX12_refuse 8 = .ok (.iadd, 1) := by decide +kernel
theorem dX12_refuse_9 : decode cX12_refuse 9 = .ok (.iastore, 1) := by decide +kernel
theorem dX12_refuse_10 : decode cX12_refuse 10 = .ok (.iconst (-1), 1) := by decide +kernel
theorem dX12_refuse_11 : decode cX12_refuse 11 = .ok (.ireturn, 1) := by decide +kernel
theorem dX12_refused_0 : decode cX12_refused 0 = .ok (.aload_n 0, 1) := by decide +kernel
theorem dX12_refused_1 : decode cX12_refused 1 = .ok (.getfield 59, 3) := by decide +kernel
theorem dX12_refused_4 : decode cX12_refused 4 = .ok (.iconst 1, 1) := by decide +kernel
theorem dX12_refused_5 : decode cX12_refused 5 = .ok (.dup2, 1) := by decide +kernel
theorem dX12_refused_6 : decode cX12_refused 6 = .ok (.iaload, 1) := by decide +kernel
theorem dX12_refused_7 : decode cX12_refused 7 = .ok (.iconst 1, 1) := by decide +kernel
theorem dX12_refused_8 : decode cX12_refused 8 = .ok (.iadd, 1) := by decide +kernel
theorem dX12_refused_9 : decode cX12_refused 9 = .ok (.iastore, 1) := by decide +kernel
theorem dX12_refused_10 : decode cX12_refused 10 = .ok (.iconst 0, 1) := by decide +kernel
theorem dX12_refused_11 : decode cX12_refused 11 = .ok (.ireturn, 1) := by decide +kernel
set_option maxRecDepth 20000 in
theorem ggX12_keep_X12_pack : GoodIn wsX12_keep wsX12_pack := goodIn_r _ [7, 8, 9, 10, 11, 12, 13, 14, 15, 16, 17, 18, 19, 20, 21, 22, 23, 24, 25, 26, 27, 28, 29, 30, 31, 32, 33, 34, 35, 36, 37, 38, 39, 40, 41, 42, 43, 44, 45, 46, 47, 48, 49, 50, 51, 52, 53, 54, 55, 56, 57, 58, 59, 60, 61, 62, 63, 64, 65, 66, 67, 68, 69, 70] (by decide +kernel) (by decide +kernel)
set_option maxRecDepth 20000 in
theorem gX12_keep_X12_pack : GoodIn wsX12_keep (wsV RX12 372 RX12 yX12_pack wsX12_pack) := goodIn_app (goodIn_of _ (by decide +kernel)) ggX12_keep_X12_pack
theorem dX12_keep_0 : decode cX12_keep 0 = .ok (.aload_n 0, 1) := by decide +kernel
theorem dX12_keep_1 : decode cX12_keep 1 = .ok (.getfield 293, 3) := by decide +kernel
theorem dX12_keep_4 : decode cX12_keep 4 = .ok (.bipush 40, 2) := by decide +kernel
theorem dX12_keep_6 : decode cX12_keep 6 = .ok (.if_icmp .ne 46, 3) := by decide +kernel
theorem dX12_keep_9 : decode cX12_keep 9 = .ok (.bipush 38, 2) := by decide +kernel
theorem dX12_keep_11 : decode cX12_keep 11 = .ok (.istore_n 1, 1) := by decide +kernel
theorem dX12_keep_12 : decode cX12_keep 12 = .ok (.iload_n 1, 1) := by decide +kernel
theorem dX12_keep_13 : decode cX12_keep 13 = .ok (.aload_n 0, 1) := by decide +kernel
theorem dX12_keep_14 : decode cX12_keep 14 = .ok (.getfield 81, 3) := by decide +kernel
theorem dX12_keep_17 : decode cX12_keep 17 = .ok (.arraylength, 1) := by decide +kernel
theorem dX12_keep_18 : decode cX12_keep 18 = .ok (.if_icmp .ge 24, 3) := by decide +kernel
theorem dX12_keep_21 : decode cX12_keep 21 = .ok (.aload_n 0, 1) := by decide +kernel
theorem dX12_keep_22 : decode cX12_keep 22 = .ok (.getfield 81, 3) := by decide +kernel
theorem dX12_keep_25 : decode cX12_keep 25 = .ok (.iload_n 1, 1) := by decide +kernel
theorem dX12_keep_26 : decode cX12_keep 26 = .ok (.bipush 38, 2) := by decide +kernel
theorem dX12_keep_28 : decode cX12_keep 28 = .ok (.isub, 1) := by decide +kernel
theorem dX12_keep_29 : decode cX12_keep 29 = .ok (.aload_n 0, 1) := by decide +kernel
theorem dX12_keep_30 : decode cX12_keep 30 = .ok (.getfield 81, 3) := by decide +kernel
theorem dX12_keep_33 : decode cX12_keep 33 = .ok (.iload_n 1, 1) := by decide +kernel
theorem dX12_keep_34 : decode cX12_keep 34 = .ok (.iaload, 1) := by decide +kernel
theorem dX12_keep_35 : decode cX12_keep 35 = .ok (.iastore, 1) := by decide +kernel
theorem dX12_keep_36 : decode cX12_keep 36 = .ok (.iinc 1 1, 3) := by decide +kernel
theorem dX12_keep_39 : decode cX12_keep 39 = .ok (.goto (-27), 3) := by decide +kernel
theorem dX12_keep_42 : decode cX12_keep 42 = .ok (.aload_n 0, 1) := by decide +kernel
theorem dX12_keep_43 : decode cX12_keep 43 = .ok (.dup, 1) := by decide +kernel
theorem dX12_keep_44 : decode cX12_keep 44 = .ok (.getfield 293, 3) := by decide +kernel
theorem dX12_keep_47 : decode cX12_keep 47 = .ok (.iconst 1, 1) := by decide +kernel
theorem dX12_keep_48 : decode cX12_keep 48 = .ok (.isub, 1) := by decide +kernel
theorem dX12_keep_49 : decode cX12_keep 49 = .ok (.putfield 293, 3) := by decide +kernel
theorem dX12_keep_52 : decode cX12_keep 52 = .ok (.aload_n 0, 1) := by decide +kernel
theorem dX12_keep_53 : decode cX12_keep 53 = .ok (.aload_n 0, 1) := by decide +kernel
theorem dX12_keep_54 : decode cX12_keep 54 = .ok (.getfield 81, 3) := by decide +kernel
theorem dX12_keep_57 : decode cX12_keep 57 = .ok (.bipush 38, 2) := by decide +kernel
theorem dX12_keep_59 : decode cX12_keep 59 = .ok (.aload_n 0, 1) := by decide +kernel
theorem dX12_keep_60 : decode cX12_keep 60 = .ok (.getfield 293, 3) := by decide +kernel
theorem dX12_keep_63 : decode cX12_keep 63 = .ok (.imul, 1) := by decide +kernel
theorem dX12_keep_64 : decode cX12_keep 64 = .ok (.invokevirtual 372, 3) := by decide +kernel
theorem dX12_keep_67 : decode cX12_keep 67 = .ok (.aload_n 0, 1) := by decide +kernel
theorem dX12_keep_68 : decode cX12_keep 68 = .ok (.dup, 1) := by decide +kernel
theorem dX12_keep_69 : decode cX12_keep 69 = .ok (.getfield 293, 3) := by decide +kernel
theorem dX12_keep_72 : decode cX12_keep 72 = .ok (.iconst 1, 1) := by decide +kernel
theorem dX12_keep_73 : decode cX12_keep 73 = .ok (.iadd, 1) := by decide +kernel
theorem dX12_keep_74 : decode cX12_keep 74 = .ok (.putfield 293, 3) := by decide +kernel
theorem dX12_keep_77 : decode cX12_keep 77 = .ok (.return_, 1) := by decide +kernel
set_option maxRecDepth 20000 in
theorem ggX12_ticks_X12_isIn : GoodIn wsX12_ticks wsX12_isIn := goodIn_r _ [7] (by decide +kernel) (by decide +kernel)
set_option maxRecDepth 20000 in
theorem gX12_ticks_X12_isIn : GoodIn wsX12_ticks (va_wsS RX12 145 yX12_isIn wsX12_isIn) := goodIn_app (goodIn_of _ (by decide +kernel)) ggX12_ticks_X12_isIn
set_option maxRecDepth 20000 in
theorem ggX12_ticks_X12_refuse : GoodIn wsX12_ticks wsX12_refuse := goodIn_r _ [11, 12, 102, 103, 104, 105, 106, 107, 108, 109, 110, 111, 112, 113, 114, 115, 116, 117, 118, 119, 120, 121, 122, 123, 124, 125, 126, 127, 128, 129, 130, 131, 132, 133, 134, 135, 136, 137, 138, 139, 140, 141, 142, 143, 144, 145, 146, 147, 148, 149, 150, 151, 152, 153, 154, 155, 156, 157, 158] (by decide +kernel) (by decide +kernel)
set_option maxRecDepth 20000 in
theorem gX12_ticks_X12_refuse : GoodIn wsX12_ticks (wsV RX12 378 RX12 yX12_refuse wsX12_refuse) := goodIn_app (goodIn_of _ (by decide +kernel)) ggX12_ticks_X12_refuse
set_option maxRecDepth 20000 in
theorem ggX12_ticks_X12_keep : GoodIn wsX12_ticks wsX12_keep := goodIn_r _ [16, 17, 18, 19, 20, 21, 6, 22, 3, 23, 24, 25, 26, 27, 102, 103, 104, 105, 106, 107, 108, 109, 110, 111, 112, 113, 114, 115, 116, 117, 118, 119, 120, 121, 122, 123, 124, 125, 126, 127, 128, 129, 130, 131, 132, 133, 134, 135, 136, 137, 138, 139, 140, 141, 142, 143, 144, 145, 146, 147, 148, 149, 150, 151, 152, 153, 154, 155, 156, 157, 158] (by decide +kernel) (by decide +kernel)
set_option maxRecDepth 20000 in
theorem gX12_ticks_X12_keep : GoodIn wsX12_ticks (wsV RX12 381 RX12 yX12_keep wsX12_keep) := goodIn_app (goodIn_of _ (by decide +kernel)) ggX12_ticks_X12_keep
set_option maxRecDepth 20000 in
theorem ggX12_ticks_X12_goOn : GoodIn wsX12_ticks wsX12_goOn := goodIn_r _ [31, 32, 33, 34, 6, 35, 36, 37, 24, 25, 26, 38, 39, 40, 41, 23, 42, 3, 43, 44, 45, 46, 47, 48, 49, 50, 51, 52, 53, 54, 55, 56, 57, 58, 59, 60, 61, 62, 63, 64, 65, 66, 67, 68, 69, 70, 71, 72, 73, 74, 75, 76, 77, 78, 79, 80, 81, 82, 83, 27, 84, 85, 86, 87, 88, 89, 90, 91, 92, 93, 94, 95, 96, 97, 98, 99, 100, 101, 102, 103, 104, 105, 106, 107, 108, 109, 110, 111, 112, 113, 114, 115, 116, 117, 118, 119, 120, 121, 122, 123, 124, 125, 126, 127, 128, 129, 130, 131, 132, 133, 134, 135, 136, 137, 138, 139, 140, 141, 142, 143, 144, 145, 146, 147, 148, 149, 150, 151, 152, 153, 154, 155, 156, 157, 158] (by decide +kernel) (by decide +kernel)
set_option maxRecDepth 20000 in
theorem gX12_ticks_X12_goOn : GoodIn wsX12_ticks (wsV RX12 384 RX12 yX12_goOn wsX12_goOn) := goodIn_app (goodIn_of _ (by decide +kernel)) ggX12_ticks_X12_goOn
theorem dX12_ticks_0 : decode cX12_ticks 0 = .ok (.aload_n 0, 1) := by decide +kernel
theorem dX12_ticks_1 : decode cX12_ticks 1 = .ok (.iconst 0, 1) := by decide +kernel
theorem dX12_ticks_2 : decode cX12_ticks 2 = .ok (.putfield 142, 3) := by decide +kernel
theorem dX12_ticks_5 : decode cX12_ticks 5 = .ok (.iload_n 1, 1) := by decide +kernel
theorem dX12_ticks_6 : decode cX12_ticks 6 = .ok (.i2l, 1) := by decide +kernel
theorem dX12_ticks_7 : decode cX12_ticks 7 = .ok (.lconst 1, 1) := by decide +kernel
theorem dX12_ticks_8 : decode cX12_ticks 8 = .ok (.ldc2_w 376, 3) := by decide +kernel
theorem dX12_ticks_11 : decode cX12_ticks 11 = .ok (.invokestatic 145, 3) := by decide +kernel
theorem dX12_ticks_14 : decode cX12_ticks 14 = .ok (.ifCond .eq 15, 3) := by decide +kernel
theorem dX12_ticks_17 : decode cX12_ticks 17 = .ok (.aload_n 0, 1) := by decide +kernel
theorem dX12_ticks_18 : decode cX12_ticks 18 = .ok (.getfield 287, 3) := by decide +kernel
theorem dX12_ticks_21 : decode cX12_ticks 21 = .ok (.iload_n 1, 1) := by decide +kernel
theorem dX12_ticks_22 : decode cX12_ticks 22 = .ok (.iadd, 1) := by decide +kernel
theorem dX12_ticks_23 : decode cX12_ticks 23 = .ok (.sipush 999, 3) := by decide +kernel
theorem dX12_ticks_26 : decode cX12_ticks 26 = .ok (.if_icmp .le 9, 3) := by decide +kernel
theorem dX12_ticks_29 : decode cX12_ticks 29 = .ok (.aload_n 0, 1) := by decide +kernel
theorem dX12_ticks_30 : decode cX12_ticks 30 = .ok (.iconst 1, 1) := by decide +kernel
theorem dX12_ticks_31 : decode cX12_ticks 31 = .ok (.invokevirtual 378, 3) := by decide +kernel
theorem dX12_ticks_34 : decode cX12_ticks 34 = .ok (.ireturn, 1) := by decide +kernel
theorem dX12_ticks_35 : decode cX12_ticks 35 = .ok (.aload_n 0, 1) := by decide +kernel
theorem dX12_ticks_36 : decode cX12_ticks 36 = .ok (.invokevirtual 381, 3) := by decide +kernel
theorem dX12_ticks_39 : decode cX12_ticks 39 = .ok (.aload_n 0, 1) := by decide +kernel
theorem dX12_ticks_40 : decode cX12_ticks 40 = .ok (.iload_n 1, 1) := by decide +kernel
theorem dX12_ticks_41 : decode cX12_ticks 41 = .ok (.invokevirtual 384, 3) := by decide +kernel
theorem dX12_ticks_44 : decode cX12_ticks 44 = .ok (.aload_n 0, 1) := by decide +kernel
theorem dX12_ticks_45 : decode cX12_ticks 45 = .ok (.getfield 287, 3) := by decide +kernel
theorem dX12_ticks_48 : decode cX12_ticks 48 = .ok (.ireturn, 1) := by decide +kernel
set_option maxRecDepth 20000 in
theorem ggX12_isAsleep_X12_isOf : GoodIn wsX12_isAsleep wsX12_isOf := goodIn_r _ [5] (by decide +kernel) (by decide +kernel)
set_option maxRecDepth 20000 in
theorem gX12_isAsleep_X12_isOf : GoodIn wsX12_isAsleep (va_wsS RX12 332 yX12_isOf wsX12_isOf) := goodIn_app (goodIn_of _ (by decide +kernel)) ggX12_isAsleep_X12_isOf
theorem dX12_isAsleep_0 : decode cX12_isAsleep 0 = .ok (.aload_n 0, 1) := by decide +kernel
theorem dX12_isAsleep_1 : decode cX12_isAsleep 1 = .ok (.getfield 290, 3) := by decide +kernel
theorem dX12_isAsleep_4 : decode cX12_isAsleep 4 = .ok (.iload_n 1, 1) := by decide +kernel
theorem dX12_isAsleep_5 : decode cX12_isAsleep 5 = .ok (.invokestatic 332, 3) := by decide +kernel
theorem dX12_isAsleep_8 : decode cX12_isAsleep 8 = .ok (.ireturn, 1) := by decide +kernel
set_option maxRecDepth 20000 in
theorem ggX12_begin_X12_isFarm : GoodIn wsX12_begin wsX12_isFarm := goodIn_r _ [7, 8, 9, 10, 6, 11, 43, 44, 45, 46, 47, 48, 49, 50, 51, 52, 53, 54, 55, 56, 57, 58, 59, 60, 61, 62, 63, 64, 65, 66, 67, 68, 69, 70, 71, 72, 73, 74, 75, 76, 77, 78, 79, 80, 81, 82, 83, 84, 85, 86, 87, 88, 89, 90, 91, 92, 93, 94, 95, 96, 97, 98, 99] (by decide +kernel) (by decide +kernel)
set_option maxRecDepth 20000 in
theorem gX12_begin_X12_isFarm : GoodIn wsX12_begin (wsV RX12 369 RX12 yX12_isFarm wsX12_isFarm) := goodIn_app (goodIn_of _ (by decide +kernel)) ggX12_begin_X12_isFarm
set_option maxRecDepth 20000 in
theorem ggX12_begin_X12_failing : GoodIn wsX12_begin wsX12_failing := goodIn_r _ [15, 1, 43, 44, 45, 46, 47, 48, 49, 50, 51, 52, 53, 54, 55, 56, 57, 58, 59, 60, 61, 62, 63, 64, 65, 66, 67, 68, 69, 70, 71, 72, 73, 74, 75, 76, 77, 78, 79, 80, 81, 82, 83, 84, 85, 86, 87, 88, 89, 90, 91, 92, 93, 94, 95, 96, 97, 98, 99] (by decide +kernel) (by decide +kernel)
set_option maxRecDepth 20000 in
theorem gX12_begin_X12_failing : GoodIn wsX12_begin (wsV RX12 387 RX12 yX12_failing wsX12_failing) := goodIn_app (goodIn_of _ (by decide +kernel)) ggX12_begin_X12_failing
set_option maxRecDepth 20000 in
theorem ggX12_begin_X12_isAsleep : GoodIn wsX12_begin wsX12_isAsleep := goodIn_r _ [19, 20, 21, 22, 6, 23, 43, 44, 45, 46, 47, 48, 49, 50, 51, 52, 53, 54, 55, 56, 57, 58, 59, 60, 61, 62, 63, 64, 65, 66, 67, 68, 69, 70, 71, 72, 73, 74, 75, 76, 77, 78, 79, 80, 81, 82, 83, 84, 85, 86, 87, 88, 89, 90, 91, 92, 93, 94, 95, 96, 97, 98, 99] (by decide +kernel) (by decide +kernel)
set_option maxRecDepth 20000 in
theorem gX12_begin_X12_isAsleep : GoodIn wsX12_begin (wsV RX12 390 RX12 yX12_isAsleep wsX12_isAsleep) := goodIn_app (goodIn_of _ (by decide +kernel)) ggX12_begin_X12_isAsleep
set_option maxRecDepth 20000 in
theorem ggX12_begin_X12_refused : GoodIn wsX12_begin wsX12_refused := goodIn_r _ [27, 28, 43, 44, 45, 46, 47, 48, 49, 50, 51, 52, 53, 54, 55, 56, 57, 58, 59, 60, 61, 62, 63, 64, 65, 66, 67, 68, 69, 70, 71, 72, 73, 74, 75, 76, 77, 78, 79, 80, 81, 82, 83, 84, 85, 86, 87, 88, 89, 90, 91, 92, 93, 94, 95, 96, 97, 98, 99] (by decide +kernel) (by decide +kernel)
set_option maxRecDepth 20000 in
theorem gX12_begin_X12_refused : GoodIn wsX12_begin (wsV RX12 393 RX12 yX12_refused wsX12_refused) := goodIn_app (goodIn_of _ (by decide +kernel)) ggX12_begin_X12_refused
set_option maxRecDepth 20000 in
theorem ggX12_begin_X12_keep : GoodIn wsX12_begin wsX12_keep := goodIn_r _ [32, 33, 34, 35, 36, 37, 6, 38, 39, 20, 2, 40, 41, 42, 43, 44, 45, 46, 47, 48, 49, 50, 51, 52, 53, 54, 55, 56, 57, 58, 59, 60, 61, 62, 63, 64, 65, 66, 67, 68, 69, 70, 71, 72, 73, 74, 75, 76, 77, 78, 79, 80, 81, 82, 83, 84, 85, 86, 87, 88, 89, 90, 91, 92, 93, 94, 95, 96, 97, 98, 99] (by decide +kernel) (by decide +kernel)
set_option maxRecDepth 20000 in
theorem gX12_begin_X12_keep : GoodIn wsX12_begin (wsV RX12 381 RX12 yX12_keep wsX12_keep) := goodIn_app (goodIn_of _ (by decide +kernel)) ggX12_begin_X12_keep
theorem dX12_begin_0 : decode cX12_begin 0 = .ok (.aload_n 0, 1) := by decide +kernel
theorem dX12_begin_1 : decode cX12_begin 1 = .ok (.iconst 0, 1) := by decide +kernel
theorem dX12_begin_2 : decode cX12_begin 2 = .ok (.putfield 142, 3) := by decide +kernel
theorem dX12_begin_5 : decode cX12_begin 5 = .ok (.aload_n 0, 1) := by decide +kernel
theorem dX12_begin_6 : decode cX12_begin 6 = .ok (.iload_n 1, 1) := by decide +kernel
theorem dX12_begin_7 : decode cX12_begin 7 = .ok (.invokevirtual 369, 3) := by decide +kernel
theorem dX12_begin_10 : decode cX12_begin 10 = .ok (.ifCond .ne 9, 3) := by decide +kernel
theorem dX12_begin_13 : decode cX12_begin 13 = .ok (.aload_n 0, 1) := by decide +kernel
theorem dX12_begin_14 : decode cX12_begin 14 = .ok (.iconst 1, 1) := by decide +kernel
theorem dX12_begin_15 : decode cX12_begin 15 = .ok (.invokevirtual 387, 3) := by decide +kernel
theorem dX12_begin_18 : decode cX12_begin 18 = .ok (.ireturn, 1) := by decide +kernel
theorem dX12_begin_19 : decode cX12_begin 19 = .ok (.aload_n 0, 1) := by decide +kernel
theorem dX12_begin_20 : decode cX12_begin 20 = .ok (.iload_n 1, 1) := by decide +kernel
theorem dX12_begin_21 : decode cX12_begin 21 = .ok (.invokevirtual 390, 3) := by decide +kernel
theorem dX12_begin_24 : decode cX12_begin 24 = .ok (.ifCond .eq 8, 3) := by decide +kernel
theorem dX12_begin_27 : decode cX12_begin 27 = .ok (.aload_n 0, 1) := by decide +kernel
theorem dX12_begin_28 : decode cX12_begin 28 = .ok (.invokevirtual 393, 3) := by decide +kernel
theorem dX12_begin_31 : decode cX12_begin 31 = .ok (.ireturn, 1) := by decide +kernel
theorem dX12_begin_32 : decode cX12_begin 32 = .ok (.aload_n 0, 1) := by decide +kernel
theorem dX12_begin_33 : decode cX12_begin 33 = .ok (.invokevirtual 381, 3) := by decide +kernel
theorem dX12_begin_36 : decode cX12_begin 36 = .ok (.aload_n 0, 1) := by decide +kernel
theorem dX12_begin_37 : decode cX12_begin 37 = .ok (.getfield 69, 3) := by decide +kernel
theorem dX12_begin_40 : decode cX12_begin 40 = .ok (.iload_n 1, 1) := by decide +kernel
theorem dX12_begin_41 : decode cX12_begin 41 = .ok (.iconst 1, 1) := by decide +kernel
theorem dX12_begin_42 : decode cX12_begin 42 = .ok (.iastore, 1) := by decide +kernel
theorem dX12_begin_43 : decode cX12_begin 43 = .ok (.iconst 1, 1) := by decide +kernel
theorem dX12_begin_44 : decode cX12_begin 44 = .ok (.ireturn, 1) := by decide +kernel
set_option maxRecDepth 20000 in
theorem ggX12_turnOver_X12_isAsleep : GoodIn wsX12_turnOver wsX12_isAsleep := goodIn_r _ [7, 1, 8, 9, 6, 10, 11, 12, 13, 14, 15, 16, 17, 18, 19, 20, 21, 22, 23, 24, 25, 26, 27, 28, 29, 30, 31, 32, 33, 34, 35, 36, 37, 38, 39, 40, 41, 42, 43, 44, 45, 46, 47, 48, 49, 50, 51, 52, 53, 54, 55, 56, 57, 58, 59, 60, 61, 62, 63, 64, 65, 66, 67] (by decide +kernel) (by decide +kernel)
set_option maxRecDepth 20000 in
theorem gX12_turnOver_X12_isAsleep : GoodIn wsX12_turnOver (wsV RX12 390 RX12 yX12_isAsleep wsX12_isAsleep) := goodIn_app (goodIn_of _ (by decide +kernel)) ggX12_turnOver_X12_isAsleep
theorem dX12_turnOver_0 : decode cX12_turnOver 0 = .ok (.aload_n 0, 1) := by decide +kernel
theorem dX12_turnOver_1 : decode cX12_turnOver 1 = .ok (.dup, 1) := by decide +kernel
theorem dX12_turnOver_2 : decode cX12_turnOver 2 = .ok (.getfield 290, 3) := by decide +kernel
theorem dX12_turnOver_5 : decode cX12_turnOver 5 = .ok (.iconst 1, 1) := by decide +kernel
theorem dX12_turnOver_6 : decode cX12_turnOver 6 = .ok (.iload_n 1, 1) := by decide +kernel
theorem dX12_turnOver_7 : decode cX12_turnOver 7 = .ok (.ishl, 1) := by decide +kernel
theorem dX12_turnOver_8 : decode cX12_turnOver 8 = .ok (.ixor, 1) := by decide +kernel
theorem dX12_turnOver_9 : decode cX12_turnOver 9 = .ok (.putfield 290, 3) := by decide +kernel
theorem dX12_turnOver_12 : decode cX12_turnOver 12 = .ok (.aload_n 0, 1) := by decide +kernel
theorem dX12_turnOver_13 : decode cX12_turnOver 13 = .ok (.iload_n 1, 1) := by decide +kernel
theorem dX12_turnOver_14 : decode cX12_turnOver 14 = .ok (.invokevirtual 390, 3) := by decide +kernel
theorem dX12_turnOver_17 : decode cX12_turnOver 17 = .ok (.ifCond .eq 10, 3) := by decide +kernel
theorem dX12_turnOver_20 : decode cX12_turnOver 20 = .ok (.aload_n 0, 1) := by decide +kernel
theorem dX12_turnOver_21 : decode cX12_turnOver 21 = .ok (.getfield 69, 3) := by decide +kernel
theorem dX12_turnOver_24 : decode cX12_turnOver 24 = .ok (.iload_n 1, 1) := by decide +kernel
theorem dX12_turnOver_25 : decode cX12_turnOver 25 = .ok (.iconst 0, 1) := by decide +kernel
theorem dX12_turnOver_26 : decode cX12_turnOver 26 = .ok (.iastore, 1) := by decide +kernel
theorem dX12_turnOver_27 : decode cX12_turnOver 27 = .ok (.return_, 1) := by decide +kernel
set_option maxRecDepth 20000 in
theorem ggX12_sleep_X12_isFarm : GoodIn wsX12_sleep wsX12_isFarm := goodIn_r _ [6, 7, 8, 9, 5, 10, 47, 48, 49, 50, 51, 52, 53, 54, 55, 56, 57, 58, 59, 60, 61, 62, 63, 64, 65, 66, 67, 68, 69, 70, 71, 72, 73, 74, 75, 76, 77, 78, 79, 80, 81, 82, 83, 84, 85, 86, 87, 88, 89, 90, 91, 92, 93, 94, 95, 96, 97, 98, 99, 100, 101, 102, 103] (by decide +kernel) (by decide +kernel)
set_option maxRecDepth 20000 in
theorem gX12_sleep_X12_isFarm : GoodIn wsX12_sleep (wsV RX12 369 RX12 yX12_isFarm wsX12_isFarm) := goodIn_app (goodIn_of _ (by decide +kernel)) ggX12_sleep_X12_isFarm
set_option maxRecDepth 20000 in
theorem ggX12_sleep_X12_failing : GoodIn wsX12_sleep wsX12_failing := goodIn_r _ [14, 1, 47, 48, 49, 50, 51, 52, 53, 54, 55, 56, 57, 58, 59, 60, 61, 62, 63, 64, 65, 66, 67, 68, 69, 70, 71, 72, 73, 74, 75, 76, 77, 78, 79, 80, 81, 82, 83, 84, 85, 86, 87, 88, 89, 90, 91, 92, 93, 94, 95, 96, 97, 98, 99, 100, 101, 102, 103] (by decide +kernel) (by decide +kernel)
set_option maxRecDepth 20000 in
theorem gX12_sleep_X12_failing : GoodIn wsX12_sleep (wsV RX12 387 RX12 yX12_failing wsX12_failing) := goodIn_app (goodIn_of _ (by decide +kernel)) ggX12_sleep_X12_failing
set_option maxRecDepth 20000 in
theorem ggX12_sleep_X12_isAsleep : GoodIn wsX12_sleep wsX12_isAsleep := goodIn_r _ [18, 19, 20, 21, 5, 22, 47, 48, 49, 50, 51, 52, 53, 54, 55, 56, 57, 58, 59, 60, 61, 62, 63, 64, 65, 66, 67, 68, 69, 70, 71, 72, 73, 74, 75, 76, 77, 78, 79, 80, 81, 82, 83, 84, 85, 86, 87, 88, 89, 90, 91, 92, 93, 94, 95, 96, 97, 98, 99, 100, 101, 102, 103] (by decide +kernel) (by decide +kernel)
set_option maxRecDepth 20000 in
theorem gX12_sleep_X12_isAsleep : GoodIn wsX12_sleep (wsV RX12 390 RX12 yX12_isAsleep wsX12_isAsleep) := goodIn_app (goodIn_of _ (by decide +kernel)) ggX12_sleep_X12_isAsleep
set_option maxRecDepth 20000 in
theorem ggX12_sleep_X12_refused : GoodIn wsX12_sleep wsX12_refused := goodIn_r _ [26, 27, 47, 48, 49, 50, 51, 52, 53, 54, 55, 56, 57, 58, 59, 60, 61, 62, 63, 64, 65, 66, 67, 68, 69, 70, 71, 72, 73, 74, 75, 76, 77, 78, 79, 80, 81, 82, 83, 84, 85, 86, 87, 88, 89, 90, 91, 92, 93, 94, 95, 96, 97, 98, 99, 100, 101, 102, 103] (by decide +kernel) (by decide +kernel)
set_option maxRecDepth 20000 in
theorem gX12_sleep_X12_refused : GoodIn wsX12_sleep (wsV RX12 393 RX12 yX12_refused wsX12_refused) := goodIn_app (goodIn_of _ (by decide +kernel)) ggX12_sleep_X12_refused
set_option maxRecDepth 20000 in
theorem ggX12_sleep_X12_keep : GoodIn wsX12_sleep wsX12_keep := goodIn_r _ [31, 32, 33, 34, 35, 36, 5, 37, 38, 19, 39, 40, 41, 42, 47, 48, 49, 50, 51, 52, 53, 54, 55, 56, 57, 58, 59, 60, 61, 62, 63, 64, 65, 66, 67, 68, 69, 70, 71, 72, 73, 74, 75, 76, 77, 78, 79, 80, 81, 82, 83, 84, 85, 86, 87, 88, 89, 90, 91, 92, 93, 94, 95, 96, 97, 98, 99, 100, 101, 102, 103] (by decide +kernel) (by decide +kernel)
set_option maxRecDepth 20000 in
theorem gX12_sleep_X12_keep : GoodIn wsX12_sleep (wsV RX12 381 RX12 yX12_keep wsX12_keep) := goodIn_app (goodIn_of _ (by decide +kernel)) ggX12_sleep_X12_keep
set_option maxRecDepth 20000 in
theorem ggX12_sleep_X12_turnOver : GoodIn wsX12_sleep wsX12_turnOver := goodIn_r _ [46, 19, 39, 15, 16, 17, 5, 18, 20, 21, 22, 47, 48, 49, 50, 51, 52, 53, 54, 55, 56, 57, 58, 59, 60, 61, 62, 63, 64, 65, 66, 67, 68, 69, 70, 71, 72, 73, 74, 75, 76, 77, 78, 79, 80, 81, 82, 83, 84, 85, 86, 87, 88, 89, 90, 91, 92, 93, 94, 95, 96, 97, 98, 99, 100, 101, 102, 103] (by decide +kernel) (by decide +kernel)
set_option maxRecDepth 20000 in
theorem gX12_sleep_X12_turnOver : GoodIn wsX12_sleep (wsV RX12 397 RX12 yX12_turnOver wsX12_turnOver) := goodIn_app (goodIn_of _ (by decide +kernel)) ggX12_sleep_X12_turnOver
theorem dX12_sleep_0 : decode cX12_sleep 0 = .ok (.aload_n 0, 1) := by decide +kernel
theorem dX12_sleep_1 : decode cX12_sleep 1 = .ok (.iconst 0, 1) := by decide +kernel
theorem dX12_sleep_2 : decode cX12_sleep 2 = .ok (.putfield 142, 3) := by decide +kernel
theorem dX12_sleep_5 : decode cX12_sleep 5 = .ok (.aload_n 0, 1) := by decide +kernel
theorem dX12_sleep_6 : decode cX12_sleep 6 = .ok (.iload_n 1, 1) := by decide +kernel
theorem dX12_sleep_7 : decode cX12_sleep 7 = .ok (.invokevirtual 369, 3) := by decide +kernel
theorem dX12_sleep_10 : decode cX12_sleep 10 = .ok (.ifCond .ne 9, 3) := by decide +kernel
theorem dX12_sleep_13 : decode cX12_sleep 13 = .ok (.aload_n 0, 1) := by decide +kernel
theorem dX12_sleep_14 : decode cX12_sleep 14 = .ok (.iconst 1, 1) := by decide +kernel
theorem dX12_sleep_15 : decode cX12_sleep 15 = .ok (.invokevirtual 387, 3) := by decide +kernel
theorem dX12_sleep_18 : decode cX12_sleep 18 = .ok (.ireturn, 1) := by decide +kernel
theorem dX12_sleep_19 : decode cX12_sleep 19 = .ok (.aload_n 0, 1) := by decide +kernel
theorem dX12_sleep_20 : decode cX12_sleep 20 = .ok (.iload_n 1, 1) := by decide +kernel
theorem dX12_sleep_21 : decode cX12_sleep 21 = .ok (.invokevirtual 390, 3) := by decide +kernel
theorem dX12_sleep_24 : decode cX12_sleep 24 = .ok (.iload_n 2, 1) := by decide +kernel
theorem dX12_sleep_25 : decode cX12_sleep 25 = .ok (.if_icmp .ne 8, 3) := by decide +kernel
theorem dX12_sleep_28 : decode cX12_sleep 28 = .ok (.aload_n 0, 1) := by decide +kernel
theorem dX12_sleep_29 : decode cX12_sleep 29 = .ok (.invokevirtual 393, 3) := by decide +kernel
theorem dX12_sleep_32 : decode cX12_sleep 32 = .ok (.ireturn, 1) := by decide +kernel
theorem dX12_sleep_33 : decode cX12_sleep 33 = .ok (.aload_n 0, 1) := by decide +kernel
theorem dX12_sleep_34 : decode cX12_sleep 34 = .ok (.invokevirtual 381, 3) := by decide +kernel
theorem dX12_sleep_37 : decode cX12_sleep 37 = .ok (.aload_n 0, 1) := by decide +kernel
theorem dX12_sleep_38 : decode cX12_sleep 38 = .ok (.iload_n 1, 1) := by decide +kernel
theorem dX12_sleep_39 : decode cX12_sleep 39 = .ok (.invokevirtual 397, 3) := by decide +kernel
theorem dX12_sleep_42 : decode cX12_sleep 42 = .ok (.iconst 1, 1) := by decide +kernel
theorem dX12_sleep_43 : decode cX12_sleep 43 = .ok (.ireturn, 1) := by decide +kernel
set_option maxRecDepth 20000 in
theorem ggX12_hat_X12_isFarm : GoodIn wsX12_hat wsX12_isFarm := goodIn_r _ [8, 9, 10, 11, 7, 12, 37, 38, 39, 40, 41, 42, 43, 44, 45, 46, 47, 48, 49, 50, 51, 52, 53, 54, 55, 56, 57, 58, 59, 60, 61, 62, 63, 64, 65, 66, 67, 68, 69, 70, 71, 72, 73, 74, 75, 76, 77, 78, 79, 80, 81, 82, 83, 84, 85, 86, 87, 88, 89, 90, 91, 92, 93] (by decide +kernel) (by decide +kernel)
set_option maxRecDepth 20000 in
theorem gX12_hat_X12_isFarm : GoodIn wsX12_hat (wsV RX12 369 RX12 yX12_isFarm wsX12_isFarm) := goodIn_app (goodIn_of _ (by decide +kernel)) ggX12_hat_X12_isFarm
set_option maxRecDepth 20000 in
theorem ggX12_hat_X12_fail : GoodIn wsX12_hat wsX12_fail := goodIn_r _ [16, 1, 37, 38, 39, 40, 41, 42, 43, 44, 45, 46, 47, 48, 49, 50, 51, 52, 53, 54, 55, 56, 57, 58, 59, 60, 61, 62, 63, 64, 65, 66, 67, 68, 69, 70, 71, 72, 73, 74, 75, 76, 77, 78, 79, 80, 81, 82, 83, 84, 85, 86, 87, 88, 89, 90, 91, 92, 93] (by decide +kernel) (by decide +kernel)
set_option maxRecDepth 20000 in
theorem gX12_hat_X12_fail : GoodIn wsX12_hat (wsV RX12 274 RX12 yX12_fail wsX12_fail) := goodIn_app (goodIn_of _ (by decide +kernel)) ggX12_hat_X12_fail
set_option maxRecDepth 20000 in
theorem ggX12_hat_X12_isIn : GoodIn wsX12_hat wsX12_isIn := goodIn_r _ [12] (by decide +kernel) (by decide +kernel)
set_option maxRecDepth 20000 in
theorem gX12_hat_X12_isIn : GoodIn wsX12_hat (va_wsS RX12 145 yX12_isIn wsX12_isIn) := goodIn_app (goodIn_of _ (by decide +kernel)) ggX12_hat_X12_isIn
set_option maxRecDepth 20000 in
theorem ggX12_hat_X12_refuse : GoodIn wsX12_hat wsX12_refuse := goodIn_r _ [20, 21, 37, 38, 39, 40, 41, 42, 43, 44, 45, 46, 47, 48, 49, 50, 51, 52, 53, 54, 55, 56, 57, 58, 59, 60, 61, 62, 63, 64, 65, 66, 67, 68, 69, 70, 71, 72, 73, 74, 75, 76, 77, 78, 79, 80, 81, 82, 83, 84, 85, 86, 87, 88, 89, 90, 91, 92, 93] (by decide +kernel) (by decide +kernel)
set_option maxRecDepth 20000 in
theorem gX12_hat_X12_refuse : GoodIn wsX12_hat (wsV RX12 378 RX12 yX12_refuse wsX12_refuse) := goodIn_app (goodIn_of _ (by decide +kernel)) ggX12_hat_X12_refuse
set_option maxRecDepth 20000 in
theorem ggX12_hat_X12_keep : GoodIn wsX12_hat wsX12_keep := goodIn_r _ [25, 26, 27, 28, 29, 30, 7, 31, 32, 33, 34, 35, 36, 3, 37, 38, 39, 40, 41, 42, 43, 44, 45, 46, 47, 48, 49, 50, 51, 52, 53, 54, 55, 56, 57, 58, 59, 60, 61, 62, 63, 64, 65, 66, 67, 68, 69, 70, 71, 72, 73, 74, 75, 76, 77, 78, 79, 80, 81, 82, 83, 84, 85, 86, 87, 88, 89, 90, 91, 92, 93] (by decide +kernel) (by decide +kernel)
set_option maxRecDepth 20000 in
theorem gX12_hat_X12_keep : GoodIn wsX12_hat (wsV RX12 381 RX12 yX12_keep wsX12_keep) := goodIn_app (goodIn_of _ (by decide +kernel)) ggX12_hat_X12_keep
theorem dX12_hat_0 : decode cX12_hat 0 = .ok (.aload_n 0, 1) := by decide +kernel
theorem dX12_hat_1 : decode cX12_hat 1 = .ok (.iconst 0, 1) := by decide +kernel
theorem dX12_hat_2 : decode cX12_hat 2 = .ok (.putfield 142, 3) := by decide +kernel
theorem dX12_hat_5 : decode cX12_hat 5 = .ok (.aload_n 0, 1) := by decide +kernel
theorem dX12_hat_6 : decode cX12_hat 6 = .ok (.iload_n 1, 1) := by decide +kernel
theorem dX12_hat_7 : decode cX12_hat 7 = .ok (.invokevirtual 369, 3) := by decide +kernel
theorem dX12_hat_10 : decode cX12_hat 10 = .ok (.ifCond .ne 9, 3) := by decide +kernel
theorem dX12_hat_13 : decode cX12_hat 13 = .ok (.aload_n 0, 1) := by decide +kernel
theorem dX12_hat_14 : decode cX12_hat 14 = .ok (.iconst 1, 1) := by decide +kernel
theorem dX12_hat_15 : decode cX12_hat 15 = .ok (.invokevirtual 274, 3) := by decide +kernel
theorem dX12_hat_18 : decode cX12_hat 18 = .ok (.ireturn, 1) := by decide +kernel
theorem dX12_hat_19 : decode cX12_hat 19 = .ok (.iload_n 2, 1) := by decide +kernel
theorem dX12_hat_20 : decode cX12_hat 20 = .ok (.i2l, 1) := by decide +kernel
theorem dX12_hat_21 : decode cX12_hat 21 = .ok (.lconst 0, 1) := by decide +kernel
theorem dX12_hat_22 : decode cX12_hat 22 = .ok (.ldc2_w 376, 3) := by decide +kernel
theorem dX12_hat_25 : decode cX12_hat 25 = .ok (.invokestatic 145, 3) := by decide +kernel
theorem dX12_hat_28 : decode cX12_hat 28 = .ok (.ifCond .ne 9, 3) := by decide +kernel
theorem dX12_hat_31 : decode cX12_hat 31 = .ok (.aload_n 0, 1) := by decide +kernel
theorem dX12_hat_32 : decode cX12_hat 32 = .ok (.iconst 1, 1) := by decide +kernel
theorem dX12_hat_33 : decode cX12_hat 33 = .ok (.invokevirtual 378, 3) := by decide +kernel
theorem dX12_hat_36 : decode cX12_hat 36 = .ok (.ireturn, 1) := by decide +kernel
theorem dX12_hat_37 : decode cX12_hat 37 = .ok (.aload_n 0, 1) := by decide +kernel
theorem dX12_hat_38 : decode cX12_hat 38 = .ok (.invokevirtual 381, 3) := by decide +kernel
theorem dX12_hat_41 : decode cX12_hat 41 = .ok (.aload_n 0, 1) := by decide +kernel
theorem dX12_hat_42 : decode cX12_hat 42 = .ok (.getfield 78, 3) := by decide +kernel
theorem dX12_hat_45 : decode cX12_hat 45 = .ok (.iload_n 1, 1) := by decide +kernel
theorem dX12_hat_46 : decode cX12_hat 46 = .ok (.iaload, 1) := by decide +kernel
theorem dX12_hat_47 : decode cX12_hat 47 = .ok (.istore_n 3, 1) := by decide +kernel
theorem dX12_hat_48 : decode cX12_hat 48 = .ok (.aload_n 0, 1) := by decide +kernel
theorem dX12_hat_49 : decode cX12_hat 49 = .ok (.getfield 78, 3) := by decide +kernel
theorem dX12_hat_52 : decode cX12_hat 52 = .ok (.iload_n 1, 1) := by decide +kernel
theorem dX12_hat_53 : decode cX12_hat 53 = .ok (.iload_n 2, 1) := by decide +kernel
theorem dX12_hat_54 : decode cX12_hat 54 = .ok (.iastore, 1) := by decide +kernel
theorem dX12_hat_55 : decode cX12_hat 55 = .ok (.iload_n 3, 1) := by decide +kernel
theorem dX12_hat_56 : decode cX12_hat 56 = .ok (.ireturn, 1) := by decide +kernel
theorem dX12_hushAll_0 : decode cX12_hushAll 0 = .ok (.iconst 0, 1) := by decide +kernel
theorem dX12_hushAll_1 : decode cX12_hushAll 1 = .ok (.istore_n 1, 1) := by decide +kernel
theorem dX12_hushAll_2 : decode cX12_hushAll 2 = .ok (.iload_n 1, 1) := by decide +kernel
theorem dX12_hushAll_3 : decode cX12_hushAll 3 = .ok (.bipush 9, 2) := by decide +kernel
theorem dX12_hushAll_5 : decode cX12_hushAll 5 = .ok (.if_icmp .ge 16, 3) := by decide +kernel
theorem dX12_hushAll_8 : decode cX12_hushAll 8 = .ok (.aload_n 0, 1) := by decide +kernel
theorem dX12_hushAll_9 : decode cX12_hushAll 9 = .ok (.getfield 69, 3) := by decide +kernel
theorem dX12_hushAll_12 : decode cX12_hushAll 12 = .ok (.iload_n 1, 1) := by decide +kernel
theorem dX12_hushAll_13 : decode cX12_hushAll 13 = .ok (.iconst 0, 1) := by decide +kernel
theorem dX12_hushAll_14 : decode cX12_hushAll 14 = .ok (.iastore, 1) := by decide +kernel
theorem dX12_hushAll_15 : decode cX12_hushAll 15 = .ok (.iinc 1 1, 3) := by decide +kernel
theorem dX12_hushAll_18 : decode cX12_hushAll 18 = .ok (.goto (-16), 3) := by decide +kernel
theorem dX12_hushAll_21 : decode cX12_hushAll 21 = .ok (.return_, 1) := by decide +kernel
set_option maxRecDepth 20000 in
theorem ggX12_hush_X12_waitingNow : GoodIn wsX12_hush wsX12_waitingNow := goodIn_r _ [6, 7, 8, 33, 34, 35, 36, 37, 38, 39, 40, 41, 42, 43, 44, 45, 46, 47, 48, 49, 50, 51, 52, 53, 54, 55, 56, 57, 58, 59, 60, 61, 62, 63, 64, 65, 66, 67, 68, 69, 70, 71, 72, 73, 74, 75, 76, 77, 78, 79, 80, 81, 82, 83, 84, 85, 86, 87, 88, 89] (by decide +kernel) (by decide +kernel)
set_option maxRecDepth 20000 in
theorem gX12_hush_X12_waitingNow : GoodIn wsX12_hush (wsV RX12 357 RX12 yX12_waitingNow wsX12_waitingNow) := goodIn_app (goodIn_of _ (by decide +kernel)) ggX12_hush_X12_waitingNow
set_option maxRecDepth 20000 in
theorem ggX12_hush_X12_refuse : GoodIn wsX12_hush wsX12_refuse := goodIn_r _ [12, 13, 33, 34, 35, 36, 37, 38, 39, 40, 41, 42, 43, 44, 45, 46, 47, 48, 49, 50, 51, 52, 53, 54, 55, 56, 57, 58, 59, 60, 61, 62, 63, 64, 65, 66, 67, 68, 69, 70, 71, 72, 73, 74, 75, 76, 77, 78, 79, 80, 81, 82, 83, 84, 85, 86, 87, 88, 89] (by decide +kernel) (by decide +kernel)
set_option maxRecDepth 20000 in
theorem gX12_hush_X12_refuse : GoodIn wsX12_hush (wsV RX12 378 RX12 yX12_refuse wsX12_refuse) := goodIn_app (goodIn_of _ (by decide +kernel)) ggX12_hush_X12_refuse
set_option maxRecDepth 20000 in
theorem ggX12_hush_X12_keep : GoodIn wsX12_hush wsX12_keep := goodIn_r _ [17, 18, 19, 20, 21, 22, 5, 23, 24, 25, 8, 26, 27, 28, 33, 34, 35, 36, 37, 38, 39, 40, 41, 42, 43, 44, 45, 46, 47, 48, 49, 50, 51, 52, 53, 54, 55, 56, 57, 58, 59, 60, 61, 62, 63, 64, 65, 66, 67, 68, 69, 70, 71, 72, 73, 74, 75, 76, 77, 78, 79, 80, 81, 82, 83, 84, 85, 86, 87, 88, 89] (by decide +kernel) (by decide +kernel)
set_option maxRecDepth 20000 in
theorem gX12_hush_X12_keep : GoodIn wsX12_hush (wsV RX12 381 RX12 yX12_keep wsX12_keep) := goodIn_app (goodIn_of _ (by decide +kernel)) ggX12_hush_X12_keep
set_option maxRecDepth 20000 in
theorem ggX12_hush_X12_hushAll : GoodIn wsX12_hush wsX12_hushAll := goodIn_r _ [32, 8, 33, 34, 35, 36, 37, 38, 39, 40, 41, 42, 43, 44, 45, 46, 47, 48, 49, 50, 51, 52, 53, 54, 55, 56, 57, 58, 59, 60, 61, 62, 63, 64, 65, 66, 67, 68, 69, 70, 71, 72, 73, 74, 75, 76, 77, 78, 79, 80, 81, 82, 83, 84, 85, 86, 87, 88, 89] (by decide +kernel) (by decide +kernel)
set_option maxRecDepth 20000 in
theorem gX12_hush_X12_hushAll : GoodIn wsX12_hush (wsV RX12 400 RX12 yX12_hushAll wsX12_hushAll) := goodIn_app (goodIn_of _ (by decide +kernel)) ggX12_hush_X12_hushAll
theorem dX12_hush_0 : decode cX12_hush 0 = .ok (.aload_n 0, 1) := by decide +kernel
theorem dX12_hush_1 : decode cX12_hush 1 = .ok (.iconst 0, 1) := by decide +kernel
theorem dX12_hush_2 : decode cX12_hush 2 = .ok (.putfield 142, 3) := by decide +kernel
theorem dX12_hush_5 : decode cX12_hush 5 = .ok (.aload_n 0, 1) := by decide +kernel
theorem dX12_hush_6 : decode cX12_hush 6 = .ok (.invokevirtual 357, 3) := by decide +kernel
theorem dX12_hush_9 : decode cX12_hush 9 = .ok (.istore_n 1, 1) := by decide +kernel
theorem dX12_hush_10 : decode cX12_hush 10 = .ok (.iload_n 1, 1) := by decide +kernel
theorem dX12_hush_11 : decode cX12_hush 11 = .ok (.ifCond .ne 9, 3) := by decide +kernel
theorem dX12_hush_14 : decode cX12_hush 14 = .ok (.aload_n 0, 1) := by decide +kernel
theorem dX12_hush_15 : decode cX12_hush 15 = .ok (.iconst 1, 1) := by decide +kernel
theorem dX12_hush_16 : decode cX12_hush 16 = .ok (.invokevirtual 378, 3) := by decide +kernel
theorem dX12_hush_19 : decode cX12_hush 19 = .ok (.ireturn, 1) := by decide +kernel
theorem dX12_hush_20 : decode cX12_hush 20 = .ok (.aload_n 0, 1) := by decide +kernel
theorem dX12_hush_21 : decode cX12_hush 21 = .ok (.invokevirtual 381, 3) := by decide +kernel
theorem dX12_hush_24 : decode cX12_hush 24 = .ok (.aload_n 0, 1) := by decide +kernel
theorem dX12_hush_25 : decode cX12_hush 25 = .ok (.invokevirtual 400, 3) := by decide +kernel
theorem dX12_hush_28 : decode cX12_hush 28 = .ok (.iload_n 1, 1) := by decide +kernel
theorem dX12_hush_29 : decode cX12_hush 29 = .ok (.ireturn, 1) := by decide +kernel
set_option maxRecDepth 20000 in
theorem ggX12_undo_X12_unpack : GoodIn wsX12_undo wsX12_unpack := goodIn_r _ [8, 9, 10, 11, 12, 13, 14, 15, 16, 17, 18, 19, 20, 21, 22, 23, 24, 25, 26, 27, 28, 29, 30, 31, 32, 33, 34, 35, 36, 37, 38, 39, 40, 41, 42, 43, 44, 45, 46, 47, 48, 49, 50, 51, 52, 53, 54, 55, 56, 57, 58, 59, 60, 61, 62, 63, 64, 65, 66, 67, 68, 69, 70, 71] (by decide +kernel) (by decide +kernel)
set_option maxRecDepth 20000 in
theorem gX12_undo_X12_unpack : GoodIn wsX12_undo (wsV RX12 403 RX12 yX12_unpack wsX12_unpack) := goodIn_app (goodIn_of _ (by decide +kernel)) ggX12_undo_X12_unpack
theorem dX12_undo_0 : decode cX12_undo 0 = .ok (.aload_n 0, 1) := by decide +kernel
theorem dX12_undo_1 : decode cX12_undo 1 = .ok (.iconst 0, 1) := by decide +kernel
theorem dX12_undo_2 : decode cX12_undo 2 = .ok (.putfield 142, 3) := by decide +kernel
theorem dX12_undo_5 : decode cX12_undo 5 = .ok (.aload_n 0, 1) := by decide +kernel
theorem dX12_undo_6 : decode cX12_undo 6 = .ok (.getfield 293, 3) := by decide +kernel
theorem dX12_undo_9 : decode cX12_undo 9 = .ok (.ifCond .ne 5, 3) := by decide +kernel
theorem dX12_undo_12 : decode cX12_undo 12 = .ok (.iconst (-1), 1) := by decide +kernel
theorem dX12_undo_13 : decode cX12_undo 13 = .ok (.ireturn, 1) := by decide +kernel
theorem dX12_undo_14 : decode cX12_undo 14 = .ok (.aload_n 0, 1) := by decide +kernel
theorem dX12_undo_15 : decode cX12_undo 15 = .ok (.dup, 1) := by decide +kernel
theorem dX12_undo_16 : decode cX12_undo 16 = .ok (.getfield 293, 3) := by decide +kernel
theorem dX12_undo_19 : decode cX12_undo 19 = .ok (.iconst 1, 1) := by decide +kernel
theorem dX12_undo_20 : decode cX12_undo 20 = .ok (.isub, 1) := by decide +kernel
theorem dX12_undo_21 : decode cX12_undo 21 = .ok (.putfield 293, 3) := by decide +kernel
theorem dX12_undo_24 : decode cX12_undo 24 = .ok (.aload_n 0, 1) := by decide +kernel
theorem dX12_undo_25 : decode cX12_undo 25 = .ok (.aload_n 0, 1) := by decide +kernel
theorem dX12_undo_26 : decode cX12_undo 26 = .ok (.getfield 81, 3) := by decide +kernel
theorem dX12_undo_29 : decode cX12_undo 29 = .ok (.bipush 38, 2) := by decide +kernel
theorem dX12_undo_31 : decode cX12_undo 31 = .ok (.aload_n 0, 1) := by decide +kernel
theorem dX12_undo_32 : decode cX12_undo 32 = .ok (.getfield 293, 3) := by decide +kernel
theorem dX12_undo_35 : decode cX12_undo 35 = .ok (.imul, 1) := by decide +kernel
theorem dX12_undo_36 : decode cX12_undo 36 = .ok (.invokevirtual 403, 3) := by decide +kernel
theorem dX12_undo_39 : decode cX12_undo 39 = .ok (.aload_n 0, 1) := by decide +kernel
theorem dX12_undo_40 : decode cX12_undo 40 = .ok (.getfield 293, 3) := by decide +kernel
theorem dX12_undo_43 : decode cX12_undo 43 = .ok (.ireturn, 1) := by decide +kernel
set_option maxRecDepth 20000 in
theorem ggX12_nodding_X12_isIn : GoodIn wsX12_nodding wsX12_isIn := goodIn_r _ [8] (by decide +kernel) (by decide +kernel)
set_option maxRecDepth 20000 in
theorem gX12_nodding_X12_isIn : GoodIn wsX12_nodding (va_wsS RX12 145 yX12_isIn wsX12_isIn) := goodIn_app (goodIn_of _ (by decide +kernel)) ggX12_nodding_X12_isIn
set_option maxRecDepth 20000 in
theorem ggX12_nodding_X12_fail : GoodIn wsX12_nodding wsX12_fail := goodIn_r _ [12, 1, 100, 101, 102, 103, 104, 105, 106, 107, 108, 109, 110, 111, 112, 113, 114, 115, 116, 117, 118, 119, 120, 121, 122, 123, 124, 125, 126, 127, 128, 129, 130, 131, 132, 133, 134, 135, 136, 137, 138, 139, 140, 141, 142, 143, 144, 145, 146, 147, 148, 149, 150, 151, 152, 153, 154, 155, 156] (by decide +kernel) (by decide +kernel)
set_option maxRecDepth 20000 in
theorem gX12_nodding_X12_fail : GoodIn wsX12_nodding (wsV RX12 274 RX12 yX12_fail wsX12_fail) := goodIn_app (goodIn_of _ (by decide +kernel)) ggX12_nodding_X12_fail
set_option maxRecDepth 20000 in
theorem ggX12_nodding_X12_pack : GoodIn wsX12_nodding wsX12_pack := goodIn_r _ [16, 17, 18, 19, 20, 21, 22, 100, 101, 102, 103, 104, 105, 106, 107, 108, 109, 110, 111, 112, 113, 114, 115, 116, 117, 118, 119, 120, 121, 122, 123, 124, 125, 126, 127, 128, 129, 130, 131, 132, 133, 134, 135, 136, 137, 138, 139, 140, 141, 142, 143, 144, 145, 146, 147, 148, 149, 150, 151, 152, 153, 154, 155, 156] (by decide +kernel) (by decide +kernel)
set_option maxRecDepth 20000 in
theorem gX12_nodding_X12_pack : GoodIn wsX12_nodding (wsV RX12 372 RX12 yX12_pack wsX12_pack) := goodIn_app (goodIn_of _ (by decide +kernel)) ggX12_nodding_X12_pack
set_option maxRecDepth 20000 in
theorem ggX12_nodding_X12_goOn : GoodIn wsX12_nodding wsX12_goOn := goodIn_r _ [26, 27, 28, 29, 7, 30, 4, 31, 19, 20, 21, 32, 33, 34, 35, 18, 36, 17, 37, 38, 39, 40, 41, 42, 43, 44, 45, 46, 47, 48, 49, 50, 51, 52, 53, 54, 55, 56, 57, 58, 59, 60, 61, 62, 63, 64, 65, 66, 67, 68, 69, 70, 71, 72, 73, 74, 75, 76, 77, 22, 78, 79, 80, 81, 82, 83, 84, 85, 86, 87, 88, 89, 90, 91, 92, 93, 94, 95, 100, 101, 102, 103, 104, 105, 106, 107, 108, 109, 110, 111, 112, 113, 114, 115, 116, 117, 118, 119, 120, 121, 122, 123, 124, 125, 126, 127, 128, 129, 130, 131, 132, 133, 134, 135, 136, 137, 138, 139, 140, 141, 142, 143, 144, 145, 146, 147, 148, 149, 150, 151, 152, 153, 154, 155, 156] (by decide +kernel) (by decide +kernel)
set_option maxRecDepth 20000 in
theorem gX12_nodding_X12_goOn : GoodIn wsX12_nodding (wsV RX12 384 RX12 yX12_goOn wsX12_goOn) := goodIn_app (goodIn_of _ (by decide +kernel)) ggX12_nodding_X12_goOn
set_option maxRecDepth 20000 in
theorem ggX12_nodding_X12_unpack : GoodIn wsX12_nodding wsX12_unpack := goodIn_r _ [99, 17, 18, 19, 20, 21, 22, 100, 101, 102, 103, 104, 105, 106, 107, 108, 109, 110, 111, 112, 113, 114, 115, 116, 117, 118, 119, 120, 121, 122, 123, 124, 125, 126, 127, 128, 129, 130, 131, 132, 133, 134, 135, 136, 137, 138, 139, 140, 141, 142, 143, 144, 145, 146, 147, 148, 149, 150, 151, 152, 153, 154, 155, 156] (by decide +kernel) (by decide +kernel)
set_option maxRecDepth 20000 in
theorem gX12_nodding_X12_unpack : GoodIn wsX12_nodding (wsV RX12 403 RX12 yX12_unpack wsX12_unpack) := goodIn_app (goodIn_of _ (by decide +kernel)) ggX12_nodding_X12_unpack
theorem dX12_nodding_0 : decode cX12_nodding 0 = .ok (.aload_n 0, 1) := by decide +kernel
theorem dX12_nodding_1 : decode cX12_nodding 1 = .ok (.iconst 0, 1) := by decide +kernel
theorem dX12_nodding_2 : decode cX12_nodding 2 = .ok (.putfield 142, 3) := by decide +kernel
theorem dX12_nodding_5 : decode cX12_nodding 5 = .ok (.iload_n 1, 1) := by decide +kernel
theorem dX12_nodding_6 : decode cX12_nodding 6 = .ok (.i2l, 1) := by decide +kernel
theorem dX12_nodding_7 : decode cX12_nodding 7 = .ok (.lconst 1, 1) := by decide +kernel
theorem dX12_nodding_8 : decode cX12_nodding 8 = .ok (.ldc2_w 406, 3) := by decide +kernel
theorem dX12_nodding_11 : decode cX12_nodding 11 = .ok (.invokestatic 145, 3) := by decide +kernel
theorem dX12_nodding_14 : decode cX12_nodding 14 = .ok (.ifCond .ne 9, 3) := by decide +kernel
theorem dX12_nodding_17 : decode cX12_nodding 17 = .ok (.aload_n 0, 1) := by decide +kernel
theorem dX12_nodding_18 : decode cX12_nodding 18 = .ok (.iconst 1, 1) := by decide +kernel
theorem dX12_nodding_19 : decode cX12_nodding 19 = .ok (.invokevirtual 274, 3) := by decide +kernel
theorem dX12_nodding_22 : decode cX12_nodding 22 = .ok (.ireturn, 1) := by decide +kernel
theorem dX12_nodding_23 : decode cX12_nodding 23 = .ok (.aload_n 0, 1) := by decide +kernel
theorem dX12_nodding_24 : decode cX12_nodding 24 = .ok (.aload_n 0, 1) := by decide +kernel
theorem dX12_nodding_25 : decode cX12_nodding 25 = .ok (.getfield 96, 3) := by decide +kernel
theorem dX12_nodding_28 : decode cX12_nodding 28 = .ok (.iconst 0, 1) := by decide +kernel
theorem dX12_nodding_29 : decode cX12_nodding 29 = .ok (.invokevirtual 372, 3) := by decide +kernel
theorem dX12_nodding_32 : decode cX12_nodding 32 = .ok (.aload_n 0, 1) := by decide +kernel
theorem dX12_nodding_33 : decode cX12_nodding 33 = .ok (.iload_n 1, 1) := by decide +kernel
theorem dX12_nodding_34 : decode cX12_nodding 34 = .ok (.invokevirtual 384, 3) := by decide +kernel
theorem dX12_nodding_37 : decode cX12_nodding 37 = .ok (.aload_n 0, 1) := by decide +kernel
theorem dX12_nodding_38 : decode cX12_nodding 38 = .ok (.aload_n 0, 1) := by decide +kernel
theorem dX12_nodding_39 : decode cX12_nodding 39 = .ok (.getfield 96, 3) := by decide +kernel
theorem dX12_nodding_42 : decode cX12_nodding 42 = .ok (.iconst 0, 1) := by decide +kernel
theorem dX12_nodding_43 : decode cX12_nodding 43 = .ok (.invokevirtual 403, 3) := by decide +kernel
theorem dX12_nodding_46 : decode cX12_nodding 46 = .ok (.aload_n 0, 1) := by decide +kernel
theorem dX12_nodding_47 : decode cX12_nodding 47 = .ok (.getfield 341, 3) := by decide +kernel
theorem dX12_nodding_50 : decode cX12_nodding 50 = .ok (.ireturn, 1) := by decide +kernel
set_option maxRecDepth 20000 in
theorem ggX12_then_X12_isFarm : GoodIn wsX12_then wsX12_isFarm := goodIn_r _ [10, 11, 12, 13, 9, 14, 104, 105, 106, 107, 108, 109, 110, 111, 112, 113, 114, 115, 116, 117, 118, 119, 120, 121, 122, 123, 124, 125, 126, 127, 128, 129, 130, 131, 132, 133, 134, 135, 136, 137, 138, 139, 140, 141, 142, 143, 144, 145, 146, 147, 148, 149, 150, 151, 152, 153, 154, 155, 156, 157, 158, 159, 160] (by decide +kernel) (by decide +kernel)
set_option maxRecDepth 20000 in
theorem gX12_then_X12_isFarm : GoodIn wsX12_then (wsV RX12 369 RX12 yX12_isFarm wsX12_isFarm) := goodIn_app (goodIn_of _ (by decide +kernel)) ggX12_then_X12_isFarm
set_option maxRecDepth 20000 in
theorem ggX12_then_X12_fail : GoodIn wsX12_then wsX12_fail := goodIn_r _ [18, 1, 104, 105, 106, 107, 108, 109, 110, 111, 112, 113, 114, 115, 116, 117, 118, 119, 120, 121, 122, 123, 124, 125, 126, 127, 128, 129, 130, 131, 132, 133, 134, 135, 136, 137, 138, 139, 140, 141, 142, 143, 144, 145, 146, 147, 148, 149, 150, 151, 152, 153, 154, 155, 156, 157, 158, 159, 160] (by decide +kernel) (by decide +kernel)
set_option maxRecDepth 20000 in
theorem gX12_then_X12_fail : GoodIn wsX12_then (wsV RX12 274 RX12 yX12_fail wsX12_fail) := goodIn_app (goodIn_of _ (by decide +kernel)) ggX12_then_X12_fail
set_option maxRecDepth 20000 in
theorem ggX12_then_X12_isIn : GoodIn wsX12_then wsX12_isIn := goodIn_r _ [14] (by decide +kernel) (by decide +kernel)
set_option maxRecDepth 20000 in
theorem gX12_then_X12_isIn : GoodIn wsX12_then (va_wsS RX12 145 yX12_isIn wsX12_isIn) := goodIn_app (goodIn_of _ (by decide +kernel)) ggX12_then_X12_isIn
set_option maxRecDepth 20000 in
theorem ggX12_then_X12_pack : GoodIn wsX12_then wsX12_pack := goodIn_r _ [22, 23, 24, 4, 25, 5, 26, 104, 105, 106, 107, 108, 109, 110, 111, 112, 113, 114, 115, 116, 117, 118, 119, 120, 121, 122, 123, 124, 125, 126, 127, 128, 129, 130, 131, 132, 133, 134, 135, 136, 137, 138, 139, 140, 141, 142, 143, 144, 145, 146, 147, 148, 149, 150, 151, 152, 153, 154, 155, 156, 157, 158, 159, 160] (by decide +kernel) (by decide +kernel)
set_option maxRecDepth 20000 in
theorem gX12_then_X12_pack : GoodIn wsX12_then (wsV RX12 372 RX12 yX12_pack wsX12_pack) := goodIn_app (goodIn_of _ (by decide +kernel)) ggX12_then_X12_pack
set_option maxRecDepth 20000 in
theorem ggX12_then_X12_goOn : GoodIn wsX12_then wsX12_goOn := goodIn_r _ [30, 31, 32, 33, 9, 34, 35, 11, 4, 25, 5, 36, 37, 38, 39, 24, 40, 23, 41, 42, 43, 44, 45, 46, 47, 48, 49, 50, 51, 52, 53, 54, 55, 56, 57, 58, 59, 60, 61, 62, 63, 64, 65, 66, 67, 68, 69, 70, 71, 72, 73, 74, 75, 76, 77, 78, 79, 80, 81, 26, 82, 83, 84, 85, 86, 87, 88, 89, 90, 91, 92, 93, 94, 95, 96, 97, 98, 99, 104, 105, 106, 107, 108, 109, 110, 111, 112, 113, 114, 115, 116, 117, 118, 119, 120, 121, 122, 123, 124, 125, 126, 127, 128, 129, 130, 131, 132, 133, 134, 135, 136, 137, 138, 139, 140, 141, 142, 143, 144, 145, 146, 147, 148, 149, 150, 151, 152, 153, 154, 155, 156, 157, 158, 159, 160] (by decide +kernel) (by decide +kernel)
set_option maxRecDepth 20000 in
theorem gX12_then_X12_goOn : GoodIn wsX12_then (wsV RX12 384 RX12 yX12_goOn wsX12_goOn) := goodIn_app (goodIn_of _ (by decide +kernel)) ggX12_then_X12_goOn
set_option maxRecDepth 20000 in
theorem ggX12_then_X12_unpack : GoodIn wsX12_then wsX12_unpack := goodIn_r _ [103, 23, 24, 4, 25, 5, 26, 104, 105, 106, 107, 108, 109, 110, 111, 112, 113, 114, 115, 116, 117, 118, 119, 120, 121, 122, 123, 124, 125, 126, 127, 128, 129, 130, 131, 132, 133, 134, 135, 136, 137, 138, 139, 140, 141, 142, 143, 144, 145, 146, 147, 148, 149, 150, 151, 152, 153, 154, 155, 156, 157, 158, 159, 160] (by decide +kernel) (by decide +kernel)
set_option maxRecDepth 20000 in
theorem gX12_then_X12_unpack : GoodIn wsX12_then (wsV RX12 403 RX12 yX12_unpack wsX12_unpack) := goodIn_app (goodIn_of _ (by decide +kernel)) ggX12_then_X12_unpack
theorem dX12_then_0 : decode cX12_then 0 = .ok (.aload_n 0, 1) := by decide +kernel
theorem dX12_then_1 : decode cX12_then 1 = .ok (.iconst 0, 1) := by decide +kernel
theorem dX12_then_2 : decode cX12_then 2 = .ok (.putfield 142, 3) := by decide +kernel
theorem dX12_then_5 : decode cX12_then 5 = .ok (.aload_n 0, 1) := by decide +kernel
theorem dX12_then_6 : decode cX12_then 6 = .ok (.iload_n 1, 1) := by decide +kernel
theorem dX12_then_7 : decode cX12_then 7 = .ok (.invokevirtual 369, 3) := by decide +kernel
theorem dX12_then_10 : decode cX12_then 10 = .ok (.ifCond .eq 12, 3) := by decide +kernel
theorem dX12_then_13 : decode cX12_then 13 = .ok (.iload_n 3, 1) := by decide +kernel
theorem dX12_then_14 : decode cX12_then 14 = .ok (.ifCond .lt 8, 3) := by decide +kernel
theorem dX12_then_17 : decode cX12_then 17 = .ok (.iload_n 3, 1) := by decide +kernel
theorem dX12_then_18 : decode cX12_then 18 = .ok (.iconst 1, 1) := by decide +kernel
theorem dX12_then_19 : decode cX12_then 19 = .ok (.if_icmp .le 9, 3) := by decide +kernel
theorem dX12_then_22 : decode cX12_then 22 = .ok (.aload_n 0, 1) := by decide +kernel
theorem dX12_then_23 : decode cX12_then 23 = .ok (.iconst 1, 1) := by decide +kernel
theorem dX12_then_24 : decode cX12_then 24 = .ok (.invokevirtual 274, 3) := by decide +kernel
theorem dX12_then_27 : decode cX12_then 27 = .ok (.ireturn, 1) := by decide +kernel
theorem dX12_then_28 : decode cX12_then 28 = .ok (.iload_n 2, 1) := by decide +kernel
theorem dX12_then_29 : decode cX12_then 29 = .ok (.i2l, 1) := by decide +kernel
theorem dX12_then_30 : decode cX12_then 30 = .ok (.lconst 0, 1) := by decide +kernel
theorem dX12_then_31 : decode cX12_then 31 = .ok (.ldc2_w 406, 3) := by decide +kernel
theorem dX12_then_34 : decode cX12_then 34 = .ok (.invokestatic 145, 3) := by decide +kernel
theorem dX12_then_37 : decode cX12_then 37 = .ok (.ifCond .ne 9, 3) := by decide +kernel
theorem dX12_then_40 : decode cX12_then 40 = .ok (.aload_n 0, 1) := by decide +kernel
theorem dX12_then_41 : decode cX12_then 41 = .ok (.iconst 2, 1) := by decide +kernel
theorem dX12_then_42 : decode cX12_then 42 = .ok (.invokevirtual 274, 3) := by decide +kernel
theorem dX12_then_45 : decode cX12_then 45 = .ok (.ireturn, 1) := by decide +kernel
theorem dX12_then_46 : decode cX12_then 46 = .ok (.aload_n 0, 1) := by decide +kernel
theorem dX12_then_47 : decode cX12_then 47 = .ok (.aload_n 0, 1) := by decide +kernel
theorem dX12_then_48 : decode cX12_then 48 = .ok (.getfield 96, 3) := by decide +kernel
theorem dX12_then_51 : decode cX12_then 51 = .ok (.iconst 0, 1) := by decide +kernel
theorem dX12_then_52 : decode cX12_then 52 = .ok (.invokevirtual 372, 3) := by decide +kernel
theorem dX12_then_55 : decode cX12_then 55 = .ok (.aload_n 0, 1) := by decide +kernel
theorem dX12_then_56 : decode cX12_then 56 = .ok (.iload_n 2, 1) := by decide +kernel
theorem dX12_then_57 : decode cX12_then 57 = .ok (.invokevirtual 384, 3) := by decide +kernel
theorem dX12_then_60 : decode cX12_then 60 = .ok (.iload_n 3, 1) := by decide +kernel
theorem dX12_then_61 : decode cX12_then 61 = .ok (.ifCond .ne 12, 3) := by decide +kernel
theorem dX12_then_64 : decode cX12_then 64 = .ok (.aload_n 0, 1) := by decide +kernel
theorem dX12_then_65 : decode cX12_then 65 = .ok (.getfield 69, 3) := by decide +kernel
theorem dX12_then_68 : decode cX12_then 68 = .ok (.iload_n 1, 1) := by decide +kernel
theorem dX12_then_69 : decode cX12_then 69 = .ok (.iaload, 1) := by decide +kernel
theorem dX12_then_70 : decode cX12_then 70 = .ok (.goto 9, 3) := by decide +kernel
theorem dX12_then_73 : decode cX12_then 73 = .ok (.aload_n 0, 1) := by decide +kernel
theorem dX12_then_74 : decode cX12_then 74 = .ok (.getfield 75, 3) := by decide +kernel
theorem dX12_then_77 : decode cX12_then 77 = .ok (.iload_n 1, 1) := by decide +kernel
theorem dX12_then_78 : decode cX12_then 78 = .ok (.iaload, 1) := by decide +kernel
theorem dX12_then_79 : decode cX12_then 79 = .ok (.istore 4, 2) := by decide +kernel
theorem dX12_then_81 : decode cX12_then 81 = .ok (.aload_n 0, 1) := by decide +kernel
theorem dX12_then_82 : decode cX12_then 82 = .ok (.aload_n 0, 1) := by decide +kernel
theorem dX12_then_83 : decode cX12_then 83 = .ok (.getfield 96, 3) := by decide +kernel
theorem dX12_then_86 : decode cX12_then 86 = .ok (.iconst 0, 1) := by decide +kernel
theorem dX12_then_87 : decode cX12_then 87 = .ok (.invokevirtual 403, 3) := by decide +kernel
theorem dX12_then_90 : decode cX12_then 90 = .ok (.iload 4, 2) := by decide +kernel
theorem dX12_then_92 : decode cX12_then 92 = .ok (.ireturn, 1) := by decide +kernel
set_option maxRecDepth 20000 in
theorem ggX12_first_X12_isFarm : GoodIn wsX12_first wsX12_isFarm := goodIn_r _ [8, 9, 10, 11, 7, 12, 99, 100, 101, 102, 103, 104, 105, 106, 107, 108, 109, 110, 111, 112, 113, 114, 115, 116, 117, 118, 119, 120, 121, 122, 123, 124, 125, 126, 127, 128, 129, 130, 131, 132, 133, 134, 135, 136, 137, 138, 139, 140, 141, 142, 143, 144, 145, 146, 147, 148, 149, 150, 151, 152, 153, 154, 155] (by decide +kernel) (by decide +kernel)
set_option maxRecDepth 20000 in
theorem gX12_first_X12_isFarm : GoodIn wsX12_first (wsV RX12 369 RX12 yX12_isFarm wsX12_isFarm) := goodIn_app (goodIn_of _ (by decide +kernel)) ggX12_first_X12_isFarm
set_option maxRecDepth 20000 in
theorem ggX12_first_X12_fail : GoodIn wsX12_first wsX12_fail := goodIn_r _ [16, 1, 99, 100, 101, 102, 103, 104, 105, 106, 107, 108, 109, 110, 111, 112, 113, 114, 115, 116, 117, 118, 119, 120, 121, 122, 123, 124, 125, 126, 127, 128, 129, 130, 131, 132, 133, 134, 135, 136, 137, 138, 139, 140, 141, 142, 143, 144, 145, 146, 147, 148, 149, 150, 151, 152, 153, 154, 155] (by decide +kernel) (by decide +kernel)
set_option maxRecDepth 20000 in
theorem gX12_first_X12_fail : GoodIn wsX12_first (wsV RX12 274 RX12 yX12_fail wsX12_fail) := goodIn_app (goodIn_of _ (by decide +kernel)) ggX12_first_X12_fail
set_option maxRecDepth 20000 in
theorem ggX12_first_X12_pack : GoodIn wsX12_first wsX12_pack := goodIn_r _ [20, 21, 22, 23, 24, 25, 26, 99, 100, 101, 102, 103, 104, 105, 106, 107, 108, 109, 110, 111, 112, 113, 114, 115, 116, 117, 118, 119, 120, 121, 122, 123, 124, 125, 126, 127, 128, 129, 130, 131, 132, 133, 134, 135, 136, 137, 138, 139, 140, 141, 142, 143, 144, 145, 146, 147, 148, 149, 150, 151, 152, 153, 154, 155] (by decide +kernel) (by decide +kernel)
set_option maxRecDepth 20000 in
theorem gX12_first_X12_pack : GoodIn wsX12_first (wsV RX12 372 RX12 yX12_pack wsX12_pack) := goodIn_app (goodIn_of _ (by decide +kernel)) ggX12_first_X12_pack
set_option maxRecDepth 20000 in
theorem ggX12_first_X12_aTick : GoodIn wsX12_first wsX12_aTick := goodIn_r _ [30, 3, 9, 23, 24, 25, 31, 32, 33, 34, 22, 35, 21, 36, 37, 7, 38, 39, 40, 41, 42, 43, 44, 45, 46, 47, 48, 49, 50, 51, 52, 53, 54, 55, 56, 57, 58, 59, 60, 61, 62, 63, 64, 65, 66, 67, 68, 69, 70, 71, 72, 73, 74, 75, 76, 26, 77, 78, 79, 80, 81, 82, 83, 84, 85, 86, 87, 88, 89, 90, 91, 92, 93, 94, 99, 100, 101, 102, 103, 104, 105, 106, 107, 108, 109, 110, 111, 112, 113, 114, 115, 116, 117, 118, 119, 120, 121, 122, 123, 124, 125, 126, 127, 128, 129, 130, 131, 132, 133, 134, 135, 136, 137, 138, 139, 140, 141, 142, 143, 144, 145, 146, 147, 148, 149, 150, 151, 152, 153, 154, 155] (by decide +kernel) (by decide +kernel)
set_option maxRecDepth 20000 in
theorem gX12_first_X12_aTick : GoodIn wsX12_first (wsV RX12 348 RX12 yX12_aTick wsX12_aTick) := goodIn_app (goodIn_of _ (by decide +kernel)) ggX12_first_X12_aTick
set_option maxRecDepth 20000 in
theorem ggX12_first_X12_isOf : GoodIn wsX12_first wsX12_isOf := goodIn_r _ [38] (by decide +kernel) (by decide +kernel)
set_option maxRecDepth 20000 in
theorem gX12_first_X12_isOf : GoodIn wsX12_first (va_wsS RX12 332 yX12_isOf wsX12_isOf) := goodIn_app (goodIn_of _ (by decide +kernel)) ggX12_first_X12_isOf
set_option maxRecDepth 20000 in
theorem ggX12_first_X12_unpack : GoodIn wsX12_first wsX12_unpack := goodIn_r _ [98, 21, 22, 23, 24, 25, 26, 99, 100, 101, 102, 103, 104, 105, 106, 107, 108, 109, 110, 111, 112, 113, 114, 115, 116, 117, 118, 119, 120, 121, 122, 123, 124, 125, 126, 127, 128, 129, 130, 131, 132, 133, 134, 135, 136, 137, 138, 139, 140, 141, 142, 143, 144, 145, 146, 147, 148, 149, 150, 151, 152, 153, 154, 155] (by decide +kernel) (by decide +kernel)
set_option maxRecDepth 20000 in
theorem gX12_first_X12_unpack : GoodIn wsX12_first (wsV RX12 403 RX12 yX12_unpack wsX12_unpack) := goodIn_app (goodIn_of _ (by decide +kernel)) ggX12_first_X12_unpack
theorem dX12_first_0 : decode cX12_first 0 = .ok (.aload_n 0, 1) := by decide +kernel
theorem dX12_first_1 : decode cX12_first 1 = .ok (.iconst 0, 1) := by decide +kernel
theorem dX12_first_2 : decode cX12_first 2 = .ok (.putfield 142, 3) := by decide +kernel
theorem dX12_first_5 : decode cX12_first 5 = .ok (.aload_n 0, 1) := by decide +kernel
theorem dX12_first_6 : decode cX12_first 6 = .ok (.iload_n 1, 1) := by decide +kernel
theorem dX12_first_7 : decode cX12_first 7 = .ok (.invokevirtual 369, 3) := by decide +kernel
theorem dX12_first_10 : decode cX12_first 10 = .ok (.ifCond .ne 9, 3) := by decide +kernel
theorem dX12_first_13 : decode cX12_first 13 = .ok (.aload_n 0, 1) := by decide +kernel
theorem dX12_first_14 : decode cX12_first 14 = .ok (.iconst 1, 1) := by decide +kernel
theorem dX12_first_15 : decode cX12_first 15 = .ok (.invokevirtual 274, 3) := by decide +kernel
theorem dX12_first_18 : decode cX12_first 18 = .ok (.ireturn, 1) := by decide +kernel
theorem dX12_first_19 : decode cX12_first 19 = .ok (.aload_n 0, 1) := by decide +kernel
theorem dX12_first_20 : decode cX12_first 20 = .ok (.aload_n 0, 1) := by decide +kernel
theorem dX12_first_21 : decode cX12_first 21 = .ok (.getfield 96, 3) := by decide +kernel
theorem dX12_first_24 : decode cX12_first 24 = .ok (.iconst 0, 1) := by decide +kernel
theorem dX12_first_25 : decode cX12_first 25 = .ok (.invokevirtual 372, 3) := by decide +kernel
theorem dX12_first_28 : decode cX12_first 28 = .ok (.iconst (-1), 1) := by decide +kernel
theorem dX12_first_29 : decode cX12_first 29 = .ok (.istore_n 2, 1) := by decide +kernel
theorem dX12_first_30 : decode cX12_first 30 = .ok (.iconst 1, 1) := by decide +kernel
theorem dX12_first_31 : decode cX12_first 31 = .ok (.istore_n 3, 1) := by decide +kernel
theorem dX12_first_32 : decode cX12_first 32 = .ok (.iload_n 3, 1) := by decide +kernel
theorem dX12_first_33 : decode cX12_first 33 = .ok (.bipush 60, 2) := by decide +kernel
theorem dX12_first_35 : decode cX12_first 35 = .ok (.if_icmp .gt 31, 3) := by decide +kernel
theorem dX12_first_38 : decode cX12_first 38 = .ok (.iload_n 2, 1) := by decide +kernel
theorem dX12_first_39 : decode cX12_first 39 = .ok (.iconst (-1), 1) := by decide +kernel
theorem dX12_first_40 : decode cX12_first 40 = .ok (.if_icmp .ne 26, 3) := by decide +kernel
theorem dX12_first_43 : decode cX12_first 43 = .ok (.aload_n 0, 1) := by decide +kernel
theorem dX12_first_44 : decode cX12_first 44 = .ok (.invokevirtual 348, 3) := by decide +kernel
theorem dX12_first_47 : decode cX12_first 47 = .ok (.aload_n 0, 1) := by decide +kernel
theorem dX12_first_48 : decode cX12_first 48 = .ok (.getfield 341, 3) := by decide +kernel
theorem dX12_first_51 : decode cX12_first 51 = .ok (.iload_n 1, 1) := by decide +kernel
theorem dX12_first_52 : decode cX12_first 52 = .ok (.invokestatic 332, 3) := by decide +kernel
theorem dX12_first_55 : decode cX12_first 55 = .ok (.ifCond .eq 5, 3) := by decide +kernel
theorem dX12_first_58 : decode cX12_first 58 = .ok (.iload_n 3, 1) := by decide +kernel
theorem dX12_first_59 : decode cX12_first 59 = .ok (.istore_n 2, 1) := by decide +kernel
theorem dX12_first_60 : decode cX12_first 60 = .ok (.iinc 3 1, 3) := by decide +kernel
theorem dX12_first_63 : decode cX12_first 63 = .ok (.goto (-31), 3) := by decide +kernel
theorem dX12_first_66 : decode cX12_first 66 = .ok (.aload_n 0, 1) := by decide +kernel
theorem dX12_first_67 : decode cX12_first 67 = .ok (.aload_n 0, 1) := by decide +kernel
theorem dX12_first_68 : decode cX12_first 68 = .ok (.getfield 96, 3) := by decide +kernel
theorem dX12_first_71 : decode cX12_first 71 = .ok (.iconst 0, 1) := by decide +kernel
theorem dX12_first_72 : decode cX12_first 72 = .ok (.invokevirtual 403, 3) := by decide +kernel
theorem dX12_first_75 : decode cX12_first 75 = .ok (.iload_n 2, 1) := by decide +kernel
theorem dX12_first_76 : decode cX12_first 76 = .ok (.ireturn, 1) := by decide +kernel
set_option maxRecDepth 20000 in
theorem ggX12_still_X12_pack : GoodIn wsX12_still wsX12_pack := goodIn_r _ [7, 8, 9, 10, 11, 12, 13, 92, 93, 94, 95, 96, 97, 98, 99, 100, 101, 102, 103, 104, 105, 106, 107, 108, 109, 110, 111, 112, 113, 114, 115, 116, 117, 118, 119, 120, 121, 122, 123, 124, 125, 126, 127, 128, 129, 130, 131, 132, 133, 134, 135, 136, 137, 138, 139, 140, 141, 142, 143, 144, 145, 146, 147, 148] (by decide +kernel) (by decide +kernel)
set_option maxRecDepth 20000 in
theorem gX12_still_X12_pack : GoodIn wsX12_still (wsV RX12 372 RX12 yX12_pack wsX12_pack) := goodIn_app (goodIn_of _ (by decide +kernel)) ggX12_still_X12_pack
set_option maxRecDepth 20000 in
theorem ggX12_still_X12_waitingNow : GoodIn wsX12_still wsX12_waitingNow := goodIn_r _ [17, 18, 10, 92, 93, 94, 95, 96, 97, 98, 99, 100, 101, 102, 103, 104, 105, 106, 107, 108, 109, 110, 111, 112, 113, 114, 115, 116, 117, 118, 119, 120, 121, 122, 123, 124, 125, 126, 127, 128, 129, 130, 131, 132, 133, 134, 135, 136, 137, 138, 139, 140, 141, 142, 143, 144, 145, 146, 147, 148] (by decide +kernel) (by decide +kernel)
set_option maxRecDepth 20000 in
theorem gX12_still_X12_waitingNow : GoodIn wsX12_still (wsV RX12 357 RX12 yX12_waitingNow wsX12_waitingNow) := goodIn_app (goodIn_of _ (by decide +kernel)) ggX12_still_X12_waitingNow
set_option maxRecDepth 20000 in
theorem ggX12_still_X12_aTick : GoodIn wsX12_still wsX12_aTick := goodIn_r _ [22, 23, 18, 10, 11, 12, 24, 25, 26, 27, 9, 28, 8, 29, 30, 6, 31, 32, 33, 34, 35, 36, 37, 38, 39, 40, 41, 42, 43, 44, 45, 46, 47, 48, 49, 50, 51, 52, 53, 54, 55, 56, 57, 58, 59, 60, 61, 62, 63, 64, 65, 66, 67, 68, 69, 13, 70, 71, 72, 73, 74, 75, 76, 77, 78, 79, 80, 81, 82, 83, 84, 85, 86, 87, 92, 93, 94, 95, 96, 97, 98, 99, 100, 101, 102, 103, 104, 105, 106, 107, 108, 109, 110, 111, 112, 113, 114, 115, 116, 117, 118, 119, 120, 121, 122, 123, 124, 125, 126, 127, 128, 129, 130, 131, 132, 133, 134, 135, 136, 137, 138, 139, 140, 141, 142, 143, 144, 145, 146, 147, 148] (by decide +kernel) (by decide +kernel)
set_option maxRecDepth 20000 in
theorem gX12_still_X12_aTick : GoodIn wsX12_still (wsV RX12 348 RX12 yX12_aTick wsX12_aTick) := goodIn_app (goodIn_of _ (by decide +kernel)) ggX12_still_X12_aTick
set_option maxRecDepth 20000 in
theorem ggX12_still_X12_unpack : GoodIn wsX12_still wsX12_unpack := goodIn_r _ [91, 8, 9, 10, 11, 12, 13, 92, 93, 94, 95, 96, 97, 98, 99, 100, 101, 102, 103, 104, 105, 106, 107, 108, 109, 110, 111, 112, 113, 114, 115, 116, 117, 118, 119, 120, 121, 122, 123, 124, 125, 126, 127, 128, 129, 130, 131, 132, 133, 134, 135, 136, 137, 138, 139, 140, 141, 142, 143, 144, 145, 146, 147, 148] (by decide +kernel) (by decide +kernel)
set_option maxRecDepth 20000 in
theorem gX12_still_X12_unpack : GoodIn wsX12_still (wsV RX12 403 RX12 yX12_unpack wsX12_unpack) := goodIn_app (goodIn_of _ (by decide +kernel)) ggX12_still_X12_unpack
theorem dX12_still_0 : decode cX12_still 0 = .ok (.aload_n 0, 1) := by decide +kernel
theorem dX12_still_1 : decode cX12_still 1 = .ok (.iconst 0, 1) := by decide +kernel
theorem dX12_still_2 : decode cX12_still 2 = .ok (.putfield 142, 3) := by decide +kernel
theorem dX12_still_5 : decode cX12_still 5 = .ok (.aload_n 0, 1) := by decide +kernel
theorem dX12_still_6 : decode cX12_still 6 = .ok (.aload_n 0, 1) := by decide +kernel
theorem dX12_still_7 : decode cX12_still 7 = .ok (.getfield 96, 3) := by decide +kernel
theorem dX12_still_10 : decode cX12_still 10 = .ok (.iconst 0, 1) := by decide +kernel
theorem dX12_still_11 : decode cX12_still 11 = .ok (.invokevirtual 372, 3) := by decide +kernel
theorem dX12_still_14 : decode cX12_still 14 = .ok (.iconst (-1), 1) := by decide +kernel
theorem dX12_still_15 : decode cX12_still 15 = .ok (.istore_n 1, 1) := by decide +kernel
theorem dX12_still_16 : decode cX12_still 16 = .ok (.iconst 0, 1) := by decide +kernel
theorem dX12_still_17 : decode cX12_still 17 = .ok (.istore_n 2, 1) := by decide +kernel
theorem dX12_still_18 : decode cX12_still 18 = .ok (.iload_n 2, 1) := by decide +kernel
theorem dX12_still_19 : decode cX12_still 19 = .ok (.bipush 60, 2) := by decide +kernel
theorem dX12_still_21 : decode cX12_still 21 = .ok (.if_icmp .gt 27, 3) := by decide +kernel
theorem dX12_still_24 : decode cX12_still 24 = .ok (.iload_n 1, 1) := by decide +kernel
theorem dX12_still_25 : decode cX12_still 25 = .ok (.iconst (-1), 1) := by decide +kernel
theorem dX12_still_26 : decode cX12_still 26 = .ok (.if_icmp .ne 22, 3) := by decide +kernel
theorem dX12_still_29 : decode cX12_still 29 = .ok (.aload_n 0, 1) := by decide +kernel
theorem dX12_still_30 : decode cX12_still 30 = .ok (.invokevirtual 357, 3) := by decide +kernel
theorem dX12_still_33 : decode cX12_still 33 = .ok (.ifCond .ne 5, 3) := by decide +kernel
theorem dX12_still_36 : decode cX12_still 36 = .ok (.iload_n 2, 1) := by decide +kernel
theorem dX12_still_37 : decode cX12_still 37 = .ok (.istore_n 1, 1) := by decide +kernel
theorem dX12_still_38 : decode cX12_still 38 = .ok (.aload_n 0, 1) := by decide +kernel
theorem dX12_still_39 : decode cX12_still 39 = .ok (.invokevirtual 348, 3) := by decide +kernel
theorem dX12_still_42 : decode cX12_still 42 = .ok (.iinc 2 1, 3) := by decide +kernel
theorem dX12_still_45 : decode cX12_still 45 = .ok (.goto (-27), 3) := by decide +kernel
theorem dX12_still_48 : decode cX12_still 48 = .ok (.aload_n 0, 1) := by decide +kernel
theorem dX12_still_49 : decode cX12_still 49 = .ok (.aload_n 0, 1) := by decide +kernel
theorem dX12_still_50 : decode cX12_still 50 = .ok (.getfield 96, 3) := by decide +kernel
theorem dX12_still_53 : decode cX12_still 53 = .ok (.iconst 0, 1) := by decide +kernel
theorem dX12_still_54 : decode cX12_still 54 = .ok (.invokevirtual 403, 3) := by decide +kernel
theorem dX12_still_57 : decode cX12_still 57 = .ok (.iload_n 1, 1) := by decide +kernel
theorem dX12_still_58 : decode cX12_still 58 = .ok (.ireturn, 1) := by decide +kernel
set_option maxRecDepth 20000 in
theorem ggX12_loudest_X12_isIn : GoodIn wsX12_loudest wsX12_isIn := goodIn_r _ [8] (by decide +kernel) (by decide +kernel)
set_option maxRecDepth 20000 in
theorem gX12_loudest_X12_isIn : GoodIn wsX12_loudest (va_wsS RX12 145 yX12_isIn wsX12_isIn) := goodIn_app (goodIn_of _ (by decide +kernel)) ggX12_loudest_X12_isIn
set_option maxRecDepth 20000 in
theorem ggX12_loudest_X12_fail : GoodIn wsX12_loudest wsX12_fail := goodIn_r _ [12, 1, 96, 97, 98, 99, 100, 101, 102, 103, 104, 105, 106, 107, 108, 109, 110, 111, 112, 113, 114, 115, 116, 117, 118, 119, 120, 121, 122, 123, 124, 125, 126, 127, 128, 129, 130, 131, 132, 133, 134, 135, 136, 137, 138, 139, 140, 141, 142, 143, 144, 145, 146, 147, 148, 149, 150, 151, 152] (by decide +kernel) (by decide +kernel)
set_option maxRecDepth 20000 in
theorem gX12_loudest_X12_fail : GoodIn wsX12_loudest (wsV RX12 274 RX12 yX12_fail wsX12_fail) := goodIn_app (goodIn_of _ (by decide +kernel)) ggX12_loudest_X12_fail
set_option maxRecDepth 20000 in
theorem ggX12_loudest_X12_pack : GoodIn wsX12_loudest wsX12_pack := goodIn_r _ [16, 17, 18, 19, 20, 21, 22, 96, 97, 98, 99, 100, 101, 102, 103, 104, 105, 106, 107, 108, 109, 110, 111, 112, 113, 114, 115, 116, 117, 118, 119, 120, 121, 122, 123, 124, 125, 126, 127, 128, 129, 130, 131, 132, 133, 134, 135, 136, 137, 138, 139, 140, 141, 142, 143, 144, 145, 146, 147, 148, 149, 150, 151, 152] (by decide +kernel) (by decide +kernel)
set_option maxRecDepth 20000 in
theorem gX12_loudest_X12_pack : GoodIn wsX12_loudest (wsV RX12 372 RX12 yX12_pack wsX12_pack) := goodIn_app (goodIn_of _ (by decide +kernel)) ggX12_loudest_X12_pack
set_option maxRecDepth 20000 in
theorem ggX12_loudest_X12_aTick : GoodIn wsX12_loudest wsX12_aTick := goodIn_r _ [26, 4, 27, 19, 20, 21, 28, 29, 30, 31, 18, 32, 17, 33, 34, 7, 35, 36, 37, 38, 39, 40, 41, 42, 43, 44, 45, 46, 47, 48, 49, 50, 51, 52, 53, 54, 55, 56, 57, 58, 59, 60, 61, 62, 63, 64, 65, 66, 67, 68, 69, 70, 71, 72, 73, 22, 74, 75, 76, 77, 78, 79, 80, 81, 82, 83, 84, 85, 86, 87, 88, 89, 90, 91, 96, 97, 98, 99, 100, 101, 102, 103, 104, 105, 106, 107, 108, 109, 110, 111, 112, 113, 114, 115, 116, 117, 118, 119, 120, 121, 122, 123, 124, 125, 126, 127, 128, 129, 130, 131, 132, 133, 134, 135, 136, 137, 138, 139, 140, 141, 142, 143, 144, 145, 146, 147, 148, 149, 150, 151, 152] (by decide +kernel) (by decide +kernel)
set_option maxRecDepth 20000 in
theorem gX12_loudest_X12_aTick : GoodIn wsX12_loudest (wsV RX12 348 RX12 yX12_aTick wsX12_aTick) := goodIn_app (goodIn_of _ (by decide +kernel)) ggX12_loudest_X12_aTick
set_option maxRecDepth 20000 in
theorem ggX12_loudest_X12_bitsOf : GoodIn wsX12_loudest wsX12_bitsOf := goodIn_r _ [82] (by decide +kernel) (by decide +kernel)
set_option maxRecDepth 20000 in
theorem gX12_loudest_X12_bitsOf : GoodIn wsX12_loudest (va_wsS RX12 335 yX12_bitsOf wsX12_bitsOf) := goodIn_app (goodIn_of _ (by decide +kernel)) ggX12_loudest_X12_bitsOf
set_option maxRecDepth 20000 in
theorem ggX12_loudest_X12_unpack : GoodIn wsX12_loudest wsX12_unpack := goodIn_r _ [95, 17, 18, 19, 20, 21, 22, 96, 97, 98, 99, 100, 101, 102, 103, 104, 105, 106, 107, 108, 109, 110, 111, 112, 113, 114, 115, 116, 117, 118, 119, 120, 121, 122, 123, 124, 125, 126, 127, 128, 129, 130, 131, 132, 133, 134, 135, 136, 137, 138, 139, 140, 141, 142, 143, 144, 145, 146, 147, 148, 149, 150, 151, 152] (by decide +kernel) (by decide +kernel)
set_option maxRecDepth 20000 in
theorem gX12_loudest_X12_unpack : GoodIn wsX12_loudest (wsV RX12 403 RX12 yX12_unpack wsX12_unpack) := goodIn_app (goodIn_of _ (by decide +kernel)) ggX12_loudest_X12_unpack
theorem dX12_loudest_0 : decode cX12_loudest 0 = .ok (.aload_n 0, 1) := by decide +kernel
theorem dX12_loudest_1 : decode cX12_loudest 1 = .ok (.iconst 0, 1) := by decide +kernel
theorem dX12_loudest_2 : decode cX12_loudest 2 = .ok (.putfield 142, 3) := by decide +kernel
theorem dX12_loudest_5 : decode cX12_loudest 5 = .ok (.iload_n 1, 1) := by decide +kernel
theorem dX12_loudest_6 : decode cX12_loudest 6 = .ok (.i2l, 1) := by decide +kernel
theorem dX12_loudest_7 : decode cX12_loudest 7 = .ok (.lconst 1, 1) := by decide +kernel
theorem dX12_loudest_8 : decode cX12_loudest 8 = .ok (.ldc2_w 406, 3) := by decide +kernel
theorem dX12_loudest_11 : decode cX12_loudest 11 = .ok (.invokestatic 145, 3) := by decide +kernel
theorem dX12_loudest_14 : decode cX12_loudest 14 = .ok (.ifCond .ne 9, 3) := by decide +kernel
theorem dX12_loudest_17 : decode cX12_loudest 17 = .ok (.aload_n 0, 1) := by decide +kernel
theorem dX12_loudest_18 : decode cX12_loudest 18 = .ok (.iconst 1, 1) := by decide +kernel
theorem dX12_loudest_19 : decode cX12_loudest 19 = .ok (.invokevirtual 274, 3) := by decide +kernel
theorem dX12_loudest_22 : decode cX12_loudest 22 = .ok (.ireturn, 1) := by decide +kernel
theorem dX12_loudest_23 : decode cX12_loudest 23 = .ok (.aload_n 0, 1) := by decide +kernel
theorem dX12_loudest_24 : decode cX12_loudest 24 = .ok (.aload_n 0, 1) := by decide +kernel
theorem dX12_loudest_25 : decode cX12_loudest 25 = .ok (.getfield 96, 3) := by decide +kernel
theorem dX12_loudest_28 : decode cX12_loudest 28 = .ok (.iconst 0, 1) := by decide +kernel
theorem dX12_loudest_29 : decode cX12_loudest 29 = .ok (.invokevirtual 372, 3) := by decide +kernel
theorem dX12_loudest_32 : decode cX12_loudest 32 = .ok (.iconst (-1), 1) := by decide +kernel
theorem dX12_loudest_33 : decode cX12_loudest 33 = .ok (.istore_n 2, 1) := by decide +kernel
theorem dX12_loudest_34 : decode cX12_loudest 34 = .ok (.iconst (-1), 1) := by decide +kernel
theorem dX12_loudest_35 : decode cX12_loudest 35 = .ok (.istore_n 3, 1) := by decide +kernel
theorem dX12_loudest_36 : decode cX12_loudest 36 = .ok (.iconst 1, 1) := by decide +kernel
theorem dX12_loudest_37 : decode cX12_loudest 37 = .ok (.istore 4, 2) := by decide +kernel
theorem dX12_loudest_39 : decode cX12_loudest 39 = .ok (.iload 4, 2) := by decide +kernel
theorem dX12_loudest_41 : decode cX12_loudest 41 = .ok (.iload_n 1, 1) := by decide +kernel
theorem dX12_loudest_42 : decode cX12_loudest 42 = .ok (.if_icmp .gt 38, 3) := by decide +kernel
theorem dX12_loudest_45 : decode cX12_loudest 45 = .ok (.aload_n 0, 1) := by decide +kernel
theorem dX12_loudest_46 : decode cX12_loudest 46 = .ok (.invokevirtual 348, 3) := by decide +kernel
theorem dX12_loudest_49 : decode cX12_loudest 49 = .ok (.aload_n 0, 1) := by decide +kernel
theorem dX12_loudest_50 : decode cX12_loudest 50 = .ok (.getfield 341, 3) := by decide +kernel
theorem dX12_loudest_53 : decode cX12_loudest 53 = .ok (.invokestatic 335, 3) := by decide +kernel
theorem dX12_loudest_56 : decode cX12_loudest 56 = .ok (.iload_n 3, 1) := by decide +kernel
theorem dX12_loudest_57 : decode cX12_loudest 57 = .ok (.if_icmp .gt 6, 3) := by decide +kernel
theorem dX12_loudest_60 : decode cX12_loudest 60 = .ok (.goto 14, 3) := by decide +kernel
theorem dX12_loudest_63 : decode cX12_loudest 63 = .ok (.iload 4, 2) := by decide +kernel
theorem dX12_loudest_65 : decode cX12_loudest 65 = .ok (.istore_n 2, 1) := by decide +kernel
theorem dX12_loudest_66 : decode cX12_loudest 66 = .ok (.aload_n 0, 1) := by decide +kernel
theorem dX12_loudest_67 : decode cX12_loudest 67 = .ok (.getfield 341, 3) := by decide +kernel
theorem dX12_loudest_70 : decode cX12_loudest 70 = .ok (.invokestatic 335, 3) := by decide +kernel
theorem dX12_loudest_73 : decode cX12_loudest 73 = .ok (.istore_n 3, 1) := by decide +kernel
theorem dX12_loudest_74 : decode cX12_loudest 74 = .ok (.iinc 4 1, 3) := by decide +kernel
theorem dX12_loudest_77 : decode cX12_loudest 77 = .ok (.goto (-38), 3) := by decide +kernel
theorem dX12_loudest_80 : decode cX12_loudest 80 = .ok (.aload_n 0, 1) := by decide +kernel
theorem dX12_loudest_81 : decode cX12_loudest 81 = .ok (.aload_n 0, 1) := by decide +kernel
theorem dX12_loudest_82 : decode cX12_loudest 82 = .ok (.getfield 96, 3) := by decide +kernel
theorem dX12_loudest_85 : decode cX12_loudest 85 = .ok (.iconst 0, 1) := by decide +kernel
theorem dX12_loudest_86 : decode cX12_loudest 86 = .ok (.invokevirtual 403, 3) := by decide +kernel
theorem dX12_loudest_89 : decode cX12_loudest 89 = .ok (.iload_n 2, 1) := by decide +kernel
theorem dX12_loudest_90 : decode cX12_loudest 90 = .ok (.ireturn, 1) := by decide +kernel
set_option maxRecDepth 20000 in
theorem ggX12_oftenest_X12_isIn : GoodIn wsX12_oftenest wsX12_isIn := goodIn_r _ [10] (by decide +kernel) (by decide +kernel)
set_option maxRecDepth 20000 in
theorem gX12_oftenest_X12_isIn : GoodIn wsX12_oftenest (va_wsS RX12 145 yX12_isIn wsX12_isIn) := goodIn_app (goodIn_of _ (by decide +kernel)) ggX12_oftenest_X12_isIn
set_option maxRecDepth 20000 in
theorem ggX12_oftenest_X12_fail : GoodIn wsX12_oftenest wsX12_fail := goodIn_r _ [14, 1, 97, 98, 99, 100, 101, 102, 103, 104, 105, 106, 107, 108, 109, 110, 111, 112, 113, 114, 115, 116, 117, 118, 119, 120, 121, 122, 123, 124, 125, 126, 127, 128, 129, 130, 131, 132, 133, 134, 135, 136, 137, 138, 139, 140, 141, 142, 143, 144, 145, 146, 147, 148, 149, 150, 151, 152, 153] (by decide +kernel) (by decide +kernel)
set_option maxRecDepth 20000 in
theorem gX12_oftenest_X12_fail : GoodIn wsX12_oftenest (wsV RX12 274 RX12 yX12_fail wsX12_fail) := goodIn_app (goodIn_of _ (by decide +kernel)) ggX12_oftenest_X12_fail
set_option maxRecDepth 20000 in
theorem ggX12_oftenest_X12_pack : GoodIn wsX12_oftenest wsX12_pack := goodIn_r _ [18, 19, 20, 21, 22, 23, 24, 97, 98, 99, 100, 101, 102, 103, 104, 105, 106, 107, 108, 109, 110, 111, 112, 113, 114, 115, 116, 117, 118, 119, 120, 121, 122, 123, 124, 125, 126, 127, 128, 129, 130, 131, 132, 133, 134, 135, 136, 137, 138, 139, 140, 141, 142, 143, 144, 145, 146, 147, 148, 149, 150, 151, 152, 153] (by decide +kernel) (by decide +kernel)
set_option maxRecDepth 20000 in
theorem gX12_oftenest_X12_pack : GoodIn wsX12_oftenest (wsV RX12 372 RX12 yX12_pack wsX12_pack) := goodIn_app (goodIn_of _ (by decide +kernel)) ggX12_oftenest_X12_pack
set_option maxRecDepth 20000 in
theorem ggX12_oftenest_X12_aTick : GoodIn wsX12_oftenest wsX12_aTick := goodIn_r _ [28, 6, 5, 21, 22, 23, 29, 30, 31, 32, 20, 33, 19, 34, 35, 9, 36, 37, 38, 39, 40, 41, 42, 43, 44, 45, 46, 47, 48, 49, 50, 51, 52, 53, 54, 55, 56, 57, 58, 59, 60, 61, 62, 63, 64, 65, 66, 67, 68, 69, 70, 71, 72, 73, 74, 24, 75, 76, 77, 78, 79, 80, 81, 82, 83, 84, 85, 86, 87, 88, 89, 90, 91, 92, 97, 98, 99, 100, 101, 102, 103, 104, 105, 106, 107, 108, 109, 110, 111, 112, 113, 114, 115, 116, 117, 118, 119, 120, 121, 122, 123, 124, 125, 126, 127, 128, 129, 130, 131, 132, 133, 134, 135, 136, 137, 138, 139, 140, 141, 142, 143, 144, 145, 146, 147, 148, 149, 150, 151, 152, 153] (by decide +kernel) (by decide +kernel)
set_option maxRecDepth 20000 in
theorem gX12_oftenest_X12_aTick : GoodIn wsX12_oftenest (wsV RX12 348 RX12 yX12_aTick wsX12_aTick) := goodIn_app (goodIn_of _ (by decide +kernel)) ggX12_oftenest_X12_aTick
set_option maxRecDepth 20000 in
theorem ggX12_oftenest_X12_unpack : GoodIn wsX12_oftenest wsX12_unpack := goodIn_r _ [96, 19, 20, 21, 22, 23, 24, 97, 98, 99, 100, 101, 102, 103, 104, 105, 106, 107, 108, 109, 110, 111, 112, 113, 114, 115, 116, 117, 118, 119, 120, 121, 122, 123, 124, 125, 126, 127, 128, 129, 130, 131, 132, 133, 134, 135, 136, 137, 138, 139, 140, 141, 142, 143, 144, 145, 146, 147, 148, 149, 150, 151, 152, 153] (by decide +kernel) (by decide +kernel)
set_option maxRecDepth 20000 in
theorem gX12_oftenest_X12_unpack : GoodIn wsX12_oftenest (wsV RX12 403 RX12 yX12_unpack wsX12_unpack) := goodIn_app (goodIn_of _ (by decide +kernel)) ggX12_oftenest_X12_unpack
theorem dX12_oftenest_0 : decode cX12_oftenest 0 = .ok (.aload_n 0, 1) := by decide +kernel
theorem dX12_oftenest_1 : decode cX12_oftenest 1 = .ok (.iconst 0, 1) := by decide +kernel
theorem dX12_oftenest_2 : decode cX12_oftenest 2 = .ok (.putfield 142, 3) := by decide +kernel
theorem dX12_oftenest_5 : decode cX12_oftenest 5 = .ok (.iload_n 1, 1) := by decide +kernel
theorem dX12_oftenest_6 : decode cX12_oftenest 6 = .ok (.i2l, 1) := by decide +kernel
theorem dX12_oftenest_7 : decode cX12_oftenest 7 = .ok (.lconst 1, 1) := by decide +kernel
theorem dX12_oftenest_8 : decode cX12_oftenest 8 = .ok (.ldc2_w 406, 3) := by decide +kernel
theorem dX12_oftenest_11 : decode cX12_oftenest 11 = .ok (.invokestatic 145, 3) := by decide +kernel
theorem dX12_oftenest_14 : decode cX12_oftenest 14 = .ok (.ifCond .ne 9, 3) := by decide +kernel
theorem dX12_oftenest_17 : decode cX12_oftenest 17 = .ok (.aload_n 0, 1) := by decide +kernel
theorem dX12_oftenest_18 : decode cX12_oftenest 18 = .ok (.iconst 1, 1) := by decide +kernel
theorem dX12_oftenest_19 : decode cX12_oftenest 19 = .ok (.invokevirtual 274, 3) := by decide +kernel
theorem dX12_oftenest_22 : decode cX12_oftenest 22 = .ok (.ireturn, 1) := by decide +kernel
theorem dX12_oftenest_23 : decode cX12_oftenest 23 = .ok (.iconst 0, 1) := by decide +kernel
theorem dX12_oftenest_24 : decode cX12_oftenest 24 = .ok (.istore_n 2, 1) := by decide +kernel
theorem dX12_oftenest_25 : decode cX12_oftenest 25 = .ok (.iload_n 2, 1) := by decide +kernel
theorem dX12_oftenest_26 : decode cX12_oftenest 26 = .ok (.bipush 9, 2) := by decide +kernel
theorem dX12_oftenest_28 : decode cX12_oftenest 28 = .ok (.if_icmp .ge 16, 3) := by decide +kernel
theorem dX12_oftenest_31 : decode cX12_oftenest 31 = .ok (.aload_n 0, 1) := by decide +kernel
theorem dX12_oftenest_32 : decode cX12_oftenest 32 = .ok (.getfield 99, 3) := by decide +kernel
theorem dX12_oftenest_35 : decode cX12_oftenest 35 = .ok (.iload_n 2, 1) := by decide +kernel
theorem dX12_oftenest_36 : decode cX12_oftenest 36 = .ok (.iconst 0, 1) := by decide +kernel
theorem dX12_oftenest_37 : decode cX12_oftenest 37 = .ok (.iastore, 1) := by decide +kernel
theorem dX12_oftenest_38 : decode cX12_oftenest 38 = .ok (.iinc 2 1, 3) := by decide +kernel
theorem dX12_oftenest_41 : decode cX12_oftenest 41 = .ok (.goto (-16), 3) := by decide +kernel
theorem dX12_oftenest_44 : decode cX12_oftenest 44 = .ok (.aload_n 0, 1) := by decide +kernel
theorem dX12_oftenest_45 : decode cX12_oftenest 45 = .ok (.aload_n 0, 1) := by decide +kernel
theorem dX12_oftenest_46 : decode cX12_oftenest 46 = .ok (.getfield 96, 3) := by decide +kernel
theorem dX12_oftenest_49 : decode cX12_oftenest 49 = .ok (.iconst 0, 1) := by decide +kernel
theorem dX12_oftenest_50 : decode cX12_oftenest 50 = .ok (.invokevirtual 372, 3) := by decide +kernel
theorem dX12_oftenest_53 : decode cX12_oftenest 53 = .ok (.iconst 0, 1) := by decide +kernel
theorem dX12_oftenest_54 : decode cX12_oftenest 54 = .ok (.istore_n 2, 1) := by decide +kernel
theorem dX12_oftenest_55 : decode cX12_oftenest 55 = .ok (.iload_n 2, 1) := by decide +kernel
theorem dX12_oftenest_56 : decode cX12_oftenest 56 = .ok (.iload_n 1, 1) := by decide +kernel
theorem dX12_oftenest_57 : decode cX12_oftenest 57 = .ok (.if_icmp .ge 48, 3) := by decide +kernel
theorem dX12_oftenest_60 : decode cX12_oftenest 60 = .ok (.aload_n 0, 1) := by decide +kernel
theorem dX12_oftenest_61 : decode cX12_oftenest 61 = .ok (.invokevirtual 348, 3) := by decide +kernel
theorem dX12_oftenest_64 : decode cX12_oftenest 64 = .ok (.iconst 0, 1) := by decide +kernel
theorem dX12_oftenest_65 : decode cX12_oftenest 65 = .ok (.istore_n 3, 1) := by decide +kernel
theorem dX12_oftenest_66 : decode cX12_oftenest 66 = .ok (.iload_n 3, 1) := by decide +kernel
theorem dX12_oftenest_67 : decode cX12_oftenest 67 = .ok (.aload_n 0, 1) := by decide +kernel
theorem dX12_oftenest_68 : decode cX12_oftenest 68 = .ok (.getfield 34, 3) := by decide +kernel
theorem dX12_oftenest_71 : decode cX12_oftenest 71 = .ok (.iconst 0, 1) := by decide +kernel
theorem dX12_oftenest_72 : decode cX12_oftenest 72 = .ok (.iaload, 1) := by decide +kernel
theorem dX12_oftenest_73 : decode cX12_oftenest 73 = .ok (.if_icmp .ge 26, 3) := by decide +kernel
theorem dX12_oftenest_76 : decode cX12_oftenest 76 = .ok (.aload_n 0, 1) := by decide +kernel
theorem dX12_oftenest_77 : decode cX12_oftenest 77 = .ok (.getfield 99, 3) := by decide +kernel
theorem dX12_oftenest_80 : decode cX12_oftenest 80 = .ok (.iload_n 3, 1) := by decide +kernel
theorem dX12_oftenest_81 : decode cX12_oftenest 81 = .ok (.dup2, 1) := by decide +kernel
theorem dX12_oftenest_82 : decode cX12_oftenest 82 = .ok (.iaload, 1) := by decide +kernel
theorem dX12_oftenest_83 : decode cX12_oftenest 83 = .ok (.aload_n 0, 1) := by decide +kernel
theorem dX12_oftenest_84 : decode cX12_oftenest 84 = .ok (.getfield 341, 3) := by decide +kernel
theorem dX12_oftenest_87 : decode cX12_oftenest 87 = .ok (.iload_n 3, 1) := by decide +kernel
theorem dX12_oftenest_88 : decode cX12_oftenest 88 = .ok (.ishr, 1) := by decide +kernel
theorem dX12_oftenest_89 : decode cX12_oftenest 89 = .ok (.iconst 1, 1) := by decide +kernel
theorem dX12_oftenest_90 : decode cX12_oftenest 90 = .ok (.iand, 1) := by decide +kernel
theorem dX12_oftenest_91 : decode cX12_oftenest 91 = .ok (.iadd, 1) := by decide +kernel
theorem dX12_oftenest_92 : decode cX12_oftenest 92 = .ok (.iastore, 1) := by decide +kernel
theorem dX12_oftenest_93 : decode cX12_oftenest 93 = .ok (.iinc 3 1, 3) := by decide +kernel
theorem dX12_oftenest_96 : decode cX12_oftenest 96 = .ok (.goto (-30), 3) := by decide +kernel
theorem dX12_oftenest_99 : decode cX12_oftenest 99 = .ok (.iinc 2 1, 3) := by decide +kernel
theorem dX12_oftenest_102 : decode cX12_oftenest 102 = .ok (.goto (-47), 3) := by decide +kernel
theorem dX12_oftenest_105 : decode cX12_oftenest 105 = .ok (.aload_n 0, 1) := by decide +kernel
theorem dX12_oftenest_106 : decode cX12_oftenest 106 = .ok (.aload_n 0, 1) := by decide +kernel
theorem dX12_oftenest_107 : decode cX12_oftenest 107 = .ok (.getfield 96, 3) := by decide +kernel
theorem dX12_oftenest_110 : decode cX12_oftenest 110 = .ok (.iconst 0, 1) := by decide +kernel
theorem dX12_oftenest_111 : decode cX12_oftenest 111 = .ok (.invokevirtual 403, 3) := by decide +kernel
theorem dX12_oftenest_114 : decode cX12_oftenest 114 = .ok (.iconst (-1), 1) := by decide +kernel
theorem dX12_oftenest_115 : decode cX12_oftenest 115 = .ok (.istore_n 2, 1) := by decide +kernel
theorem dX12_oftenest_116 : decode cX12_oftenest 116 = .ok (.iconst 0, 1) := by decide +kernel
theorem dX12_oftenest_117 : decode cX12_oftenest 117 = .ok (.istore_n 3, 1) := by decide +kernel
theorem dX12_oftenest_118 : decode cX12_oftenest 118 = .ok (.iload_n 3, 1) := by decide +kernel
theorem dX12_oftenest_119 : decode cX12_oftenest 119 = .ok (.aload_n 0, 1) := by decide +kernel
theorem dX12_oftenest_120 : decode cX12_oftenest 120 = .ok (.getfield 34, 3) := by decide +kernel
theorem dX12_oftenest_123 : decode cX12_oftenest 123 = .ok (.iconst 0, 1) := by decide +kernel
theorem dX12_oftenest_124 : decode cX12_oftenest 124 = .ok (.iaload, 1) := by decide +kernel
theorem dX12_oftenest_125 : decode cX12_oftenest 125 = .ok (.if_icmp .ge 31, 3) := by decide +kernel
theorem dX12_oftenest_128 : decode cX12_oftenest 128 = .ok (.iload_n 2, 1) := by decide +kernel
theorem dX12_oftenest_129 : decode cX12_oftenest 129 = .ok (.iconst (-1), 1) := by decide +kernel
theorem dX12_oftenest_130 : decode cX12_oftenest 130 = .ok (.if_icmp .eq 18, 3) := by decide +kernel
theorem dX12_oftenest_133 : decode cX12_oftenest 133 = .ok (.aload_n 0, 1) := by decide +kernel
theorem dX12_oftenest_134 : decode cX12_oftenest 134 = .ok (.getfield 99, 3) := by decide +kernel
theorem dX12_oftenest_137 : decode cX12_oftenest 137 = .ok (.iload_n 3, 1) := by decide +kernel
theorem dX12_oftenest_138 : decode cX12_oftenest 138 = .ok (.iaload, 1) := by decide +kernel
theorem dX12_oftenest_139 : decode cX12_oftenest 139 = .ok (.aload_n 0, 1) := by decide +kernel
theorem dX12_oftenest_140 : decode cX12_oftenest 140 = .ok (.getfield 99, 3) := by decide +kernel
theorem dX12_oftenest_143 : decode cX12_oftenest 143 = .ok (.iload_n 2, 1) := by decide +kernel
theorem dX12_oftenest_144 : decode cX12_oftenest 144 = .ok (.iaload, 1) := by decide +kernel
theorem dX12_oftenest_145 : decode cX12_oftenest 145 = .ok (.if_icmp .le 5, 3) := by decide +kernel
theorem dX12_oftenest_148 : decode cX12_oftenest 148 = .ok (.iload_n 3, 1) := by decide +kernel
theorem dX12_oftenest_149 : decode cX12_oftenest 149 = .ok (.istore_n 2, 1) := by decide +kernel
theorem dX12_oftenest_150 : decode cX12_oftenest 150 = .ok (.iinc 3 1, 3) := by decide +kernel
theorem dX12_oftenest_153 : decode cX12_oftenest 153 = .ok (.goto (-35), 3) := by decide +kernel
theorem dX12_oftenest_156 : decode cX12_oftenest 156 = .ok (.iload_n 2, 1) := by decide +kernel
theorem dX12_oftenest_157 : decode cX12_oftenest 157 = .ok (.ireturn, 1) := by decide +kernel
set_option maxRecDepth 20000 in
theorem ggX12_reachedBy_X12_pack : GoodIn wsX12_reachedBy wsX12_pack := goodIn_r _ [11, 12, 4, 5, 3, 13, 14, 91, 92, 93, 94, 95, 96, 97, 98, 99, 100, 101, 102, 103, 104, 105, 106, 107, 108, 109, 110, 111, 112, 113, 114, 115, 116, 117, 118, 119, 120, 121, 122, 123, 124, 125, 126, 127, 128, 129, 130, 131, 132, 133, 134, 135, 136, 137, 138, 139, 140, 141, 142, 143, 144, 145, 146, 147] (by decide +kernel) (by decide +kernel)
set_option maxRecDepth 20000 in
theorem gX12_reachedBy_X12_pack : GoodIn wsX12_reachedBy (wsV RX12 372 RX12 yX12_pack wsX12_pack) := goodIn_app (goodIn_of _ (by decide +kernel)) ggX12_reachedBy_X12_pack
set_option maxRecDepth 20000 in
theorem ggX12_reachedBy_X12_hushAll : GoodIn wsX12_reachedBy wsX12_hushAll := goodIn_r _ [18, 5, 91, 92, 93, 94, 95, 96, 97, 98, 99, 100, 101, 102, 103, 104, 105, 106, 107, 108, 109, 110, 111, 112, 113, 114, 115, 116, 117, 118, 119, 120, 121, 122, 123, 124, 125, 126, 127, 128, 129, 130, 131, 132, 133, 134, 135, 136, 137, 138, 139, 140, 141, 142, 143, 144, 145, 146, 147] (by decide +kernel) (by decide +kernel)
set_option maxRecDepth 20000 in
theorem gX12_reachedBy_X12_hushAll : GoodIn wsX12_reachedBy (wsV RX12 400 RX12 yX12_hushAll wsX12_hushAll) := goodIn_app (goodIn_of _ (by decide +kernel)) ggX12_reachedBy_X12_hushAll
set_option maxRecDepth 20000 in
theorem ggX12_reachedBy_X12_isOf : GoodIn wsX12_reachedBy wsX12_isOf := goodIn_r _ [21] (by decide +kernel) (by decide +kernel)
set_option maxRecDepth 20000 in
theorem gX12_reachedBy_X12_isOf : GoodIn wsX12_reachedBy (va_wsS RX12 332 yX12_isOf wsX12_isOf) := goodIn_app (goodIn_of _ (by decide +kernel)) ggX12_reachedBy_X12_isOf
set_option maxRecDepth 20000 in
theorem ggX12_reachedBy_X12_aTick : GoodIn wsX12_reachedBy wsX12_aTick := goodIn_r _ [25, 6, 2, 5, 3, 13, 26, 27, 28, 29, 4, 30, 12, 19, 20, 10, 21, 31, 32, 33, 34, 35, 36, 37, 38, 39, 40, 41, 42, 43, 44, 45, 46, 47, 48, 49, 50, 51, 52, 53, 54, 55, 56, 57, 58, 59, 60, 61, 62, 63, 64, 65, 66, 67, 68, 14, 69, 70, 71, 72, 73, 74, 75, 76, 77, 78, 79, 80, 81, 82, 83, 84, 85, 86, 91, 92, 93, 94, 95, 96, 97, 98, 99, 100, 101, 102, 103, 104, 105, 106, 107, 108, 109, 110, 111, 112, 113, 114, 115, 116, 117, 118, 119, 120, 121, 122, 123, 124, 125, 126, 127, 128, 129, 130, 131, 132, 133, 134, 135, 136, 137, 138, 139, 140, 141, 142, 143, 144, 145, 146, 147] (by decide +kernel) (by decide +kernel)
set_option maxRecDepth 20000 in
theorem gX12_reachedBy_X12_aTick : GoodIn wsX12_reachedBy (wsV RX12 348 RX12 yX12_aTick wsX12_aTick) := goodIn_app (goodIn_of _ (by decide +kernel)) ggX12_reachedBy_X12_aTick
set_option maxRecDepth 20000 in
theorem ggX12_reachedBy_X12_unpack : GoodIn wsX12_reachedBy wsX12_unpack := goodIn_r _ [90, 12, 4, 5, 3, 13, 14, 91, 92, 93, 94, 95, 96, 97, 98, 99, 100, 101, 102, 103, 104, 105, 106, 107, 108, 109, 110, 111, 112, 113, 114, 115, 116, 117, 118, 119, 120, 121, 122, 123, 124, 125, 126, 127, 128, 129, 130, 131, 132, 133, 134, 135, 136, 137, 138, 139, 140, 141, 142, 143, 144, 145, 146, 147] (by decide +kernel) (by decide +kernel)
set_option maxRecDepth 20000 in
theorem gX12_reachedBy_X12_unpack : GoodIn wsX12_reachedBy (wsV RX12 403 RX12 yX12_unpack wsX12_unpack) := goodIn_app (goodIn_of _ (by decide +kernel)) ggX12_reachedBy_X12_unpack
theorem dX12_reachedBy_0 : decode cX12_reachedBy 0 = .ok (.aload_n 0, 1) := by decide +kernel
theorem dX12_reachedBy_1 : decode cX12_reachedBy 1 = .ok (.aload_n 0, 1) := by decide +kernel
theorem dX12_reachedBy_2 : decode cX12_reachedBy 2 = .ok (.getfield 102, 3) := by decide +kernel
theorem dX12_reachedBy_5 : decode cX12_reachedBy 5 = .ok (.iconst 0, 1) := by decide +kernel
theorem dX12_reachedBy_6 : decode cX12_reachedBy 6 = .ok (.invokevirtual 372, 3) := by decide +kernel
theorem dX12_reachedBy_9 : decode cX12_reachedBy 9 = .ok (.aload_n 0, 1) := by decide +kernel
theorem dX12_reachedBy_10 : decode cX12_reachedBy 10 = .ok (.invokevirtual 400, 3) := by decide +kernel
theorem dX12_reachedBy_13 : decode cX12_reachedBy 13 = .ok (.iconst 0, 1) := by decide +kernel
theorem dX12_reachedBy_14 : decode cX12_reachedBy 14 = .ok (.istore_n 3, 1) := by decide +kernel
theorem dX12_reachedBy_15 : decode cX12_reachedBy 15 = .ok (.iload_n 3, 1) := by decide +kernel
theorem dX12_reachedBy_16 : decode cX12_reachedBy 16 = .ok (.aload_n 0, 1) := by decide +kernel
theorem dX12_reachedBy_17 : decode cX12_reachedBy 17 = .ok (.getfield 34, 3) := by decide +kernel
theorem dX12_reachedBy_20 : decode cX12_reachedBy 20 = .ok (.iconst 0, 1) := by decide +kernel
theorem dX12_reachedBy_21 : decode cX12_reachedBy 21 = .ok (.iaload, 1) := by decide +kernel
theorem dX12_reachedBy_22 : decode cX12_reachedBy 22 = .ok (.if_icmp .ge 38, 3) := by decide +kernel
theorem dX12_reachedBy_25 : decode cX12_reachedBy 25 = .ok (.aload_n 0, 1) := by decide +kernel
theorem dX12_reachedBy_26 : decode cX12_reachedBy 26 = .ok (.getfield 72, 3) := by decide +kernel
theorem dX12_reachedBy_29 : decode cX12_reachedBy 29 = .ok (.iload_n 3, 1) := by decide +kernel
theorem dX12_reachedBy_30 : decode cX12_reachedBy 30 = .ok (.iconst 0, 1) := by decide +kernel
theorem dX12_reachedBy_31 : decode cX12_reachedBy 31 = .ok (.iastore, 1) := by decide +kernel
theorem dX12_reachedBy_32 : decode cX12_reachedBy 32 = .ok (.iload_n 1, 1) := by decide +kernel
theorem dX12_reachedBy_33 : decode cX12_reachedBy 33 = .ok (.aload_n 0, 1) := by decide +kernel
theorem dX12_reachedBy_34 : decode cX12_reachedBy 34 = .ok (.getfield 290, 3) := by decide +kernel
theorem dX12_reachedBy_37 : decode cX12_reachedBy 37 = .ok (.iconst (-1), 1) := by decide +kernel
theorem dX12_reachedBy_38 : decode cX12_reachedBy 38 = .ok (.ixor, 1) := by decide +kernel
theorem dX12_reachedBy_39 : decode cX12_reachedBy 39 = .ok (.iand, 1) := by decide +kernel
theorem dX12_reachedBy_40 : decode cX12_reachedBy 40 = .ok (.iload_n 3, 1) := by decide +kernel
theorem dX12_reachedBy_41 : decode cX12_reachedBy 41 = .ok (.invokestatic 332, 3) := by decide +kernel
theorem dX12_reachedBy_44 : decode cX12_reachedBy 44 = .ok (.ifCond .eq 10, 3) := by decide +kernel
theorem dX12_reachedBy_47 : decode cX12_reachedBy 47 = .ok (.aload_n 0, 1) := by decide +kernel
theorem dX12_reachedBy_48 : decode cX12_reachedBy 48 = .ok (.getfield 69, 3) := by decide +kernel
theorem dX12_reachedBy_51 : decode cX12_reachedBy 51 = .ok (.iload_n 3, 1) := by decide +kernel
theorem dX12_reachedBy_52 : decode cX12_reachedBy 52 = .ok (.iconst 1, 1) := by decide +kernel
theorem dX12_reachedBy_53 : decode cX12_reachedBy 53 = .ok (.iastore, 1) := by decide +kernel
theorem dX12_reachedBy_54 : decode cX12_reachedBy 54 = .ok (.iinc 3 1, 3) := by decide +kernel
theorem dX12_reachedBy_57 : decode cX12_reachedBy 57 = .ok (.goto (-42), 3) := by decide +kernel
theorem dX12_reachedBy_60 : decode cX12_reachedBy 60 = .ok (.iconst 0, 1) := by decide +kernel
theorem dX12_reachedBy_61 : decode cX12_reachedBy 61 = .ok (.istore_n 3, 1) := by decide +kernel
theorem dX12_reachedBy_62 : decode cX12_reachedBy 62 = .ok (.iconst 0, 1) := by decide +kernel
theorem dX12_reachedBy_63 : decode cX12_reachedBy 63 = .ok (.istore 4, 2) := by decide +kernel
theorem dX12_reachedBy_65 : decode cX12_reachedBy 65 = .ok (.iload 4, 2) := by decide +kernel
theorem dX12_reachedBy_67 : decode cX12_reachedBy 67 = .ok (.iload_n 2, 1) := by decide +kernel
theorem dX12_reachedBy_68 : decode cX12_reachedBy 68 = .ok (.if_icmp .ge 20, 3) := by decide +kernel
theorem dX12_reachedBy_71 : decode cX12_reachedBy 71 = .ok (.aload_n 0, 1) := by decide +kernel
theorem dX12_reachedBy_72 : decode cX12_reachedBy 72 = .ok (.invokevirtual 348, 3) := by decide +kernel
theorem dX12_reachedBy_75 : decode cX12_reachedBy 75 = .ok (.iload_n 3, 1) := by decide +kernel
theorem dX12_reachedBy_76 : decode cX12_reachedBy 76 = .ok (.aload_n 0, 1) := by decide +kernel
theorem dX12_reachedBy_77 : decode cX12_reachedBy 77 = .ok (.getfield 341, 3) := by decide +kernel
theorem dX12_reachedBy_80 : decode cX12_reachedBy 80 = .ok (.ior, 1) := by decide +kernel
theorem dX12_reachedBy_81 : decode cX12_reachedBy 81 = .ok (.istore_n 3, 1) := by decide +kernel
theorem dX12_reachedBy_82 : decode cX12_reachedBy 82 = .ok (.iinc 4 1, 3) := by decide +kernel
theorem dX12_reachedBy_85 : decode cX12_reachedBy 85 = .ok (.goto (-20), 3) := by decide +kernel
theorem dX12_reachedBy_88 : decode cX12_reachedBy 88 = .ok (.aload_n 0, 1) := by decide +kernel
theorem dX12_reachedBy_89 : decode cX12_reachedBy 89 = .ok (.aload_n 0, 1) := by decide +kernel
theorem dX12_reachedBy_90 : decode cX12_reachedBy 90 = .ok (.getfield 102, 3) := by decide +kernel
theorem dX12_reachedBy_93 : decode cX12_reachedBy 93 = .ok (.iconst 0, 1) := by decide +kernel
theorem dX12_reachedBy_94 : decode cX12_reachedBy 94 = .ok (.invokevirtual 403, 3) := by decide +kernel
theorem dX12_reachedBy_97 : decode cX12_reachedBy 97 = .ok (.iload_n 3, 1) := by decide +kernel
theorem dX12_reachedBy_98 : decode cX12_reachedBy 98 = .ok (.ireturn, 1) := by decide +kernel
set_option maxRecDepth 20000 in
theorem ggX12_reachesIn_X12_reachedBy : GoodIn wsX12_reachesIn wsX12_reachedBy := goodIn_r _ [5, 6, 7, 8, 9, 10, 11, 12, 13, 14, 4, 15, 16, 17, 18, 19, 20, 21, 22, 23, 24, 25, 26, 27, 28, 29, 30, 31, 32, 33, 34, 35, 36, 37, 38, 39, 40, 41, 42, 43, 44, 45, 46, 47, 48, 49, 50, 51, 52, 53, 54, 55, 56, 57, 58, 59, 60, 61, 62, 63, 64, 65, 66, 67, 68, 69, 70, 71, 72, 73, 74, 75, 76, 77, 78, 79, 80, 81, 82, 83, 84, 85, 86, 87, 88, 89, 90, 91, 92, 93, 94, 95, 96, 97, 98, 99, 100, 101, 102, 103, 104, 105, 106, 107, 108, 109, 110, 111, 112, 113, 114, 115, 116, 117, 118, 119, 120, 121, 122, 123, 124, 125, 126, 127, 128, 129, 130, 131, 132, 133, 134, 135, 136, 137, 138, 139, 140, 141, 142, 143, 144, 145, 146, 147, 148, 149, 150, 151] (by decide +kernel) (by decide +kernel)
set_option maxRecDepth 20000 in
theorem gX12_reachesIn_X12_reachedBy : GoodIn wsX12_reachesIn (wsV RX12 408 RX12 yX12_reachedBy wsX12_reachedBy) := goodIn_app (goodIn_of _ (by decide +kernel)) ggX12_reachesIn_X12_reachedBy
set_option maxRecDepth 20000 in
theorem ggX12_reachesIn_X12_isOf : GoodIn wsX12_reachesIn wsX12_isOf := goodIn_r _ [25] (by decide +kernel) (by decide +kernel)
set_option maxRecDepth 20000 in
theorem gX12_reachesIn_X12_isOf : GoodIn wsX12_reachesIn (va_wsS RX12 332 yX12_isOf wsX12_isOf) := goodIn_app (goodIn_of _ (by decide +kernel)) ggX12_reachesIn_X12_isOf
theorem dX12_reachesIn_0 : decode cX12_reachesIn 0 = .ok (.aload_n 0, 1) := by decide +kernel
theorem dX12_reachesIn_1 : decode cX12_reachesIn 1 = .ok (.iconst 1, 1) := by decide +kernel
theorem dX12_reachesIn_2 : decode cX12_reachesIn 2 = .ok (.iload_n 1, 1) := by decide +kernel
theorem dX12_reachesIn_3 : decode cX12_reachesIn 3 = .ok (.ishl, 1) := by decide +kernel
theorem dX12_reachesIn_4 : decode cX12_reachesIn 4 = .ok (.iload_n 3, 1) := by decide +kernel
theorem dX12_reachesIn_5 : decode cX12_reachesIn 5 = .ok (.invokevirtual 408, 3) := by decide +kernel
theorem dX12_reachesIn_8 : decode cX12_reachesIn 8 = .ok (.iload_n 2, 1) := by decide +kernel
theorem dX12_reachesIn_9 : decode cX12_reachesIn 9 = .ok (.invokestatic 332, 3) := by decide +kernel
theorem dX12_reachesIn_12 : decode cX12_reachesIn 12 = .ok (.ireturn, 1) := by decide +kernel
set_option maxRecDepth 20000 in
theorem ggX12_reaches_X12_isFarm : GoodIn wsX12_reaches wsX12_isFarm := goodIn_r _ [6, 7, 8, 9, 5, 10, 111, 112, 113, 114, 115, 116, 117, 118, 119, 120, 121, 122, 123, 124, 125, 126, 127, 128, 129, 130, 131, 132, 133, 134, 135, 136, 137, 138, 139, 140, 141, 142, 143, 144, 145, 146, 147, 148, 149, 150, 151, 152, 153, 154, 155, 156, 157, 158, 159, 160, 161, 162, 163, 164, 165, 166, 167] (by decide +kernel) (by decide +kernel)
set_option maxRecDepth 20000 in
theorem gX12_reaches_X12_isFarm : GoodIn wsX12_reaches (wsV RX12 369 RX12 yX12_isFarm wsX12_isFarm) := goodIn_app (goodIn_of _ (by decide +kernel)) ggX12_reaches_X12_isFarm
set_option maxRecDepth 20000 in
theorem ggX12_reaches_X12_fail : GoodIn wsX12_reaches wsX12_fail := goodIn_r _ [14, 1, 111, 112, 113, 114, 115, 116, 117, 118, 119, 120, 121, 122, 123, 124, 125, 126, 127, 128, 129, 130, 131, 132, 133, 134, 135, 136, 137, 138, 139, 140, 141, 142, 143, 144, 145, 146, 147, 148, 149, 150, 151, 152, 153, 154, 155, 156, 157, 158, 159, 160, 161, 162, 163, 164, 165, 166, 167] (by decide +kernel) (by decide +kernel)
set_option maxRecDepth 20000 in
theorem gX12_reaches_X12_fail : GoodIn wsX12_reaches (wsV RX12 274 RX12 yX12_fail wsX12_fail) := goodIn_app (goodIn_of _ (by decide +kernel)) ggX12_reaches_X12_fail
set_option maxRecDepth 20000 in
theorem ggX12_reaches_X12_reachesIn : GoodIn wsX12_reaches wsX12_reachesIn := goodIn_r _ [18, 19, 20, 21, 5, 22, 23, 7, 24, 25, 26, 27, 28, 29, 30, 31, 32, 33, 34, 35, 36, 37, 38, 39, 40, 41, 42, 43, 44, 45, 46, 47, 48, 49, 50, 51, 52, 53, 54, 55, 56, 57, 58, 59, 60, 61, 62, 63, 64, 65, 66, 67, 68, 69, 70, 71, 72, 73, 74, 75, 76, 77, 78, 79, 80, 81, 82, 83, 84, 85, 86, 87, 88, 89, 90, 91, 92, 93, 94, 95, 96, 97, 98, 99, 100, 101, 102, 103, 104, 105, 106, 107, 108, 109, 110, 111, 112, 113, 114, 115, 116, 117, 118, 119, 120, 121, 122, 123, 124, 125, 126, 127, 128, 129, 130, 131, 132, 133, 134, 135, 136, 137, 138, 139, 140, 141, 142, 143, 144, 145, 146, 147, 148, 149, 150, 151, 152, 153, 154, 155, 156, 157, 158, 159, 160, 161, 162, 163, 164, 165, 166, 167] (by decide +kernel) (by decide +kernel)
set_option maxRecDepth 20000 in
theorem gX12_reaches_X12_reachesIn : GoodIn wsX12_reaches (wsV RX12 411 RX12 yX12_reachesIn wsX12_reachesIn) := goodIn_app (goodIn_of _ (by decide +kernel)) ggX12_reaches_X12_reachesIn
theorem dX12_reaches_0 : decode cX12_reaches 0 = .ok (.aload_n 0, 1) := by decide +kernel
theorem dX12_reaches_1 : decode cX12_reaches 1 = .ok (.iconst 0, 1) := by decide +kernel
theorem dX12_reaches_2 : decode cX12_reaches 2 = .ok (.putfield 142, 3) := by decide +kernel
theorem dX12_reaches_5 : decode cX12_reaches 5 = .ok (.aload_n 0, 1) := by decide +kernel
theorem dX12_reaches_6 : decode cX12_reaches 6 = .ok (.iload_n 1, 1) := by decide +kernel
theorem dX12_reaches_7 : decode cX12_reaches 7 = .ok (.invokevirtual 369, 3) := by decide +kernel
theorem dX12_reaches_10 : decode cX12_reaches 10 = .ok (.ifCond .eq 11, 3) := by decide +kernel
theorem dX12_reaches_13 : decode cX12_reaches 13 = .ok (.aload_n 0, 1) := by decide +kernel
theorem dX12_reaches_14 : decode cX12_reaches 14 = .ok (.iload_n 2, 1) := by decide +kernel
theorem dX12_reaches_15 : decode cX12_reaches 15 = .ok (.invokevirtual 369, 3) := by decide +kernel
theorem dX12_reaches_18 : decode cX12_reaches 18 = .ok (.ifCond .ne 9, 3) := by decide +kernel
theorem dX12_reaches_21 : decode cX12_reaches 21 = .ok (.aload_n 0, 1) := by decide +kernel
theorem dX12_reaches_22 : decode cX12_reaches 22 = .ok (.iconst 1, 1) := by decide +kernel
theorem dX12_reaches_23 : decode cX12_reaches 23 = .ok (.invokevirtual 274, 3) := by decide +kernel
theorem dX12_reaches_26 : decode cX12_reaches 26 = .ok (.ireturn, 1) := by decide +kernel
theorem dX12_reaches_27 : decode cX12_reaches 27 = .ok (.aload_n 0, 1) := by decide +kernel
theorem dX12_reaches_28 : decode cX12_reaches 28 = .ok (.iload_n 1, 1) := by decide +kernel
theorem dX12_reaches_29 : decode cX12_reaches 29 = .ok (.iload_n 2, 1) := by decide +kernel
theorem dX12_reaches_30 : decode cX12_reaches 30 = .ok (.bipush 60, 2) := by decide +kernel
theorem dX12_reaches_32 : decode cX12_reaches 32 = .ok (.invokevirtual 411, 3) := by decide +kernel
theorem dX12_reaches_35 : decode cX12_reaches 35 = .ok (.ifCond .ne 5, 3) := by decide +kernel
theorem dX12_reaches_38 : decode cX12_reaches 38 = .ok (.iconst (-1), 1) := by decide +kernel
theorem dX12_reaches_39 : decode cX12_reaches 39 = .ok (.ireturn, 1) := by decide +kernel
theorem dX12_reaches_40 : decode cX12_reaches 40 = .ok (.iconst 1, 1) := by decide +kernel
theorem dX12_reaches_41 : decode cX12_reaches 41 = .ok (.istore_n 3, 1) := by decide +kernel
theorem dX12_reaches_42 : decode cX12_reaches 42 = .ok (.bipush 60, 2) := by decide +kernel
theorem dX12_reaches_44 : decode cX12_reaches 44 = .ok (.istore 4, 2) := by decide +kernel
theorem dX12_reaches_46 : decode cX12_reaches 46 = .ok (.iload_n 3, 1) := by decide +kernel
theorem dX12_reaches_47 : decode cX12_reaches 47 = .ok (.iload 4, 2) := by decide +kernel
theorem dX12_reaches_49 : decode cX12_reaches 49 = .ok (.if_icmp .ge 37, 3) := by decide +kernel
theorem dX12_reaches_52 : decode cX12_reaches 52 = .ok (.iload_n 3, 1) := by decide +kernel
theorem dX12_reaches_53 : decode cX12_reaches 53 = .ok (.iload 4, 2) := by decide +kernel
theorem dX12_reaches_55 : decode cX12_reaches 55 = .ok (.iadd, 1) := by decide +kernel
theorem dX12_reaches_56 : decode cX12_reaches 56 = .ok (.iconst 2, 1) := by decide +kernel
theorem dX12_reaches_57 : decode cX12_reaches 57 = .ok (.idiv, 1) := by decide +kernel
theorem dX12_reaches_58 : decode cX12_reaches 58 = .ok (.istore 5, 2) := by decide +kernel
theorem dX12_reaches_60 : decode cX12_reaches 60 = .ok (.aload_n 0, 1) := by decide +kernel
theorem dX12_reaches_61 : decode cX12_reaches 61 = .ok (.iload_n 1, 1) := by decide +kernel
theorem dX12_reaches_62 : decode cX12_reaches 62 = .ok (.iload_n 2, 1) := by decide +kernel
theorem dX12_reaches_63 : decode cX12_reaches 63 = .ok (.iload 5, 2) := by decide +kernel
theorem dX12_reaches_65 : decode cX12_reaches 65 = .ok (.invokevirtual 411, 3) := by decide +kernel
theorem dX12_reaches_68 : decode cX12_reaches 68 = .ok (.ifCond .eq 10, 3) := by decide +kernel
theorem dX12_reaches_71 : decode cX12_reaches 71 = .ok (.iload 5, 2) := by decide +kernel
theorem dX12_reaches_73 : decode cX12_reaches 73 = .ok (.istore 4, 2) := by decide +kernel
theorem dX12_reaches_75 : decode cX12_reaches 75 = .ok (.goto 8, 3) := by decide +kernel
theorem dX12_reaches_78 : decode cX12_reaches 78 = .ok (.iload 5, 2) := by decide +kernel
theorem dX12_reaches_80 : decode cX12_reaches 80 = .ok (.iconst 1, 1) := by decide +kernel
theorem dX12_reaches_81 : decode cX12_reaches 81 = .ok (.iadd, 1) := by decide +kernel
theorem dX12_reaches_82 : decode cX12_reaches 82 = .ok (.istore_n 3, 1) := by decide +kernel
theorem dX12_reaches_83 : decode cX12_reaches 83 = .ok (.goto (-37), 3) := by decide +kernel
theorem dX12_reaches_86 : decode cX12_reaches 86 = .ok (.iload_n 3, 1) := by decide +kernel
theorem dX12_reaches_87 : decode cX12_reaches 87 = .ok (.ireturn, 1) := by decide +kernel
set_option maxRecDepth 20000 in
theorem ggX12_reached_X12_isFarm : GoodIn wsX12_reached wsX12_isFarm := goodIn_r _ [7, 8, 9, 10, 6, 11, 108, 109, 110, 111, 112, 113, 114, 115, 116, 117, 118, 119, 120, 121, 122, 123, 124, 125, 126, 127, 128, 129, 130, 131, 132, 133, 134, 135, 136, 137, 138, 139, 140, 141, 142, 143, 144, 145, 146, 147, 148, 149, 150, 151, 152, 153, 154, 155, 156, 157, 158, 159, 160, 161, 162, 163, 164] (by decide +kernel) (by decide +kernel)
set_option maxRecDepth 20000 in
theorem gX12_reached_X12_isFarm : GoodIn wsX12_reached (wsV RX12 369 RX12 yX12_isFarm wsX12_isFarm) := goodIn_app (goodIn_of _ (by decide +kernel)) ggX12_reached_X12_isFarm
set_option maxRecDepth 20000 in
theorem ggX12_reached_X12_fail : GoodIn wsX12_reached wsX12_fail := goodIn_r _ [15, 1, 108, 109, 110, 111, 112, 113, 114, 115, 116, 117, 118, 119, 120, 121, 122, 123, 124, 125, 126, 127, 128, 129, 130, 131, 132, 133, 134, 135, 136, 137, 138, 139, 140, 141, 142, 143, 144, 145, 146, 147, 148, 149, 150, 151, 152, 153, 154, 155, 156, 157, 158, 159, 160, 161, 162, 163, 164] (by decide +kernel) (by decide +kernel)
set_option maxRecDepth 20000 in
theorem gX12_reached_X12_fail : GoodIn wsX12_reached (wsV RX12 274 RX12 yX12_fail wsX12_fail) := goodIn_app (goodIn_of _ (by decide +kernel)) ggX12_reached_X12_fail
set_option maxRecDepth 20000 in
theorem ggX12_reached_X12_isIn : GoodIn wsX12_reached wsX12_isIn := goodIn_r _ [11] (by decide +kernel) (by decide +kernel)
set_option maxRecDepth 20000 in
theorem gX12_reached_X12_isIn : GoodIn wsX12_reached (va_wsS RX12 145 yX12_isIn wsX12_isIn) := goodIn_app (goodIn_of _ (by decide +kernel)) ggX12_reached_X12_isIn
set_option maxRecDepth 20000 in
theorem ggX12_reached_X12_reachedBy : GoodIn wsX12_reached wsX12_reachedBy := goodIn_r _ [19, 20, 8, 21, 22, 23, 24, 25, 26, 27, 6, 28, 29, 30, 31, 32, 33, 34, 35, 36, 37, 38, 39, 40, 41, 42, 43, 44, 45, 46, 47, 48, 49, 50, 51, 52, 53, 54, 55, 56, 57, 58, 59, 60, 61, 62, 63, 64, 65, 66, 67, 68, 69, 70, 71, 72, 73, 74, 75, 76, 77, 78, 79, 80, 81, 82, 83, 84, 85, 86, 87, 88, 89, 90, 91, 92, 93, 94, 95, 96, 97, 98, 99, 100, 101, 102, 103, 104, 105, 106, 107, 108, 109, 110, 111, 112, 113, 114, 115, 116, 117, 118, 119, 120, 121, 122, 123, 124, 125, 126, 127, 128, 129, 130, 131, 132, 133, 134, 135, 136, 137, 138, 139, 140, 141, 142, 143, 144, 145, 146, 147, 148, 149, 150, 151, 152, 153, 154, 155, 156, 157, 158, 159, 160, 161, 162, 163, 164] (by decide +kernel) (by decide +kernel)
set_option maxRecDepth 20000 in
theorem gX12_reached_X12_reachedBy : GoodIn wsX12_reached (wsV RX12 408 RX12 yX12_reachedBy wsX12_reachedBy) := goodIn_app (goodIn_of _ (by decide +kernel)) ggX12_reached_X12_reachedBy
theorem dX12_reached_0 : decode cX12_reached 0 = .ok (.aload_n 0, 1) := by decide +kernel
theorem dX12_reached_1 : decode cX12_reached 1 = .ok (.iconst 0, 1) := by decide +kernel
theorem dX12_reached_2 : decode cX12_reached 2 = .ok (.putfield 142, 3) := by decide +kernel
theorem dX12_reached_5 : decode cX12_reached 5 = .ok (.aload_n 0, 1) := by decide +kernel
theorem dX12_reached_6 : decode cX12_reached 6 = .ok (.iload_n 1, 1) := by decide +kernel
theorem dX12_reached_7 : decode cX12_reached 7 = .ok (.invokevirtual 369, 3) := by decide +kernel
theorem dX12_reached_10 : decode cX12_reached 10 = .ok (.ifCond .ne 9, 3) := by decide +kernel
theorem dX12_reached_13 : decode cX12_reached 13 = .ok (.aload_n 0, 1) := by decide +kernel
theorem dX12_reached_14 : decode cX12_reached 14 = .ok (.iconst 1, 1) := by decide +kernel
theorem dX12_reached_15 : decode cX12_reached 15 = .ok (.invokevirtual 274, 3) := by decide +kernel
theorem dX12_reached_18 : decode cX12_reached 18 = .ok (.ireturn, 1) := by decide +kernel
theorem dX12_reached_19 : decode cX12_reached 19 = .ok (.iload_n 2, 1) := by decide +kernel
theorem dX12_reached_20 : decode cX12_reached 20 = .ok (.i2l, 1) := by decide +kernel
theorem dX12_reached_21 : decode cX12_reached 21 = .ok (.lconst 0, 1) := by decide +kernel
theorem dX12_reached_22 : decode cX12_reached 22 = .ok (.ldc2_w 406, 3) := by decide +kernel
theorem dX12_reached_25 : decode cX12_reached 25 = .ok (.invokestatic 145, 3) := by decide +kernel
theorem dX12_reached_28 : decode cX12_reached 28 = .ok (.ifCond .eq 14, 3) := by decide +kernel
theorem dX12_reached_31 : decode cX12_reached 31 = .ok (.aload_n 0, 1) := by decide +kernel
theorem dX12_reached_32 : decode cX12_reached 32 = .ok (.iconst 1, 1) := by decide +kernel
theorem dX12_reached_33 : decode cX12_reached 33 = .ok (.iload_n 1, 1) := by decide +kernel
theorem dX12_reached_34 : decode cX12_reached 34 = .ok (.ishl, 1) := by decide +kernel
theorem dX12_reached_35 : decode cX12_reached 35 = .ok (.iload_n 2, 1) := by decide +kernel
theorem dX12_reached_36 : decode cX12_reached 36 = .ok (.invokevirtual 408, 3) := by decide +kernel
theorem dX12_reached_39 : decode cX12_reached 39 = .ok (.goto 8, 3) := by decide +kernel
theorem dX12_reached_42 : decode cX12_reached 42 = .ok (.aload_n 0, 1) := by decide +kernel
theorem dX12_reached_43 : decode cX12_reached 43 = .ok (.iconst 2, 1) := by decide +kernel
theorem dX12_reached_44 : decode cX12_reached 44 = .ok (.invokevirtual 274, 3) := by decide +kernel
theorem dX12_reached_47 : decode cX12_reached 47 = .ok (.ireturn, 1) := by decide +kernel
set_option maxRecDepth 20000 in
theorem ggX12_through_X12_isFarm : GoodIn wsX12_through wsX12_isFarm := goodIn_r _ [8, 3, 9, 10, 7, 11, 111, 112, 113, 114, 115, 116, 117, 118, 119, 120, 121, 122, 123, 124, 125, 126, 127, 128, 129, 130, 131, 132, 133, 134, 135, 136, 137, 138, 139, 140, 141, 142, 143, 144, 145, 146, 147, 148, 149, 150, 151, 152, 153, 154, 155, 156, 157, 158, 159, 160, 161, 162, 163, 164, 165, 166, 167] (by decide +kernel) (by decide +kernel)
set_option maxRecDepth 20000 in
theorem gX12_through_X12_isFarm : GoodIn wsX12_through (wsV RX12 369 RX12 yX12_isFarm wsX12_isFarm) := goodIn_app (goodIn_of _ (by decide +kernel)) ggX12_through_X12_isFarm
set_option maxRecDepth 20000 in
theorem ggX12_through_X12_fail : GoodIn wsX12_through wsX12_fail := goodIn_r _ [15, 1, 111, 112, 113, 114, 115, 116, 117, 118, 119, 120, 121, 122, 123, 124, 125, 126, 127, 128, 129, 130, 131, 132, 133, 134, 135, 136, 137, 138, 139, 140, 141, 142, 143, 144, 145, 146, 147, 148, 149, 150, 151, 152, 153, 154, 155, 156, 157, 158, 159, 160, 161, 162, 163, 164, 165, 166, 167] (by decide +kernel) (by decide +kernel)
set_option maxRecDepth 20000 in
theorem gX12_through_X12_fail : GoodIn wsX12_through (wsV RX12 274 RX12 yX12_fail wsX12_fail) := goodIn_app (goodIn_of _ (by decide +kernel)) ggX12_through_X12_fail
set_option maxRecDepth 20000 in
theorem ggX12_through_X12_reachesIn : GoodIn wsX12_through wsX12_reachesIn := goodIn_r _ [19, 20, 21, 22, 7, 23, 24, 3, 25, 2, 26, 27, 28, 29, 30, 31, 32, 33, 34, 35, 36, 37, 38, 39, 40, 41, 42, 43, 44, 45, 46, 47, 48, 49, 50, 51, 52, 53, 54, 55, 56, 57, 58, 59, 60, 61, 62, 63, 64, 65, 66, 67, 68, 69, 70, 71, 72, 73, 74, 75, 76, 77, 78, 79, 80, 81, 82, 83, 84, 85, 86, 87, 88, 89, 90, 91, 92, 93, 94, 95, 96, 97, 98, 99, 100, 101, 102, 103, 104, 105, 106, 107, 108, 109, 110, 111, 112, 113, 114, 115, 116, 117, 118, 119, 120, 121, 122, 123, 124, 125, 126, 127, 128, 129, 130, 131, 132, 133, 134, 135, 136, 137, 138, 139, 140, 141, 142, 143, 144, 145, 146, 147, 148, 149, 150, 151, 152, 153, 154, 155, 156, 157, 158, 159, 160, 161, 162, 163, 164, 165, 166, 167] (by decide +kernel) (by decide +kernel)
set_option maxRecDepth 20000 in
theorem gX12_through_X12_reachesIn : GoodIn wsX12_through (wsV RX12 411 RX12 yX12_reachesIn wsX12_reachesIn) := goodIn_app (goodIn_of _ (by decide +kernel)) ggX12_through_X12_reachesIn
theorem dX12_through_0 : decode cX12_through 0 = .ok (.aload_n 0, 1) := by decide +kernel
theorem dX12_through_1 : decode cX12_through 1 = .ok (.iconst 0, 1) := by decide +kernel
theorem dX12_through_2 : decode cX12_through 2 = .ok (.putfield 142, 3) := by decide +kernel
theorem dX12_through_5 : decode cX12_through 5 = .ok (.aload_n 0, 1) := by decide +kernel
theorem dX12_through_6 : decode cX12_through 6 = .ok (.iload_n 1, 1) := by decide +kernel
theorem dX12_through_7 : decode cX12_through 7 = .ok (.invokevirtual 369, 3) := by decide +kernel
theorem dX12_through_10 : decode cX12_through 10 = .ok (.ifCond .eq 11, 3) := by decide +kernel
theorem dX12_through_13 : decode cX12_through 13 = .ok (.aload_n 0, 1) := by decide +kernel
theorem dX12_through_14 : decode cX12_through 14 = .ok (.iload_n 2, 1) := by decide +kernel
theorem dX12_through_15 : decode cX12_through 15 = .ok (.invokevirtual 369, 3) := by decide +kernel
theorem dX12_through_18 : decode cX12_through 18 = .ok (.ifCond .ne 9, 3) := by decide +kernel
theorem dX12_through_21 : decode cX12_through 21 = .ok (.aload_n 0, 1) := by decide +kernel
theorem dX12_through_22 : decode cX12_through 22 = .ok (.iconst 1, 1) := by decide +kernel
theorem dX12_through_23 : decode cX12_through 23 = .ok (.invokevirtual 274, 3) := by decide +kernel
theorem dX12_through_26 : decode cX12_through 26 = .ok (.ireturn, 1) := by decide +kernel
theorem dX12_through_27 : decode cX12_through 27 = .ok (.aload_n 0, 1) := by decide +kernel
theorem dX12_through_28 : decode cX12_through 28 = .ok (.iload_n 1, 1) := by decide +kernel
theorem dX12_through_29 : decode cX12_through 29 = .ok (.iload_n 2, 1) := by decide +kernel
theorem dX12_through_30 : decode cX12_through 30 = .ok (.bipush 60, 2) := by decide +kernel
theorem dX12_through_32 : decode cX12_through 32 = .ok (.invokevirtual 411, 3) := by decide +kernel
theorem dX12_through_35 : decode cX12_through 35 = .ok (.ifCond .ne 5, 3) := by decide +kernel
theorem dX12_through_38 : decode cX12_through 38 = .ok (.iconst 0, 1) := by decide +kernel
theorem dX12_through_39 : decode cX12_through 39 = .ok (.ireturn, 1) := by decide +kernel
theorem dX12_through_40 : decode cX12_through 40 = .ok (.aload_n 0, 1) := by decide +kernel
theorem dX12_through_41 : decode cX12_through 41 = .ok (.getfield 290, 3) := by decide +kernel
theorem dX12_through_44 : decode cX12_through 44 = .ok (.istore_n 3, 1) := by decide +kernel
theorem dX12_through_45 : decode cX12_through 45 = .ok (.iconst 0, 1) := by decide +kernel
theorem dX12_through_46 : decode cX12_through 46 = .ok (.istore 4, 2) := by decide +kernel
theorem dX12_through_48 : decode cX12_through 48 = .ok (.iconst 0, 1) := by decide +kernel
theorem dX12_through_49 : decode cX12_through 49 = .ok (.istore 5, 2) := by decide +kernel
theorem dX12_through_51 : decode cX12_through 51 = .ok (.iload 5, 2) := by decide +kernel
theorem dX12_through_53 : decode cX12_through 53 = .ok (.aload_n 0, 1) := by decide +kernel
theorem dX12_through_54 : decode cX12_through 54 = .ok (.getfield 34, 3) := by decide +kernel
theorem dX12_through_57 : decode cX12_through 57 = .ok (.iconst 0, 1) := by decide +kernel
theorem dX12_through_58 : decode cX12_through 58 = .ok (.iaload, 1) := by decide +kernel
theorem dX12_through_59 : decode cX12_through 59 = .ok (.if_icmp .ge 63, 3) := by decide +kernel
theorem dX12_through_62 : decode cX12_through 62 = .ok (.iload 5, 2) := by decide +kernel
theorem dX12_through_64 : decode cX12_through 64 = .ok (.iload_n 1, 1) := by decide +kernel
theorem dX12_through_65 : decode cX12_through 65 = .ok (.if_icmp .eq 51, 3) := by decide +kernel
theorem dX12_through_68 : decode cX12_through 68 = .ok (.iload 5, 2) := by decide +kernel
theorem dX12_through_70 : decode cX12_through 70 = .ok (.iload_n 2, 1) := by decide +kernel
theorem dX12_through_71 : decode cX12_through 71 = .ok (.if_icmp .ne 6, 3) := by decide +kernel
theorem dX12_through_74 : decode cX12_through 74 = .ok (.goto 42, 3) := by decide +kernel
theorem dX12_through_77 : decode cX12_through 77 = .ok (.aload_n 0, 1) := by decide +kernel
theorem dX12_through_78 : decode cX12_through 78 = .ok (.iload_n 3, 1) := by decide +kernel
theorem dX12_through_79 : decode cX12_through 79 = .ok (.iconst 1, 1) := by decide +kernel
theorem dX12_through_80 : decode cX12_through 80 = .ok (.iload 5, 2) := by decide +kernel
theorem dX12_through_82 : decode cX12_through 82 = .ok (.ishl, 1) := by decide +kernel
theorem dX12_through_83 : decode cX12_through 83 = .ok (.ior, 1) := by decide +kernel
theorem dX12_through_84 : decode cX12_through 84 = .ok (.putfield 290, 3) := by decide +kernel
theorem dX12_through_87 : decode cX12_through 87 = .ok (.iload 4, 2) := by decide +kernel
theorem dX12_through_89 : decode cX12_through 89 = .ok (.aload_n 0, 1) := by decide +kernel
theorem dX12_through_90 : decode cX12_through 90 = .ok (.iload_n 1, 1) := by decide +kernel
theorem dX12_through_91 : decode cX12_through 91 = .ok (.iload_n 2, 1) := by decide +kernel
theorem dX12_through_92 : decode cX12_through 92 = .ok (.bipush 60, 2) := by decide +kernel
theorem dX12_through_94 : decode cX12_through 94 = .ok (.invokevirtual 411, 3) := by decide +kernel
theorem dX12_through_97 : decode cX12_through 97 = .ok (.ifCond .eq 7, 3) := by decide +kernel
theorem dX12_through_100 : decode cX12_through 100 = .ok (.iconst 0, 1) := by decide +kernel
theorem dX12_through_101 : decode cX12_through 101 = .ok (.goto 7, 3) := by decide +kernel
theorem dX12_through_104 : decode cX12_through 104 = .ok (.iconst 1, 1) := by decide +kernel
theorem dX12_through_105 : decode cX12_through 105 = .ok (.iload 5, 2) := by decide +kernel
theorem dX12_through_107 : decode cX12_through 107 = .ok (.ishl, 1) := by decide +kernel
theorem dX12_through_108 : decode cX12_through 108 = .ok (.ior, 1) := by decide +kernel
theorem dX12_through_109 : decode cX12_through 109 = .ok (.istore 4, 2) := by decide +kernel
theorem dX12_through_111 : decode cX12_through 111 = .ok (.aload_n 0, 1) := by decide +kernel
theorem dX12_through_112 : decode cX12_through 112 = .ok (.iload_n 3, 1) := by decide +kernel
theorem dX12_through_113 : decode cX12_through 113 = .ok (.putfield 290, 3) := by decide +kernel
theorem dX12_through_116 : decode cX12_through 116 = .ok (.iinc 5 1, 3) := by decide +kernel
theorem dX12_through_119 : decode cX12_through 119 = .ok (.goto (-68), 3) := by decide +kernel
theorem dX12_through_122 : decode cX12_through 122 = .ok (.iload 4, 2) := by decide +kernel
theorem dX12_through_124 : decode cX12_through 124 = .ok (.ireturn, 1) := by decide +kernel
set_option maxRecDepth 20000 in
theorem ggX12_best_X12_isIn : GoodIn wsX12_best wsX12_isIn := goodIn_r _ [7] (by decide +kernel) (by decide +kernel)
set_option maxRecDepth 20000 in
theorem gX12_best_X12_isIn : GoodIn wsX12_best (va_wsS RX12 145 yX12_isIn wsX12_isIn) := goodIn_app (goodIn_of _ (by decide +kernel)) ggX12_best_X12_isIn
set_option maxRecDepth 20000 in
theorem ggX12_best_X12_fail : GoodIn wsX12_best wsX12_fail := goodIn_r _ [11, 1, 104, 105, 106, 107, 108, 109, 110, 111, 112, 113, 114, 115, 116, 117, 118, 119, 120, 121, 122, 123, 124, 125, 126, 127, 128, 129, 130, 131, 132, 133, 134, 135, 136, 137, 138, 139, 140, 141, 142, 143, 144, 145, 146, 147, 148, 149, 150, 151, 152, 153, 154, 155, 156, 157, 158, 159, 160] (by decide +kernel) (by decide +kernel)
set_option maxRecDepth 20000 in
theorem gX12_best_X12_fail : GoodIn wsX12_best (wsV RX12 274 RX12 yX12_fail wsX12_fail) := goodIn_app (goodIn_of _ (by decide +kernel)) ggX12_best_X12_fail
set_option maxRecDepth 20000 in
theorem ggX12_best_X12_reachedBy : GoodIn wsX12_best wsX12_reachedBy := goodIn_r _ [15, 16, 3, 17, 18, 19, 20, 21, 22, 23, 6, 24, 25, 26, 27, 28, 29, 30, 31, 32, 33, 34, 35, 36, 37, 38, 39, 40, 41, 42, 43, 44, 45, 46, 47, 48, 49, 50, 51, 52, 53, 54, 55, 56, 57, 58, 59, 60, 61, 62, 63, 64, 65, 66, 67, 68, 69, 70, 71, 72, 73, 74, 75, 76, 77, 78, 79, 80, 81, 82, 83, 84, 85, 86, 87, 88, 89, 90, 91, 92, 93, 94, 95, 96, 97, 98, 99, 100, 101, 102, 103, 104, 105, 106, 107, 108, 109, 110, 111, 112, 113, 114, 115, 116, 117, 118, 119, 120, 121, 122, 123, 124, 125, 126, 127, 128, 129, 130, 131, 132, 133, 134, 135, 136, 137, 138, 139, 140, 141, 142, 143, 144, 145, 146, 147, 148, 149, 150, 151, 152, 153, 154, 155, 156, 157, 158, 159, 160] (by decide +kernel) (by decide +kernel)
set_option maxRecDepth 20000 in
theorem gX12_best_X12_reachedBy : GoodIn wsX12_best (wsV RX12 408 RX12 yX12_reachedBy wsX12_reachedBy) := goodIn_app (goodIn_of _ (by decide +kernel)) ggX12_best_X12_reachedBy
set_option maxRecDepth 20000 in
theorem ggX12_best_X12_bitsOf : GoodIn wsX12_best wsX12_bitsOf := goodIn_r _ [90] (by decide +kernel) (by decide +kernel)
set_option maxRecDepth 20000 in
theorem gX12_best_X12_bitsOf : GoodIn wsX12_best (va_wsS RX12 335 yX12_bitsOf wsX12_bitsOf) := goodIn_app (goodIn_of _ (by decide +kernel)) ggX12_best_X12_bitsOf
theorem dX12_best_0 : decode cX12_best 0 = .ok (.aload_n 0, 1) := by decide +kernel
theorem dX12_best_1 : decode cX12_best 1 = .ok (.iconst 0, 1) := by decide +kernel
theorem dX12_best_2 : decode cX12_best 2 = .ok (.putfield 142, 3) := by decide +kernel
theorem dX12_best_5 : decode cX12_best 5 = .ok (.iload_n 1, 1) := by decide +kernel
theorem dX12_best_6 : decode cX12_best 6 = .ok (.i2l, 1) := by decide +kernel
theorem dX12_best_7 : decode cX12_best 7 = .ok (.lconst 1, 1) := by decide +kernel
theorem dX12_best_8 : decode cX12_best 8 = .ok (.ldc2_w 406, 3) := by decide +kernel
theorem dX12_best_11 : decode cX12_best 11 = .ok (.invokestatic 145, 3) := by decide +kernel
theorem dX12_best_14 : decode cX12_best 14 = .ok (.ifCond .ne 9, 3) := by decide +kernel
theorem dX12_best_17 : decode cX12_best 17 = .ok (.aload_n 0, 1) := by decide +kernel
theorem dX12_best_18 : decode cX12_best 18 = .ok (.iconst 1, 1) := by decide +kernel
theorem dX12_best_19 : decode cX12_best 19 = .ok (.invokevirtual 274, 3) := by decide +kernel
theorem dX12_best_22 : decode cX12_best 22 = .ok (.ireturn, 1) := by decide +kernel
theorem dX12_best_23 : decode cX12_best 23 = .ok (.iconst (-1), 1) := by decide +kernel
theorem dX12_best_24 : decode cX12_best 24 = .ok (.istore_n 2, 1) := by decide +kernel
theorem dX12_best_25 : decode cX12_best 25 = .ok (.iconst (-1), 1) := by decide +kernel
theorem dX12_best_26 : decode cX12_best 26 = .ok (.istore_n 3, 1) := by decide +kernel
theorem dX12_best_27 : decode cX12_best 27 = .ok (.iconst 0, 1) := by decide +kernel
theorem dX12_best_28 : decode cX12_best 28 = .ok (.istore 4, 2) := by decide +kernel
theorem dX12_best_30 : decode cX12_best 30 = .ok (.iload 4, 2) := by decide +kernel
theorem dX12_best_32 : decode cX12_best 32 = .ok (.aload_n 0, 1) := by decide +kernel
theorem dX12_best_33 : decode cX12_best 33 = .ok (.getfield 34, 3) := by decide +kernel
theorem dX12_best_36 : decode cX12_best 36 = .ok (.iconst 0, 1) := by decide +kernel
theorem dX12_best_37 : decode cX12_best 37 = .ok (.iaload, 1) := by decide +kernel
theorem dX12_best_38 : decode cX12_best 38 = .ok (.if_icmp .ge 38, 3) := by decide +kernel
theorem dX12_best_41 : decode cX12_best 41 = .ok (.aload_n 0, 1) := by decide +kernel
theorem dX12_best_42 : decode cX12_best 42 = .ok (.iconst 1, 1) := by decide +kernel
theorem dX12_best_43 : decode cX12_best 43 = .ok (.iload 4, 2) := by decide +kernel
theorem dX12_best_45 : decode cX12_best 45 = .ok (.ishl, 1) := by decide +kernel
theorem dX12_best_46 : decode cX12_best 46 = .ok (.iload_n 1, 1) := by decide +kernel
theorem dX12_best_47 : decode cX12_best 47 = .ok (.invokevirtual 408, 3) := by decide +kernel
theorem dX12_best_50 : decode cX12_best 50 = .ok (.invokestatic 335, 3) := by decide +kernel
theorem dX12_best_53 : decode cX12_best 53 = .ok (.istore 5, 2) := by decide +kernel
theorem dX12_best_55 : decode cX12_best 55 = .ok (.iload 5, 2) := by decide +kernel
theorem dX12_best_57 : decode cX12_best 57 = .ok (.iload_n 3, 1) := by decide +kernel
theorem dX12_best_58 : decode cX12_best 58 = .ok (.if_icmp .gt 6, 3) := by decide +kernel
theorem dX12_best_61 : decode cX12_best 61 = .ok (.goto 9, 3) := by decide +kernel
theorem dX12_best_64 : decode cX12_best 64 = .ok (.iload 4, 2) := by decide +kernel
theorem dX12_best_66 : decode cX12_best 66 = .ok (.istore_n 2, 1) := by decide +kernel
theorem dX12_best_67 : decode cX12_best 67 = .ok (.iload 5, 2) := by decide +kernel
theorem dX12_best_69 : decode cX12_best 69 = .ok (.istore_n 3, 1) := by decide +kernel
theorem dX12_best_70 : decode cX12_best 70 = .ok (.iinc 4 1, 3) := by decide +kernel
theorem dX12_best_73 : decode cX12_best 73 = .ok (.goto (-43), 3) := by decide +kernel
theorem dX12_best_76 : decode cX12_best 76 = .ok (.iload_n 2, 1) := by decide +kernel
theorem dX12_best_77 : decode cX12_best 77 = .ok (.ireturn, 1) := by decide +kernel
set_option maxRecDepth 20000 in
theorem ggX12_toBegin_X12_isIn : GoodIn wsX12_toBegin wsX12_isIn := goodIn_r _ [7] (by decide +kernel) (by decide +kernel)
set_option maxRecDepth 20000 in
theorem gX12_toBegin_X12_isIn : GoodIn wsX12_toBegin (va_wsS RX12 145 yX12_isIn wsX12_isIn) := goodIn_app (goodIn_of _ (by decide +kernel)) ggX12_toBegin_X12_isIn
set_option maxRecDepth 20000 in
theorem ggX12_toBegin_X12_fail : GoodIn wsX12_toBegin wsX12_fail := goodIn_r _ [11, 1, 108, 109, 110, 111, 112, 113, 114, 115, 116, 117, 118, 119, 120, 121, 122, 123, 124, 125, 126, 127, 128, 129, 130, 131, 132, 133, 134, 135, 136, 137, 138, 139, 140, 141, 142, 143, 144, 145, 146, 147, 148, 149, 150, 151, 152, 153, 154, 155, 156, 157, 158, 159, 160, 161, 162, 163, 164] (by decide +kernel) (by decide +kernel)
set_option maxRecDepth 20000 in
theorem gX12_toBegin_X12_fail : GoodIn wsX12_toBegin (wsV RX12 274 RX12 yX12_fail wsX12_fail) := goodIn_app (goodIn_of _ (by decide +kernel)) ggX12_toBegin_X12_fail
set_option maxRecDepth 20000 in
theorem ggX12_toBegin_X12_all : GoodIn wsX12_toBegin wsX12_all := goodIn_r _ [15, 16, 108, 109, 110, 111, 112, 113, 114, 115, 116, 117, 118, 119, 120, 121, 122, 123, 124, 125, 126, 127, 128, 129, 130, 131, 132, 133, 134, 135, 136, 137, 138, 139, 140, 141, 142, 143, 144, 145, 146, 147, 148, 149, 150, 151, 152, 153, 154, 155, 156, 157, 158, 159, 160, 161, 162, 163, 164] (by decide +kernel) (by decide +kernel)
set_option maxRecDepth 20000 in
theorem gX12_toBegin_X12_all : GoodIn wsX12_toBegin (wsV RX12 354 RX12 yX12_all wsX12_all) := goodIn_app (goodIn_of _ (by decide +kernel)) ggX12_toBegin_X12_all
set_option maxRecDepth 20000 in
theorem ggX12_toBegin_X12_bitsOf : GoodIn wsX12_toBegin wsX12_bitsOf := goodIn_r _ [19] (by decide +kernel) (by decide +kernel)
set_option maxRecDepth 20000 in
theorem gX12_toBegin_X12_bitsOf : GoodIn wsX12_toBegin (va_wsS RX12 335 yX12_bitsOf wsX12_bitsOf) := goodIn_app (goodIn_of _ (by decide +kernel)) ggX12_toBegin_X12_bitsOf
set_option maxRecDepth 20000 in
theorem ggX12_toBegin_X12_reachedBy : GoodIn wsX12_toBegin wsX12_reachedBy := goodIn_r _ [23, 24, 16, 25, 3, 26, 27, 28, 29, 30, 6, 31, 32, 33, 34, 35, 36, 37, 38, 39, 40, 41, 42, 43, 44, 45, 46, 47, 48, 49, 50, 51, 52, 53, 54, 55, 56, 57, 58, 59, 60, 61, 62, 63, 64, 65, 66, 67, 68, 69, 70, 71, 72, 73, 74, 75, 76, 77, 78, 79, 80, 81, 82, 83, 84, 85, 86, 87, 88, 89, 90, 91, 92, 93, 94, 17, 18, 19, 95, 96, 97, 98, 99, 100, 101, 102, 103, 104, 105, 106, 107, 108, 109, 110, 111, 112, 113, 114, 115, 116, 117, 118, 119, 120, 121, 122, 123, 124, 125, 126, 127, 128, 129, 130, 131, 132, 133, 134, 135, 136, 137, 138, 139, 140, 141, 142, 143, 144, 145, 146, 147, 148, 149, 150, 151, 152, 153, 154, 155, 156, 157, 158, 159, 160, 161, 162, 163, 164] (by decide +kernel) (by decide +kernel)
set_option maxRecDepth 20000 in
theorem gX12_toBegin_X12_reachedBy : GoodIn wsX12_toBegin (wsV RX12 408 RX12 yX12_reachedBy wsX12_reachedBy) := goodIn_app (goodIn_of _ (by decide +kernel)) ggX12_toBegin_X12_reachedBy
