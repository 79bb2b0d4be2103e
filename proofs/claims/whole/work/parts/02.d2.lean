theorem dX11_ticks_42 : decode cX11_ticks 42 = .ok (.getfield 36, 3) := by decide +kernel
theorem dX11_ticks_45 : decode cX11_ticks 45 = .ok (.getfield 109, 3) := by decide +kernel
theorem dX11_ticks_48 : decode cX11_ticks 48 = .ok (.invokevirtual 234, 3) := by decide +kernel
theorem dX11_ticks_51 : decode cX11_ticks 51 = .ok (.aload_n 0, 1) := by decide +kernel
theorem dX11_ticks_52 : decode cX11_ticks 52 = .ok (.getfield 71, 3) := by decide +kernel
theorem dX11_ticks_55 : decode cX11_ticks 55 = .ok (.aload_n 0, 1) := by decide +kernel
theorem dX11_ticks_56 : decode cX11_ticks 56 = .ok (.getfield 36, 3) := by decide +kernel
theorem dX11_ticks_59 : decode cX11_ticks 59 = .ok (.getfield 109, 3) := by decide +kernel
theorem dX11_ticks_62 : decode cX11_ticks 62 = .ok (.invokevirtual 238, 3) := by decide +kernel
theorem dX11_ticks_65 : decode cX11_ticks 65 = .ok (.iconst 0, 1) := by decide +kernel
theorem dX11_ticks_66 : decode cX11_ticks 66 = .ok (.istore_n 2, 1) := by decide +kernel
theorem dX11_ticks_67 : decode cX11_ticks 67 = .ok (.iload_n 2, 1) := by decide +kernel
theorem dX11_ticks_68 : decode cX11_ticks 68 = .ok (.iload_n 1, 1) := by decide +kernel
theorem dX11_ticks_69 : decode cX11_ticks 69 = .ok (.if_icmp .ge 17, 3) := by decide +kernel
theorem dX11_ticks_72 : decode cX11_ticks 72 = .ok (.aload_n 0, 1) := by decide +kernel
theorem dX11_ticks_73 : decode cX11_ticks 73 = .ok (.getfield 71, 3) := by decide +kernel
theorem dX11_ticks_76 : decode cX11_ticks 76 = .ok (.invokevirtual 241, 3) := by decide +kernel
theorem dX11_ticks_79 : decode cX11_ticks 79 = .ok (.pop, 1) := by decide +kernel
theorem dX11_ticks_80 : decode cX11_ticks 80 = .ok (.iinc 2 1, 3) := by decide +kernel
theorem dX11_ticks_83 : decode cX11_ticks 83 = .ok (.goto (-16), 3) := by decide +kernel
theorem dX11_ticks_86 : decode cX11_ticks 86 = .ok (.aload_n 0, 1) := by decide +kernel
theorem dX11_ticks_87 : decode cX11_ticks 87 = .ok (.getfield 36, 3) := by decide +kernel
theorem dX11_ticks_90 : decode cX11_ticks 90 = .ok (.getfield 109, 3) := by decide +kernel
theorem dX11_ticks_93 : decode cX11_ticks 93 = .ok (.aload_n 0, 1) := by decide +kernel
theorem dX11_ticks_94 : decode cX11_ticks 94 = .ok (.getfield 71, 3) := by decide +kernel
theorem dX11_ticks_97 : decode cX11_ticks 97 = .ok (.getfield 244, 3) := by decide +kernel
theorem dX11_ticks_100 : decode cX11_ticks 100 = .ok (.invokevirtual 245, 3) := by decide +kernel
theorem dX11_ticks_103 : decode cX11_ticks 103 = .ok (.aload_n 0, 1) := by decide +kernel
theorem dX11_ticks_104 : decode cX11_ticks 104 = .ok (.getfield 36, 3) := by decide +kernel
theorem dX11_ticks_107 : decode cX11_ticks 107 = .ok (.getfield 109, 3) := by decide +kernel
theorem dX11_ticks_110 : decode cX11_ticks 110 = .ok (.getfield 147, 3) := by decide +kernel
theorem dX11_ticks_113 : decode cX11_ticks 113 = .ok (.ireturn, 1) := by decide +kernel
set_option maxRecDepth 20000 in
theorem ggX11_begin_X11_needFarm : GoodIn wsX11_begin wsX11_needFarm := goodIn_ca (goodIn_r _ [8, 9, 10, 11, 12, 50, 51, 52, 53, 54, 55, 56, 57, 58, 59, 60, 61, 62, 67, 68, 69, 70, 71, 72, 73, 74, 75, 76, 77] (by decide +kernel) (by decide +kernel)) (goodIn_sub (fun _ h => List.mem_cons_of_mem _ (List.mem_append_right _ h)) (by decide +kernel))
set_option maxRecDepth 20000 in
theorem gX11_begin_X11_needFarm : GoodIn wsX11_begin (wsV RX11 187 RX11 yX11_needFarm wsX11_needFarm) := goodIn_app (goodIn_of _ (by decide +kernel)) ggX11_begin_X11_needFarm
set_option maxRecDepth 20000 in
theorem ggX11_begin_X7_sleeps : GoodIn wsX11_begin wsX7_sleeps := goodIn_r _ [17, 18, 78, 79, 80, 81, 82, 83] (by decide +kernel) (by decide +kernel)
set_option maxRecDepth 20000 in
theorem gX11_begin_X7_sleeps : GoodIn wsX11_begin (wsV RX11 247 RX7 yX7_sleeps wsX7_sleeps) := goodIn_app (goodIn_of _ (by decide +kernel)) ggX11_begin_X7_sleeps
set_option maxRecDepth 20000 in
theorem ggX11_begin_X11_refuseAct : GoodIn wsX11_begin wsX11_refuseAct := goodIn_r _ [22, 1, 23, 50, 51, 52, 53, 54, 55, 56, 57, 58, 59, 60, 61, 62, 63, 64, 65, 66] (by decide +kernel) (by decide +kernel)
set_option maxRecDepth 20000 in
theorem gX11_begin_X11_refuseAct : GoodIn wsX11_begin (wsV RX11 231 RX11 yX11_refuseAct wsX11_refuseAct) := goodIn_app (goodIn_of _ (by decide +kernel)) ggX11_begin_X11_refuseAct
set_option maxRecDepth 20000 in
theorem ggX11_begin_X0_keep : GoodIn wsX11_begin wsX0_keep := goodIn_r _ [28, 29, 30, 31, 32, 33, 34, 35, 36, 37, 38, 16, 39, 40, 18, 41, 42, 43, 44, 84, 85, 86, 78, 79, 80, 81, 82, 83] (by decide +kernel) (by decide +kernel)
set_option maxRecDepth 20000 in
theorem gX11_begin_X0_keep : GoodIn wsX11_begin (wsV RX11 234 RX0 yX0_keep wsX0_keep) := goodIn_app (goodIn_of _ (by decide +kernel)) ggX11_begin_X0_keep
set_option maxRecDepth 20000 in
theorem ggX11_begin_X7_startNod : GoodIn wsX11_begin wsX7_startNod := goodIn_r _ [48, 41, 49, 14, 15, 16, 17, 18, 78, 79, 80, 81, 82, 83] (by decide +kernel) (by decide +kernel)
set_option maxRecDepth 20000 in
theorem gX11_begin_X7_startNod : GoodIn wsX11_begin (wsV RX11 250 RX7 yX7_startNod wsX7_startNod) := goodIn_app (goodIn_of _ (by decide +kernel)) ggX11_begin_X7_startNod
theorem dX11_begin_0 : decode cX11_begin 0 = .ok (.aload_n 0, 1) := by decide +kernel
theorem dX11_begin_1 : decode cX11_begin 1 = .ok (.iload_n 1, 1) := by decide +kernel
theorem dX11_begin_2 : decode cX11_begin 2 = .ok (.invokevirtual 187, 3) := by decide +kernel
theorem dX11_begin_5 : decode cX11_begin 5 = .ok (.aload_n 0, 1) := by decide +kernel
theorem dX11_begin_6 : decode cX11_begin 6 = .ok (.getfield 36, 3) := by decide +kernel
theorem dX11_begin_9 : decode cX11_begin 9 = .ok (.getfield 109, 3) := by decide +kernel
theorem dX11_begin_12 : decode cX11_begin 12 = .ok (.iload_n 1, 1) := by decide +kernel
theorem dX11_begin_13 : decode cX11_begin 13 = .ok (.invokevirtual 247, 3) := by decide +kernel
theorem dX11_begin_16 : decode cX11_begin 16 = .ok (.ifCond .eq 10, 3) := by decide +kernel
theorem dX11_begin_19 : decode cX11_begin 19 = .ok (.aload_n 0, 1) := by decide +kernel
theorem dX11_begin_20 : decode cX11_begin 20 = .ok (.invokevirtual 231, 3) := by decide +kernel
theorem dX11_begin_23 : decode cX11_begin 23 = .ok (.pop, 1) := by decide +kernel
theorem dX11_begin_24 : decode cX11_begin 24 = .ok (.iconst 0, 1) := by decide +kernel
theorem dX11_begin_25 : decode cX11_begin 25 = .ok (.ireturn, 1) := by decide +kernel
theorem dX11_begin_26 : decode cX11_begin 26 = .ok (.aload_n 0, 1) := by decide +kernel
theorem dX11_begin_27 : decode cX11_begin 27 = .ok (.getfield 36, 3) := by decide +kernel
theorem dX11_begin_30 : decode cX11_begin 30 = .ok (.getfield 118, 3) := by decide +kernel
theorem dX11_begin_33 : decode cX11_begin 33 = .ok (.aload_n 0, 1) := by decide +kernel
theorem dX11_begin_34 : decode cX11_begin 34 = .ok (.getfield 36, 3) := by decide +kernel
theorem dX11_begin_37 : decode cX11_begin 37 = .ok (.getfield 109, 3) := by decide +kernel
theorem dX11_begin_40 : decode cX11_begin 40 = .ok (.invokevirtual 234, 3) := by decide +kernel
theorem dX11_begin_43 : decode cX11_begin 43 = .ok (.aload_n 0, 1) := by decide +kernel
theorem dX11_begin_44 : decode cX11_begin 44 = .ok (.getfield 36, 3) := by decide +kernel
theorem dX11_begin_47 : decode cX11_begin 47 = .ok (.getfield 109, 3) := by decide +kernel
theorem dX11_begin_50 : decode cX11_begin 50 = .ok (.iload_n 1, 1) := by decide +kernel
theorem dX11_begin_51 : decode cX11_begin 51 = .ok (.invokevirtual 250, 3) := by decide +kernel
theorem dX11_begin_54 : decode cX11_begin 54 = .ok (.iconst 1, 1) := by decide +kernel
theorem dX11_begin_55 : decode cX11_begin 55 = .ok (.ireturn, 1) := by decide +kernel
set_option maxRecDepth 20000 in
theorem ggX11_sleep_X11_needFarm : GoodIn wsX11_sleep wsX11_needFarm := goodIn_ca (goodIn_r _ [8, 9, 10, 11, 12, 49, 50, 51, 52, 53, 54, 55, 56, 57, 58, 59, 60, 61, 66, 67, 68, 69, 70, 71, 72, 73, 74, 75, 76] (by decide +kernel) (by decide +kernel)) (goodIn_sub (fun _ h => List.mem_cons_of_mem _ (List.mem_append_right _ h)) (by decide +kernel))
set_option maxRecDepth 20000 in
theorem gX11_sleep_X11_needFarm : GoodIn wsX11_sleep (wsV RX11 187 RX11 yX11_needFarm wsX11_needFarm) := goodIn_app (goodIn_of _ (by decide +kernel)) ggX11_sleep_X11_needFarm
set_option maxRecDepth 20000 in
theorem ggX11_sleep_X7_sleeps : GoodIn wsX11_sleep wsX7_sleeps := goodIn_r _ [17, 18, 77, 78, 79, 80, 81, 82] (by decide +kernel) (by decide +kernel)
set_option maxRecDepth 20000 in
theorem gX11_sleep_X7_sleeps : GoodIn wsX11_sleep (wsV RX11 247 RX7 yX7_sleeps wsX7_sleeps) := goodIn_app (goodIn_of _ (by decide +kernel)) ggX11_sleep_X7_sleeps
set_option maxRecDepth 20000 in
theorem ggX11_sleep_X11_refuseAct : GoodIn wsX11_sleep wsX11_refuseAct := goodIn_r _ [22, 1, 23, 49, 50, 51, 52, 53, 54, 55, 56, 57, 58, 59, 60, 61, 62, 63, 64, 65] (by decide +kernel) (by decide +kernel)
set_option maxRecDepth 20000 in
theorem gX11_sleep_X11_refuseAct : GoodIn wsX11_sleep (wsV RX11 231 RX11 yX11_refuseAct wsX11_refuseAct) := goodIn_app (goodIn_of _ (by decide +kernel)) ggX11_sleep_X11_refuseAct
set_option maxRecDepth 20000 in
theorem ggX11_sleep_X0_keep : GoodIn wsX11_sleep wsX0_keep := goodIn_r _ [28, 29, 30, 31, 32, 33, 34, 35, 36, 37, 38, 16, 39, 40, 18, 41, 42, 43, 44, 83, 84, 85, 77, 78, 79, 80, 81, 82] (by decide +kernel) (by decide +kernel)
set_option maxRecDepth 20000 in
theorem gX11_sleep_X0_keep : GoodIn wsX11_sleep (wsV RX11 234 RX0 yX0_keep wsX0_keep) := goodIn_app (goodIn_of _ (by decide +kernel)) ggX11_sleep_X0_keep
set_option maxRecDepth 20000 in
theorem ggX11_sleep_X7_turnSleep : GoodIn wsX11_sleep wsX7_turnSleep := goodIn_r _ [48, 18, 41, 77, 78, 79, 80, 81, 82] (by decide +kernel) (by decide +kernel)
set_option maxRecDepth 20000 in
theorem gX11_sleep_X7_turnSleep : GoodIn wsX11_sleep (wsV RX11 253 RX7 yX7_turnSleep wsX7_turnSleep) := goodIn_app (goodIn_of _ (by decide +kernel)) ggX11_sleep_X7_turnSleep
theorem dX11_sleep_0 : decode cX11_sleep 0 = .ok (.aload_n 0, 1) := by decide +kernel
theorem dX11_sleep_1 : decode cX11_sleep 1 = .ok (.iload_n 1, 1) := by decide +kernel
theorem dX11_sleep_2 : decode cX11_sleep 2 = .ok (.invokevirtual 187, 3) := by decide +kernel
theorem dX11_sleep_5 : decode cX11_sleep 5 = .ok (.aload_n 0, 1) := by decide +kernel
theorem dX11_sleep_6 : decode cX11_sleep 6 = .ok (.getfield 36, 3) := by decide +kernel
theorem dX11_sleep_9 : decode cX11_sleep 9 = .ok (.getfield 109, 3) := by decide +kernel
theorem dX11_sleep_12 : decode cX11_sleep 12 = .ok (.iload_n 1, 1) := by decide +kernel
theorem dX11_sleep_13 : decode cX11_sleep 13 = .ok (.invokevirtual 247, 3) := by decide +kernel
theorem dX11_sleep_16 : decode cX11_sleep 16 = .ok (.iload_n 2, 1) := by decide +kernel
theorem dX11_sleep_17 : decode cX11_sleep 17 = .ok (.if_icmp .ne 10, 3) := by decide +kernel
theorem dX11_sleep_20 : decode cX11_sleep 20 = .ok (.aload_n 0, 1) := by decide +kernel
theorem dX11_sleep_21 : decode cX11_sleep 21 = .ok (.invokevirtual 231, 3) := by decide +kernel
theorem dX11_sleep_24 : decode cX11_sleep 24 = .ok (.pop, 1) := by decide +kernel
theorem dX11_sleep_25 : decode cX11_sleep 25 = .ok (.iconst 0, 1) := by decide +kernel
theorem dX11_sleep_26 : decode cX11_sleep 26 = .ok (.ireturn, 1) := by decide +kernel
theorem dX11_sleep_27 : decode cX11_sleep 27 = .ok (.aload_n 0, 1) := by decide +kernel
theorem dX11_sleep_28 : decode cX11_sleep 28 = .ok (.getfield 36, 3) := by decide +kernel
theorem dX11_sleep_31 : decode cX11_sleep 31 = .ok (.getfield 118, 3) := by decide +kernel
theorem dX11_sleep_34 : decode cX11_sleep 34 = .ok (.aload_n 0, 1) := by decide +kernel
theorem dX11_sleep_35 : decode cX11_sleep 35 = .ok (.getfield 36, 3) := by decide +kernel
theorem dX11_sleep_38 : decode cX11_sleep 38 = .ok (.getfield 109, 3) := by decide +kernel
theorem dX11_sleep_41 : decode cX11_sleep 41 = .ok (.invokevirtual 234, 3) := by decide +kernel
theorem dX11_sleep_44 : decode cX11_sleep 44 = .ok (.aload_n 0, 1) := by decide +kernel
theorem dX11_sleep_45 : decode cX11_sleep 45 = .ok (.getfield 36, 3) := by decide +kernel
theorem dX11_sleep_48 : decode cX11_sleep 48 = .ok (.getfield 109, 3) := by decide +kernel
theorem dX11_sleep_51 : decode cX11_sleep 51 = .ok (.iload_n 1, 1) := by decide +kernel
theorem dX11_sleep_52 : decode cX11_sleep 52 = .ok (.invokevirtual 253, 3) := by decide +kernel
theorem dX11_sleep_55 : decode cX11_sleep 55 = .ok (.iconst 1, 1) := by decide +kernel
theorem dX11_sleep_56 : decode cX11_sleep 56 = .ok (.ireturn, 1) := by decide +kernel
set_option maxRecDepth 20000 in
theorem ggX11_hat_X11_needFarm : GoodIn wsX11_hat wsX11_needFarm := goodIn_ca (goodIn_r _ [10, 11, 12, 13, 14, 80, 81, 82, 83, 84, 85, 86, 87, 88, 89, 90, 91, 92, 103, 104, 105, 106, 107, 108, 109, 110, 111, 112, 113] (by decide +kernel) (by decide +kernel)) (goodIn_sub (fun _ h => List.mem_cons_of_mem _ (List.mem_append_right _ h)) (by decide +kernel))
set_option maxRecDepth 20000 in
theorem gX11_hat_X11_needFarm : GoodIn wsX11_hat (wsV RX11 187 RX11 yX11_needFarm wsX11_needFarm) := goodIn_app (goodIn_of _ (by decide +kernel)) ggX11_hat_X11_needFarm
set_option maxRecDepth 20000 in
theorem ggX11_hat_X11_refuseAct : GoodIn wsX11_hat wsX11_refuseAct := goodIn_r _ [18, 1, 19, 80, 81, 82, 83, 84, 85, 86, 87, 88, 89, 90, 91, 92, 93, 94, 95, 96] (by decide +kernel) (by decide +kernel)
set_option maxRecDepth 20000 in
theorem gX11_hat_X11_refuseAct : GoodIn wsX11_hat (wsV RX11 231 RX11 yX11_refuseAct wsX11_refuseAct) := goodIn_app (goodIn_of _ (by decide +kernel)) ggX11_hat_X11_refuseAct
set_option maxRecDepth 20000 in
theorem ggX11_hat_X0_keep : GoodIn wsX11_hat wsX0_keep := goodIn_r _ [24, 25, 26, 27, 28, 29, 30, 31, 32, 33, 34, 35, 36, 37, 38, 39, 40, 41, 42, 114, 115, 116, 97, 98, 99, 100, 101, 102] (by decide +kernel) (by decide +kernel)
set_option maxRecDepth 20000 in
theorem gX11_hat_X0_keep : GoodIn wsX11_hat (wsV RX11 234 RX0 yX0_keep wsX0_keep) := goodIn_app (goodIn_of _ (by decide +kernel)) ggX11_hat_X0_keep
set_option maxRecDepth 20000 in
theorem ggX11_hat_X6_build : GoodIn wsX11_hat wsX6_build := goodIn_r _ [47, 48, 49, 50, 51, 52, 53, 46, 54, 55, 56, 57, 58, 59, 60, 61, 62, 63, 64, 65, 66, 67, 68, 69, 70, 71, 72, 73, 74, 75, 76, 77, 78, 30, 79, 117, 118, 119, 103, 104, 105, 106, 107, 108, 109, 110, 111, 112, 113] (by decide +kernel) (by decide +kernel)
set_option maxRecDepth 20000 in
theorem gX11_hat_X6_build : GoodIn wsX11_hat (wsV RX11 137 RX6 yX6_build wsX6_build) := goodIn_app (goodIn_of _ (by decide +kernel)) ggX11_hat_X6_build
theorem dX11_hat_0 : decode cX11_hat 0 = .ok (.aload_n 0, 1) := by decide +kernel
theorem dX11_hat_1 : decode cX11_hat 1 = .ok (.iload_n 1, 1) := by decide +kernel
theorem dX11_hat_2 : decode cX11_hat 2 = .ok (.invokevirtual 187, 3) := by decide +kernel
theorem dX11_hat_5 : decode cX11_hat 5 = .ok (.iload_n 2, 1) := by decide +kernel
theorem dX11_hat_6 : decode cX11_hat 6 = .ok (.ifCond .lt 9, 3) := by decide +kernel
theorem dX11_hat_9 : decode cX11_hat 9 = .ok (.iload_n 2, 1) := by decide +kernel
theorem dX11_hat_10 : decode cX11_hat 10 = .ok (.bipush 20, 2) := by decide +kernel
theorem dX11_hat_12 : decode cX11_hat 12 = .ok (.if_icmp .le 8, 3) := by decide +kernel
theorem dX11_hat_15 : decode cX11_hat 15 = .ok (.aload_n 0, 1) := by decide +kernel
theorem dX11_hat_16 : decode cX11_hat 16 = .ok (.invokevirtual 231, 3) := by decide +kernel
theorem dX11_hat_19 : decode cX11_hat 19 = .ok (.ireturn, 1) := by decide +kernel
theorem dX11_hat_20 : decode cX11_hat 20 = .ok (.aload_n 0, 1) := by decide +kernel
theorem dX11_hat_21 : decode cX11_hat 21 = .ok (.getfield 36, 3) := by decide +kernel
theorem dX11_hat_24 : decode cX11_hat 24 = .ok (.getfield 118, 3) := by decide +kernel
theorem dX11_hat_27 : decode cX11_hat 27 = .ok (.aload_n 0, 1) := by decide +kernel
theorem dX11_hat_28 : decode cX11_hat 28 = .ok (.getfield 36, 3) := by decide +kernel
theorem dX11_hat_31 : decode cX11_hat 31 = .ok (.getfield 109, 3) := by decide +kernel
theorem dX11_hat_34 : decode cX11_hat 34 = .ok (.invokevirtual 234, 3) := by decide +kernel
theorem dX11_hat_37 : decode cX11_hat 37 = .ok (.aload_n 0, 1) := by decide +kernel
theorem dX11_hat_38 : decode cX11_hat 38 = .ok (.getfield 36, 3) := by decide +kernel
theorem dX11_hat_41 : decode cX11_hat 41 = .ok (.getfield 109, 3) := by decide +kernel
theorem dX11_hat_44 : decode cX11_hat 44 = .ok (.getfield 134, 3) := by decide +kernel
theorem dX11_hat_47 : decode cX11_hat 47 = .ok (.iload_n 1, 1) := by decide +kernel
theorem dX11_hat_48 : decode cX11_hat 48 = .ok (.iaload, 1) := by decide +kernel
theorem dX11_hat_49 : decode cX11_hat 49 = .ok (.istore_n 3, 1) := by decide +kernel
theorem dX11_hat_50 : decode cX11_hat 50 = .ok (.aload_n 0, 1) := by decide +kernel
theorem dX11_hat_51 : decode cX11_hat 51 = .ok (.getfield 36, 3) := by decide +kernel
theorem dX11_hat_54 : decode cX11_hat 54 = .ok (.getfield 109, 3) := by decide +kernel
theorem dX11_hat_57 : decode cX11_hat 57 = .ok (.getfield 134, 3) := by decide +kernel
theorem dX11_hat_60 : decode cX11_hat 60 = .ok (.iload_n 1, 1) := by decide +kernel
theorem dX11_hat_61 : decode cX11_hat 61 = .ok (.iload_n 2, 1) := by decide +kernel
theorem dX11_hat_62 : decode cX11_hat 62 = .ok (.iastore, 1) := by decide +kernel
theorem dX11_hat_63 : decode cX11_hat 63 = .ok (.aload_n 0, 1) := by decide +kernel
theorem dX11_hat_64 : decode cX11_hat 64 = .ok (.getfield 52, 3) := by decide +kernel
theorem dX11_hat_67 : decode cX11_hat 67 = .ok (.aload_n 0, 1) := by decide +kernel
theorem dX11_hat_68 : decode cX11_hat 68 = .ok (.getfield 36, 3) := by decide +kernel
theorem dX11_hat_71 : decode cX11_hat 71 = .ok (.getfield 109, 3) := by decide +kernel
theorem dX11_hat_74 : decode cX11_hat 74 = .ok (.getfield 134, 3) := by decide +kernel
theorem dX11_hat_77 : decode cX11_hat 77 = .ok (.invokevirtual 137, 3) := by decide +kernel
theorem dX11_hat_80 : decode cX11_hat 80 = .ok (.iload_n 3, 1) := by decide +kernel
theorem dX11_hat_81 : decode cX11_hat 81 = .ok (.ireturn, 1) := by decide +kernel
set_option maxRecDepth 20000 in
theorem ggX11_hush_X7_whoWaits : GoodIn wsX11_hush wsX7_whoWaits := goodIn_r _ [8, 9, 58, 59, 60, 61, 62, 63] (by decide +kernel) (by decide +kernel)
set_option maxRecDepth 20000 in
theorem gX11_hush_X7_whoWaits : GoodIn wsX11_hush (wsV RX11 162 RX7 yX7_whoWaits wsX7_whoWaits) := goodIn_app (goodIn_of _ (by decide +kernel)) ggX11_hush_X7_whoWaits
set_option maxRecDepth 20000 in
theorem ggX11_hush_X11_refuseAct : GoodIn wsX11_hush wsX11_refuseAct := goodIn_r _ [14, 1, 15, 41, 42, 43, 44, 45, 46, 47, 48, 49, 50, 51, 52, 53, 54, 55, 56, 57] (by decide +kernel) (by decide +kernel)
set_option maxRecDepth 20000 in
theorem gX11_hush_X11_refuseAct : GoodIn wsX11_hush (wsV RX11 231 RX11 yX11_refuseAct wsX11_refuseAct) := goodIn_app (goodIn_of _ (by decide +kernel)) ggX11_hush_X11_refuseAct
set_option maxRecDepth 20000 in
theorem ggX11_hush_X0_keep : GoodIn wsX11_hush wsX0_keep := goodIn_r _ [20, 21, 22, 23, 24, 25, 26, 27, 28, 29, 30, 7, 31, 32, 33, 9, 34, 35, 36, 64, 65, 66, 58, 59, 60, 61, 62, 63] (by decide +kernel) (by decide +kernel)
set_option maxRecDepth 20000 in
theorem gX11_hush_X0_keep : GoodIn wsX11_hush (wsV RX11 234 RX0 yX0_keep wsX0_keep) := goodIn_app (goodIn_of _ (by decide +kernel)) ggX11_hush_X0_keep
set_option maxRecDepth 20000 in
theorem ggX11_hush_X7_quiet : GoodIn wsX11_hush wsX7_quiet := goodIn_r _ [40, 9, 58, 59, 60, 61, 62, 63] (by decide +kernel) (by decide +kernel)
set_option maxRecDepth 20000 in
theorem gX11_hush_X7_quiet : GoodIn wsX11_hush (wsV RX11 256 RX7 yX7_quiet wsX7_quiet) := goodIn_app (goodIn_of _ (by decide +kernel)) ggX11_hush_X7_quiet
theorem dX11_hush_0 : decode cX11_hush 0 = .ok (.aload_n 0, 1) := by decide +kernel
theorem dX11_hush_1 : decode cX11_hush 1 = .ok (.getfield 36, 3) := by decide +kernel
theorem dX11_hush_4 : decode cX11_hush 4 = .ok (.getfield 109, 3) := by decide +kernel
theorem dX11_hush_7 : decode cX11_hush 7 = .ok (.invokevirtual 162, 3) := by decide +kernel
theorem dX11_hush_10 : decode cX11_hush 10 = .ok (.istore_n 1, 1) := by decide +kernel
theorem dX11_hush_11 : decode cX11_hush 11 = .ok (.iload_n 1, 1) := by decide +kernel
theorem dX11_hush_12 : decode cX11_hush 12 = .ok (.ifCond .ne 8, 3) := by decide +kernel
theorem dX11_hush_15 : decode cX11_hush 15 = .ok (.aload_n 0, 1) := by decide +kernel
theorem dX11_hush_16 : decode cX11_hush 16 = .ok (.invokevirtual 231, 3) := by decide +kernel
theorem dX11_hush_19 : decode cX11_hush 19 = .ok (.ireturn, 1) := by decide +kernel
theorem dX11_hush_20 : decode cX11_hush 20 = .ok (.aload_n 0, 1) := by decide +kernel
theorem dX11_hush_21 : decode cX11_hush 21 = .ok (.getfield 36, 3) := by decide +kernel
theorem dX11_hush_24 : decode cX11_hush 24 = .ok (.getfield 118, 3) := by decide +kernel
theorem dX11_hush_27 : decode cX11_hush 27 = .ok (.aload_n 0, 1) := by decide +kernel
theorem dX11_hush_28 : decode cX11_hush 28 = .ok (.getfield 36, 3) := by decide +kernel
theorem dX11_hush_31 : decode cX11_hush 31 = .ok (.getfield 109, 3) := by decide +kernel
theorem dX11_hush_34 : decode cX11_hush 34 = .ok (.invokevirtual 234, 3) := by decide +kernel
theorem dX11_hush_37 : decode cX11_hush 37 = .ok (.aload_n 0, 1) := by decide +kernel
theorem dX11_hush_38 : decode cX11_hush 38 = .ok (.getfield 36, 3) := by decide +kernel
theorem dX11_hush_41 : decode cX11_hush 41 = .ok (.getfield 109, 3) := by decide +kernel
theorem dX11_hush_44 : decode cX11_hush 44 = .ok (.invokevirtual 256, 3) := by decide +kernel
theorem dX11_hush_47 : decode cX11_hush 47 = .ok (.iload_n 1, 1) := by decide +kernel
theorem dX11_hush_48 : decode cX11_hush 48 = .ok (.ireturn, 1) := by decide +kernel
set_option maxRecDepth 20000 in
theorem ggX11_undo_X0_takeBack : GoodIn wsX11_undo wsX0_takeBack := goodIn_r _ [11, 12, 13, 14, 15, 16, 17, 18, 19, 20, 21, 22, 23, 24, 25, 87, 88, 89, 81, 82, 83, 84, 85, 86] (by decide +kernel) (by decide +kernel)
set_option maxRecDepth 20000 in
theorem gX11_undo_X0_takeBack : GoodIn wsX11_undo (wsV RX11 259 RX0 yX0_takeBack wsX0_takeBack) := goodIn_app (goodIn_of _ (by decide +kernel)) ggX11_undo_X0_takeBack
set_option maxRecDepth 20000 in
theorem ggX11_undo_X6_build : GoodIn wsX11_undo wsX6_build := goodIn_r _ [30, 31, 32, 33, 34, 35, 36, 29, 37, 38, 39, 40, 41, 42, 43, 44, 45, 46, 47, 48, 49, 50, 51, 52, 53, 54, 55, 56, 57, 58, 59, 60, 61, 62, 63, 90, 91, 92, 93, 94, 95, 96, 97, 98, 99, 100, 101, 102, 103] (by decide +kernel) (by decide +kernel)
set_option maxRecDepth 20000 in
theorem gX11_undo_X6_build : GoodIn wsX11_undo (wsV RX11 137 RX6 yX6_build wsX6_build) := goodIn_app (goodIn_of _ (by decide +kernel)) ggX11_undo_X6_build
theorem dX11_undo_0 : decode cX11_undo 0 = .ok (.aload_n 0, 1) := by decide +kernel
theorem dX11_undo_1 : decode cX11_undo 1 = .ok (.getfield 36, 3) := by decide +kernel
theorem dX11_undo_4 : decode cX11_undo 4 = .ok (.getfield 118, 3) := by decide +kernel
theorem dX11_undo_7 : decode cX11_undo 7 = .ok (.aload_n 0, 1) := by decide +kernel
theorem dX11_undo_8 : decode cX11_undo 8 = .ok (.getfield 36, 3) := by decide +kernel
theorem dX11_undo_11 : decode cX11_undo 11 = .ok (.getfield 109, 3) := by decide +kernel
theorem dX11_undo_14 : decode cX11_undo 14 = .ok (.invokevirtual 259, 3) := by decide +kernel
theorem dX11_undo_17 : decode cX11_undo 17 = .ok (.ifCond .ne 5, 3) := by decide +kernel
theorem dX11_undo_20 : decode cX11_undo 20 = .ok (.iconst (-1), 1) := by decide +kernel
theorem dX11_undo_21 : decode cX11_undo 21 = .ok (.ireturn, 1) := by decide +kernel
theorem dX11_undo_22 : decode cX11_undo 22 = .ok (.aload_n 0, 1) := by decide +kernel
theorem dX11_undo_23 : decode cX11_undo 23 = .ok (.getfield 52, 3) := by decide +kernel
theorem dX11_undo_26 : decode cX11_undo 26 = .ok (.aload_n 0, 1) := by decide +kernel
theorem dX11_undo_27 : decode cX11_undo 27 = .ok (.getfield 36, 3) := by decide +kernel
theorem dX11_undo_30 : decode cX11_undo 30 = .ok (.getfield 109, 3) := by decide +kernel
theorem dX11_undo_33 : decode cX11_undo 33 = .ok (.getfield 134, 3) := by decide +kernel
theorem dX11_undo_36 : decode cX11_undo 36 = .ok (.invokevirtual 137, 3) := by decide +kernel
theorem dX11_undo_39 : decode cX11_undo 39 = .ok (.aload_n 0, 1) := by decide +kernel
theorem dX11_undo_40 : decode cX11_undo 40 = .ok (.getfield 36, 3) := by decide +kernel
theorem dX11_undo_43 : decode cX11_undo 43 = .ok (.getfield 118, 3) := by decide +kernel
theorem dX11_undo_46 : decode cX11_undo 46 = .ok (.getfield 178, 3) := by decide +kernel
theorem dX11_undo_49 : decode cX11_undo 49 = .ok (.ireturn, 1) := by decide +kernel
theorem dX11_refuseAct_0 : decode cX11_refuseAct 0 = .ok (.aload_n 0, 1) := by decide +kernel
theorem dX11_refuseAct_1 : decode cX11_refuseAct 1 = .ok (.getfield 36, 3) := by decide +kernel
theorem dX11_refuseAct_4 : decode cX11_refuseAct 4 = .ok (.getfield 97, 3) := by decide +kernel
theorem dX11_refuseAct_7 : decode cX11_refuseAct 7 = .ok (.iconst 1, 1) := by decide +kernel
theorem dX11_refuseAct_8 : decode cX11_refuseAct 8 = .ok (.dup2, 1) := by decide +kernel
theorem dX11_refuseAct_9 : decode cX11_refuseAct 9 = .ok (.iaload, 1) := by decide +kernel
theorem dX11_refuseAct_10 : decode cX11_refuseAct 10 = .ok (.iconst 1, 1) := by decide +kernel
theorem dX11_refuseAct_11 : decode cX11_refuseAct 11 = .ok (.iadd, 1) := by decide +kernel
theorem dX11_refuseAct_12 : decode cX11_refuseAct 12 = .ok (.iastore, 1) := by decide +kernel
theorem dX11_refuseAct_13 : decode cX11_refuseAct 13 = .ok (.iconst (-1), 1) := by decide +kernel
theorem dX11_refuseAct_14 : decode cX11_refuseAct 14 = .ok (.ireturn, 1) := by decide +kernel
set_option maxRecDepth 20000 in
theorem ggX11_nodding_X11_needWithin : GoodIn wsX11_nodding wsX11_needWithin := goodIn_ca (goodIn_r _ [7, 8, 9] (by decide +kernel) (by decide +kernel)) (goodIn_sub (fun _ h => List.mem_cons_of_mem _ (List.mem_append_right _ h)) (by decide +kernel))
set_option maxRecDepth 20000 in
theorem gX11_nodding_X11_needWithin : GoodIn wsX11_nodding (va_wsS RX11 263 yX11_needWithin wsX11_needWithin) := goodIn_app (goodIn_of _ (by decide +kernel)) ggX11_nodding_X11_needWithin
set_option maxRecDepth 20000 in
theorem ggX11_nodding_X2_start : GoodIn wsX11_nodding wsX2_start := goodIn_r _ [14, 15, 16, 17, 18, 19, 20, 21, 22, 23, 24, 25, 26, 27, 28, 6, 29, 30, 31, 32, 33, 133, 134, 135, 136, 137, 138, 139, 140, 141, 142, 143, 144] (by decide +kernel) (by decide +kernel)
set_option maxRecDepth 20000 in
theorem gX11_nodding_X2_start : GoodIn wsX11_nodding (wsV RX11 238 RX2 yX2_start wsX2_start) := goodIn_app (goodIn_of _ (by decide +kernel)) ggX11_nodding_X2_start
set_option maxRecDepth 20000 in
theorem ggX11_nodding_X2_go : GoodIn wsX11_nodding wsX2_go := goodIn_r _ [37, 38, 39, 15, 40, 41, 42, 43, 44, 45, 46, 47, 48, 49, 50, 13, 51, 52, 53, 54, 55, 56, 57, 58, 59, 60, 61, 62, 63, 64, 65, 16, 66, 67, 68, 69, 70, 71, 72, 73, 74, 75, 76, 77, 78, 79, 80, 81, 82, 83, 84, 85, 86, 87, 88, 89, 90, 91, 92, 93, 94, 95, 96, 97, 98, 99, 100, 101, 102, 103, 104, 105, 106, 107, 108, 109, 110, 111, 112, 113, 114, 115, 133, 134, 135, 136, 137, 138, 139, 140, 141, 142, 143, 144, 145, 146, 147, 148, 149, 150, 151, 152, 153, 154, 155, 156, 157, 158, 159, 160, 161] (by decide +kernel) (by decide +kernel)
set_option maxRecDepth 20000 in
theorem gX11_nodding_X2_go : GoodIn wsX11_nodding (wsV RX11 241 RX2 yX2_go wsX2_go) := goodIn_app (goodIn_of _ (by decide +kernel)) ggX11_nodding_X2_go
theorem dX11_nodding_0 : decode cX11_nodding 0 = .ok (.iload_n 1, 1) := by decide +kernel
theorem dX11_nodding_1 : decode cX11_nodding 1 = .ok (.iconst 1, 1) := by decide +kernel
theorem dX11_nodding_2 : decode cX11_nodding 2 = .ok (.bipush 60, 2) := by decide +kernel
theorem dX11_nodding_4 : decode cX11_nodding 4 = .ok (.invokestatic 263, 3) := by decide +kernel
theorem dX11_nodding_7 : decode cX11_nodding 7 = .ok (.aload_n 0, 1) := by decide +kernel
theorem dX11_nodding_8 : decode cX11_nodding 8 = .ok (.getfield 71, 3) := by decide +kernel
theorem dX11_nodding_11 : decode cX11_nodding 11 = .ok (.aload_n 0, 1) := by decide +kernel
theorem dX11_nodding_12 : decode cX11_nodding 12 = .ok (.getfield 36, 3) := by decide +kernel
theorem dX11_nodding_15 : decode cX11_nodding 15 = .ok (.getfield 109, 3) := by decide +kernel
theorem dX11_nodding_18 : decode cX11_nodding 18 = .ok (.invokevirtual 238, 3) := by decide +kernel
theorem dX11_nodding_21 : decode cX11_nodding 21 = .ok (.iconst 0, 1) := by decide +kernel
theorem dX11_nodding_22 : decode cX11_nodding 22 = .ok (.istore_n 2, 1) := by decide +kernel
theorem dX11_nodding_23 : decode cX11_nodding 23 = .ok (.iconst 1, 1) := by decide +kernel
theorem dX11_nodding_24 : decode cX11_nodding 24 = .ok (.istore_n 3, 1) := by decide +kernel
theorem dX11_nodding_25 : decode cX11_nodding 25 = .ok (.iload_n 3, 1) := by decide +kernel
theorem dX11_nodding_26 : decode cX11_nodding 26 = .ok (.iload_n 1, 1) := by decide +kernel
theorem dX11_nodding_27 : decode cX11_nodding 27 = .ok (.if_icmp .gt 17, 3) := by decide +kernel
theorem dX11_nodding_30 : decode cX11_nodding 30 = .ok (.aload_n 0, 1) := by decide +kernel
theorem dX11_nodding_31 : decode cX11_nodding 31 = .ok (.getfield 71, 3) := by decide +kernel
theorem dX11_nodding_34 : decode cX11_nodding 34 = .ok (.invokevirtual 241, 3) := by decide +kernel
theorem dX11_nodding_37 : decode cX11_nodding 37 = .ok (.istore_n 2, 1) := by decide +kernel
theorem dX11_nodding_38 : decode cX11_nodding 38 = .ok (.iinc 3 1, 3) := by decide +kernel
theorem dX11_nodding_41 : decode cX11_nodding 41 = .ok (.goto (-16), 3) := by decide +kernel
theorem dX11_nodding_44 : decode cX11_nodding 44 = .ok (.iload_n 2, 1) := by decide +kernel
theorem dX11_nodding_45 : decode cX11_nodding 45 = .ok (.ireturn, 1) := by decide +kernel
set_option maxRecDepth 20000 in
theorem ggX11_then_X11_needFarm : GoodIn wsX11_then wsX11_needFarm := goodIn_ca (goodIn_r _ [11, 12, 13, 14, 15, 130, 131, 132, 133, 134, 135, 136, 137, 138, 139, 140, 141, 142, 159, 160, 161, 162, 163, 164, 165, 166, 167, 168, 169] (by decide +kernel) (by decide +kernel)) (goodIn_sub (fun _ h => List.mem_cons_of_mem _ (List.mem_append_left _ (List.mem_append_right _ h))) (by decide +kernel))
set_option maxRecDepth 20000 in
theorem gX11_then_X11_needFarm : GoodIn wsX11_then (wsV RX11 187 RX11 yX11_needFarm wsX11_needFarm) := goodIn_app (goodIn_of _ (by decide +kernel)) ggX11_then_X11_needFarm
set_option maxRecDepth 20000 in
theorem ggX11_then_X11_needWhat : GoodIn wsX11_then wsX11_needWhat := goodIn_ca (goodIn_r _ [18, 12, 13] (by decide +kernel) (by decide +kernel)) (goodIn_sub (fun _ h => List.mem_cons_of_mem _ (List.mem_append_left _ (List.mem_append_right _ h))) (by decide +kernel))
set_option maxRecDepth 20000 in
theorem gX11_then_X11_needWhat : GoodIn wsX11_then (va_wsS RX11 267 yX11_needWhat wsX11_needWhat) := goodIn_app (goodIn_of _ (by decide +kernel)) ggX11_then_X11_needWhat
set_option maxRecDepth 20000 in
theorem ggX11_then_X11_needWithin : GoodIn wsX11_then wsX11_needWithin := goodIn_ca (goodIn_r _ [21, 22, 23] (by decide +kernel) (by decide +kernel)) (goodIn_sub (fun _ h => List.mem_cons_of_mem _ (List.mem_append_right _ h)) (by decide +kernel))
set_option maxRecDepth 20000 in
theorem gX11_then_X11_needWithin : GoodIn wsX11_then (va_wsS RX11 263 yX11_needWithin wsX11_needWithin) := goodIn_app (goodIn_of _ (by decide +kernel)) ggX11_then_X11_needWithin
set_option maxRecDepth 20000 in
theorem ggX11_then_X2_start : GoodIn wsX11_then wsX2_start := goodIn_r _ [28, 29, 30, 31, 32, 33, 34, 35, 36, 37, 38, 39, 40, 41, 42, 10, 43, 44, 45, 46, 47, 147, 148, 149, 150, 151, 152, 153, 154, 155, 156, 157, 158] (by decide +kernel) (by decide +kernel)
set_option maxRecDepth 20000 in
theorem gX11_then_X2_start : GoodIn wsX11_then (wsV RX11 238 RX2 yX2_start wsX2_start) := goodIn_app (goodIn_of _ (by decide +kernel)) ggX11_then_X2_start
set_option maxRecDepth 20000 in
theorem ggX11_then_X2_go : GoodIn wsX11_then wsX2_go := goodIn_r _ [51, 52, 53, 29, 54, 55, 56, 57, 58, 59, 60, 61, 62, 63, 64, 27, 65, 66, 67, 68, 69, 70, 71, 72, 73, 74, 75, 76, 77, 78, 79, 30, 80, 81, 82, 83, 84, 85, 86, 87, 88, 89, 90, 91, 92, 93, 94, 95, 96, 97, 98, 99, 100, 101, 102, 103, 104, 105, 106, 107, 108, 109, 110, 111, 112, 113, 114, 115, 116, 117, 118, 119, 120, 121, 122, 123, 124, 125, 126, 127, 128, 129, 147, 148, 149, 150, 151, 152, 153, 154, 155, 156, 157, 158, 159, 160, 161, 162, 163, 164, 165, 166, 167, 168, 169, 170, 171, 172, 173, 174, 175] (by decide +kernel) (by decide +kernel)
set_option maxRecDepth 20000 in
theorem gX11_then_X2_go : GoodIn wsX11_then (wsV RX11 241 RX2 yX2_go wsX2_go) := goodIn_app (goodIn_of _ (by decide +kernel)) ggX11_then_X2_go
theorem dX11_then_0 : decode cX11_then 0 = .ok (.aload_n 0, 1) := by decide +kernel
theorem dX11_then_1 : decode cX11_then 1 = .ok (.iload_n 1, 1) := by decide +kernel
theorem dX11_then_2 : decode cX11_then 2 = .ok (.invokevirtual 187, 3) := by decide +kernel
theorem dX11_then_5 : decode cX11_then 5 = .ok (.iload_n 3, 1) := by decide +kernel
theorem dX11_then_6 : decode cX11_then 6 = .ok (.iconst 1, 1) := by decide +kernel
theorem dX11_then_7 : decode cX11_then 7 = .ok (.invokestatic 267, 3) := by decide +kernel
theorem dX11_then_10 : decode cX11_then 10 = .ok (.iload_n 2, 1) := by decide +kernel
theorem dX11_then_11 : decode cX11_then 11 = .ok (.iconst 0, 1) := by decide +kernel
theorem dX11_then_12 : decode cX11_then 12 = .ok (.bipush 60, 2) := by decide +kernel
theorem dX11_then_14 : decode cX11_then 14 = .ok (.invokestatic 263, 3) := by decide +kernel
theorem dX11_then_17 : decode cX11_then 17 = .ok (.aload_n 0, 1) := by decide +kernel
theorem dX11_then_18 : decode cX11_then 18 = .ok (.getfield 71, 3) := by decide +kernel
theorem dX11_then_21 : decode cX11_then 21 = .ok (.aload_n 0, 1) := by decide +kernel
theorem dX11_then_22 : decode cX11_then 22 = .ok (.getfield 36, 3) := by decide +kernel
theorem dX11_then_25 : decode cX11_then 25 = .ok (.getfield 109, 3) := by decide +kernel
theorem dX11_then_28 : decode cX11_then 28 = .ok (.invokevirtual 238, 3) := by decide +kernel
theorem dX11_then_31 : decode cX11_then 31 = .ok (.iconst 1, 1) := by decide +kernel
theorem dX11_then_32 : decode cX11_then 32 = .ok (.istore 4, 2) := by decide +kernel
theorem dX11_then_34 : decode cX11_then 34 = .ok (.iload 4, 2) := by decide +kernel
theorem dX11_then_36 : decode cX11_then 36 = .ok (.iload_n 2, 1) := by decide +kernel
theorem dX11_then_37 : decode cX11_then 37 = .ok (.if_icmp .gt 17, 3) := by decide +kernel
theorem dX11_then_40 : decode cX11_then 40 = .ok (.aload_n 0, 1) := by decide +kernel
theorem dX11_then_41 : decode cX11_then 41 = .ok (.getfield 71, 3) := by decide +kernel
theorem dX11_then_44 : decode cX11_then 44 = .ok (.invokevirtual 241, 3) := by decide +kernel
theorem dX11_then_47 : decode cX11_then 47 = .ok (.pop, 1) := by decide +kernel
theorem dX11_then_48 : decode cX11_then 48 = .ok (.iinc 4 1, 3) := by decide +kernel
theorem dX11_then_51 : decode cX11_then 51 = .ok (.goto (-17), 3) := by decide +kernel
theorem dX11_then_54 : decode cX11_then 54 = .ok (.iload_n 3, 1) := by decide +kernel
theorem dX11_then_55 : decode cX11_then 55 = .ok (.ifCond .ne 18, 3) := by decide +kernel
theorem dX11_then_58 : decode cX11_then 58 = .ok (.aload_n 0, 1) := by decide +kernel
theorem dX11_then_59 : decode cX11_then 59 = .ok (.getfield 71, 3) := by decide +kernel
theorem dX11_then_62 : decode cX11_then 62 = .ok (.getfield 244, 3) := by decide +kernel
theorem dX11_then_65 : decode cX11_then 65 = .ok (.getfield 199, 3) := by decide +kernel
theorem dX11_then_68 : decode cX11_then 68 = .ok (.iload_n 1, 1) := by decide +kernel
theorem dX11_then_69 : decode cX11_then 69 = .ok (.iaload, 1) := by decide +kernel
theorem dX11_then_70 : decode cX11_then 70 = .ok (.goto 15, 3) := by decide +kernel
theorem dX11_then_73 : decode cX11_then 73 = .ok (.aload_n 0, 1) := by decide +kernel
theorem dX11_then_74 : decode cX11_then 74 = .ok (.getfield 71, 3) := by decide +kernel
theorem dX11_then_77 : decode cX11_then 77 = .ok (.getfield 244, 3) := by decide +kernel
theorem dX11_then_80 : decode cX11_then 80 = .ok (.getfield 205, 3) := by decide +kernel
theorem dX11_then_83 : decode cX11_then 83 = .ok (.iload_n 1, 1) := by decide +kernel
theorem dX11_then_84 : decode cX11_then 84 = .ok (.iaload, 1) := by decide +kernel
theorem dX11_then_85 : decode cX11_then 85 = .ok (.ireturn, 1) := by decide +kernel
set_option maxRecDepth 20000 in
theorem ggX11_first_X11_needFarm : GoodIn wsX11_first wsX11_needFarm := goodIn_ca (goodIn_r _ [8, 9, 10, 11, 12, 123, 124, 125, 126, 127, 128, 129, 130, 131, 132, 133, 134, 135, 140, 141, 142, 143, 144, 145, 146, 147, 148, 149, 150] (by decide +kernel) (by decide +kernel)) (goodIn_sub (fun _ h => List.mem_cons_of_mem _ (List.mem_append_right _ h)) (by decide +kernel))
set_option maxRecDepth 20000 in
theorem gX11_first_X11_needFarm : GoodIn wsX11_first (wsV RX11 187 RX11 yX11_needFarm wsX11_needFarm) := goodIn_app (goodIn_of _ (by decide +kernel)) ggX11_first_X11_needFarm
set_option maxRecDepth 20000 in
theorem ggX11_first_X2_start : GoodIn wsX11_first wsX2_start := goodIn_r _ [17, 18, 19, 20, 21, 22, 23, 24, 25, 26, 27, 28, 29, 30, 31, 7, 32, 33, 34, 35, 36, 151, 152, 153, 154, 155, 156, 157, 158, 159, 160, 161, 162] (by decide +kernel) (by decide +kernel)
set_option maxRecDepth 20000 in
theorem gX11_first_X2_start : GoodIn wsX11_first (wsV RX11 238 RX2 yX2_start wsX2_start) := goodIn_app (goodIn_of _ (by decide +kernel)) ggX11_first_X2_start
set_option maxRecDepth 20000 in
theorem ggX11_first_X2_firstNod : GoodIn wsX11_first wsX2_firstNod := goodIn_r _ [40, 41, 42, 43, 16, 44, 45, 46, 18, 47, 48, 49, 50, 51, 52, 53, 54, 55, 56, 57, 58, 59, 60, 61, 62, 63, 64, 65, 66, 67, 68, 69, 70, 71, 72, 19, 73, 74, 75, 76, 77, 78, 79, 80, 81, 82, 83, 84, 85, 86, 87, 88, 89, 90, 91, 92, 93, 94, 95, 96, 97, 98, 99, 100, 101, 102, 103, 104, 105, 106, 107, 108, 109, 110, 111, 112, 113, 114, 115, 116, 117, 118, 119, 120, 121, 122, 151, 152, 153, 154, 155, 156, 157, 158, 159, 160, 161, 162, 140, 141, 142, 143, 144, 145, 146, 147, 148, 149, 150, 163, 164, 165, 166, 167, 168] (by decide +kernel) (by decide +kernel)
set_option maxRecDepth 20000 in
theorem gX11_first_X2_firstNod : GoodIn wsX11_first (wsV RX11 271 RX2 yX2_firstNod wsX2_firstNod) := goodIn_app (goodIn_of _ (by decide +kernel)) ggX11_first_X2_firstNod
theorem dX11_first_0 : decode cX11_first 0 = .ok (.aload_n 0, 1) := by decide +kernel
theorem dX11_first_1 : decode cX11_first 1 = .ok (.iload_n 1, 1) := by decide +kernel
theorem dX11_first_2 : decode cX11_first 2 = .ok (.invokevirtual 187, 3) := by decide +kernel
theorem dX11_first_5 : decode cX11_first 5 = .ok (.aload_n 0, 1) := by decide +kernel
theorem dX11_first_6 : decode cX11_first 6 = .ok (.getfield 71, 3) := by decide +kernel
theorem dX11_first_9 : decode cX11_first 9 = .ok (.aload_n 0, 1) := by decide +kernel
theorem dX11_first_10 : decode cX11_first 10 = .ok (.getfield 36, 3) := by decide +kernel
theorem dX11_first_13 : decode cX11_first 13 = .ok (.getfield 109, 3) := by decide +kernel
theorem dX11_first_16 : decode cX11_first 16 = .ok (.invokevirtual 238, 3) := by decide +kernel
theorem dX11_first_19 : decode cX11_first 19 = .ok (.aload_n 0, 1) := by decide +kernel
theorem dX11_first_20 : decode cX11_first 20 = .ok (.getfield 71, 3) := by decide +kernel
theorem dX11_first_23 : decode cX11_first 23 = .ok (.iload_n 1, 1) := by decide +kernel
theorem dX11_first_24 : decode cX11_first 24 = .ok (.invokevirtual 271, 3) := by decide +kernel
theorem dX11_first_27 : decode cX11_first 27 = .ok (.ireturn, 1) := by decide +kernel
set_option maxRecDepth 20000 in
theorem ggX11_still_X2_start : GoodIn wsX11_still wsX2_start := goodIn_r _ [9, 10, 11, 12, 13, 14, 15, 16, 17, 18, 19, 20, 21, 22, 23, 24, 25, 26, 27, 28, 29, 133, 134, 135, 136, 137, 138, 139, 140, 141, 142, 143, 144] (by decide +kernel) (by decide +kernel)
set_option maxRecDepth 20000 in
theorem gX11_still_X2_start : GoodIn wsX11_still (wsV RX11 238 RX2 yX2_start wsX2_start) := goodIn_app (goodIn_of _ (by decide +kernel)) ggX11_still_X2_start
set_option maxRecDepth 20000 in
theorem ggX11_still_X7_whoWaits : GoodIn wsX11_still wsX7_whoWaits := goodIn_r _ [33, 19, 139, 140, 141, 142, 143, 144] (by decide +kernel) (by decide +kernel)
set_option maxRecDepth 20000 in
theorem gX11_still_X7_whoWaits : GoodIn wsX11_still (wsV RX11 162 RX7 yX7_whoWaits wsX7_whoWaits) := goodIn_app (goodIn_of _ (by decide +kernel)) ggX11_still_X7_whoWaits
set_option maxRecDepth 20000 in
theorem ggX11_still_X2_go : GoodIn wsX11_still wsX2_go := goodIn_r _ [37, 38, 39, 10, 40, 41, 42, 43, 44, 45, 46, 47, 48, 49, 50, 8, 51, 52, 53, 54, 55, 56, 57, 58, 59, 60, 61, 62, 63, 64, 65, 11, 66, 67, 68, 69, 70, 71, 72, 73, 74, 75, 76, 77, 78, 79, 80, 81, 82, 83, 84, 85, 86, 87, 88, 89, 90, 91, 92, 93, 94, 95, 96, 97, 98, 99, 100, 101, 102, 103, 104, 105, 106, 107, 108, 109, 110, 111, 112, 113, 114, 115, 133, 134, 135, 136, 137, 138, 139, 140, 141, 142, 143, 144, 145, 146, 147, 148, 149, 150, 151, 152, 153, 154, 155, 156, 157, 158, 159, 160, 161] (by decide +kernel) (by decide +kernel)
set_option maxRecDepth 20000 in
theorem gX11_still_X2_go : GoodIn wsX11_still (wsV RX11 241 RX2 yX2_go wsX2_go) := goodIn_app (goodIn_of _ (by decide +kernel)) ggX11_still_X2_go
theorem dX11_still_0 : decode cX11_still 0 = .ok (.aload_n 0, 1) := by decide +kernel
theorem dX11_still_1 : decode cX11_still 1 = .ok (.getfield 71, 3) := by decide +kernel
theorem dX11_still_4 : decode cX11_still 4 = .ok (.aload_n 0, 1) := by decide +kernel
theorem dX11_still_5 : decode cX11_still 5 = .ok (.getfield 36, 3) := by decide +kernel
theorem dX11_still_8 : decode cX11_still 8 = .ok (.getfield 109, 3) := by decide +kernel
theorem dX11_still_11 : decode cX11_still 11 = .ok (.invokevirtual 238, 3) := by decide +kernel
theorem dX11_still_14 : decode cX11_still 14 = .ok (.iconst 0, 1) := by decide +kernel
theorem dX11_still_15 : decode cX11_still 15 = .ok (.istore_n 1, 1) := by decide +kernel
theorem dX11_still_16 : decode cX11_still 16 = .ok (.iload_n 1, 1) := by decide +kernel
theorem dX11_still_17 : decode cX11_still 17 = .ok (.bipush 60, 2) := by decide +kernel
theorem dX11_still_19 : decode cX11_still 19 = .ok (.if_icmp .gt 32, 3) := by decide +kernel
theorem dX11_still_22 : decode cX11_still 22 = .ok (.aload_n 0, 1) := by decide +kernel
theorem dX11_still_23 : decode cX11_still 23 = .ok (.getfield 71, 3) := by decide +kernel
theorem dX11_still_26 : decode cX11_still 26 = .ok (.getfield 244, 3) := by decide +kernel
theorem dX11_still_29 : decode cX11_still 29 = .ok (.invokevirtual 162, 3) := by decide +kernel
theorem dX11_still_32 : decode cX11_still 32 = .ok (.ifCond .ne 5, 3) := by decide +kernel
theorem dX11_still_35 : decode cX11_still 35 = .ok (.iload_n 1, 1) := by decide +kernel
theorem dX11_still_36 : decode cX11_still 36 = .ok (.ireturn, 1) := by decide +kernel
theorem dX11_still_37 : decode cX11_still 37 = .ok (.aload_n 0, 1) := by decide +kernel
theorem dX11_still_38 : decode cX11_still 38 = .ok (.getfield 71, 3) := by decide +kernel
theorem dX11_still_41 : decode cX11_still 41 = .ok (.invokevirtual 241, 3) := by decide +kernel
theorem dX11_still_44 : decode cX11_still 44 = .ok (.pop, 1) := by decide +kernel
theorem dX11_still_45 : decode cX11_still 45 = .ok (.iinc 1 1, 3) := by decide +kernel
theorem dX11_still_48 : decode cX11_still 48 = .ok (.goto (-32), 3) := by decide +kernel
theorem dX11_still_51 : decode cX11_still 51 = .ok (.iconst (-1), 1) := by decide +kernel
theorem dX11_still_52 : decode cX11_still 52 = .ok (.ireturn, 1) := by decide +kernel
set_option maxRecDepth 20000 in
theorem ggX11_loudest_X11_needWithin : GoodIn wsX11_loudest wsX11_needWithin := goodIn_ca (goodIn_r _ [7, 8, 9] (by decide +kernel) (by decide +kernel)) (goodIn_sub (fun _ h => List.mem_cons_of_mem _ (List.mem_append_right _ h)) (by decide +kernel))
set_option maxRecDepth 20000 in
theorem gX11_loudest_X11_needWithin : GoodIn wsX11_loudest (va_wsS RX11 263 yX11_needWithin wsX11_needWithin) := goodIn_app (goodIn_of _ (by decide +kernel)) ggX11_loudest_X11_needWithin
set_option maxRecDepth 20000 in
theorem ggX11_loudest_X2_start : GoodIn wsX11_loudest wsX2_start := goodIn_r _ [14, 15, 16, 17, 18, 19, 20, 21, 22, 23, 24, 25, 26, 27, 28, 6, 29, 30, 31, 32, 33, 134, 135, 136, 137, 138, 139, 140, 141, 142, 143, 144, 145] (by decide +kernel) (by decide +kernel)
set_option maxRecDepth 20000 in
theorem gX11_loudest_X2_start : GoodIn wsX11_loudest (wsV RX11 238 RX2 yX2_start wsX2_start) := goodIn_app (goodIn_of _ (by decide +kernel)) ggX11_loudest_X2_start
set_option maxRecDepth 20000 in
theorem ggX11_loudest_X2_go : GoodIn wsX11_loudest wsX2_go := goodIn_r _ [37, 38, 39, 15, 40, 41, 42, 43, 44, 45, 46, 47, 48, 49, 50, 13, 51, 52, 53, 54, 55, 56, 57, 58, 59, 60, 61, 62, 63, 64, 65, 16, 66, 67, 68, 69, 70, 71, 72, 73, 74, 75, 76, 77, 78, 79, 80, 81, 82, 83, 84, 85, 86, 87, 88, 89, 90, 91, 92, 93, 94, 95, 96, 97, 98, 99, 100, 101, 102, 103, 104, 105, 106, 107, 108, 109, 110, 111, 112, 113, 114, 115, 134, 135, 136, 137, 138, 139, 140, 141, 142, 143, 144, 145, 146, 147, 148, 149, 150, 151, 152, 153, 154, 155, 156, 157, 158, 159, 160, 161, 162] (by decide +kernel) (by decide +kernel)
set_option maxRecDepth 20000 in
theorem gX11_loudest_X2_go : GoodIn wsX11_loudest (wsV RX11 241 RX2 yX2_go wsX2_go) := goodIn_app (goodIn_of _ (by decide +kernel)) ggX11_loudest_X2_go
set_option maxRecDepth 20000 in
theorem ggX11_loudest_J6_bitCount_0f7a4 : GoodIn wsX11_loudest wsJ6_bitCount_0f7a4 := goodIn_r _ [101, 102, 103, 104] (by decide +kernel) (by decide +kernel)
set_option maxRecDepth 20000 in
theorem gX11_loudest_J6_bitCount_0f7a4 : GoodIn wsX11_loudest (va_wsS RX11 274 yJ6_bitCount_0f7a4 wsJ6_bitCount_0f7a4) := goodIn_app (goodIn_of _ (by decide +kernel)) ggX11_loudest_J6_bitCount_0f7a4
theorem dX11_loudest_0 : decode cX11_loudest 0 = .ok (.iload_n 1, 1) := by decide +kernel
theorem dX11_loudest_1 : decode cX11_loudest 1 = .ok (.iconst 1, 1) := by decide +kernel
theorem dX11_loudest_2 : decode cX11_loudest 2 = .ok (.bipush 60, 2) := by decide +kernel
theorem dX11_loudest_4 : decode cX11_loudest 4 = .ok (.invokestatic 263, 3) := by decide +kernel
theorem dX11_loudest_7 : decode cX11_loudest 7 = .ok (.aload_n 0, 1) := by decide +kernel
theorem dX11_loudest_8 : decode cX11_loudest 8 = .ok (.getfield 71, 3) := by decide +kernel
theorem dX11_loudest_11 : decode cX11_loudest 11 = .ok (.aload_n 0, 1) := by decide +kernel
theorem dX11_loudest_12 : decode cX11_loudest 12 = .ok (.getfield 36, 3) := by decide +kernel
theorem dX11_loudest_15 : decode cX11_loudest 15 = .ok (.getfield 109, 3) := by decide +kernel
theorem dX11_loudest_18 : decode cX11_loudest 18 = .ok (.invokevirtual 238, 3) := by decide +kernel
theorem dX11_loudest_21 : decode cX11_loudest 21 = .ok (.iconst (-1), 1) := by decide +kernel
theorem dX11_loudest_22 : decode cX11_loudest 22 = .ok (.istore_n 2, 1) := by decide +kernel
theorem dX11_loudest_23 : decode cX11_loudest 23 = .ok (.iconst (-1), 1) := by decide +kernel
theorem dX11_loudest_24 : decode cX11_loudest 24 = .ok (.istore_n 3, 1) := by decide +kernel
theorem dX11_loudest_25 : decode cX11_loudest 25 = .ok (.iconst 1, 1) := by decide +kernel
theorem dX11_loudest_26 : decode cX11_loudest 26 = .ok (.istore 4, 2) := by decide +kernel
theorem dX11_loudest_28 : decode cX11_loudest 28 = .ok (.iload 4, 2) := by decide +kernel
theorem dX11_loudest_30 : decode cX11_loudest 30 = .ok (.iload_n 1, 1) := by decide +kernel
theorem dX11_loudest_31 : decode cX11_loudest 31 = .ok (.if_icmp .gt 33, 3) := by decide +kernel
theorem dX11_loudest_34 : decode cX11_loudest 34 = .ok (.aload_n 0, 1) := by decide +kernel
theorem dX11_loudest_35 : decode cX11_loudest 35 = .ok (.getfield 71, 3) := by decide +kernel
theorem dX11_loudest_38 : decode cX11_loudest 38 = .ok (.invokevirtual 241, 3) := by decide +kernel
theorem dX11_loudest_41 : decode cX11_loudest 41 = .ok (.invokestatic 274, 3) := by decide +kernel
theorem dX11_loudest_44 : decode cX11_loudest 44 = .ok (.istore 5, 2) := by decide +kernel
theorem dX11_loudest_46 : decode cX11_loudest 46 = .ok (.iload 5, 2) := by decide +kernel
theorem dX11_loudest_48 : decode cX11_loudest 48 = .ok (.iload_n 2, 1) := by decide +kernel
theorem dX11_loudest_49 : decode cX11_loudest 49 = .ok (.if_icmp .le 9, 3) := by decide +kernel
theorem dX11_loudest_52 : decode cX11_loudest 52 = .ok (.iload 5, 2) := by decide +kernel
theorem dX11_loudest_54 : decode cX11_loudest 54 = .ok (.istore_n 2, 1) := by decide +kernel
theorem dX11_loudest_55 : decode cX11_loudest 55 = .ok (.iload 4, 2) := by decide +kernel
theorem dX11_loudest_57 : decode cX11_loudest 57 = .ok (.istore_n 3, 1) := by decide +kernel
theorem dX11_loudest_58 : decode cX11_loudest 58 = .ok (.iinc 4 1, 3) := by decide +kernel
theorem dX11_loudest_61 : decode cX11_loudest 61 = .ok (.goto (-33), 3) := by decide +kernel
theorem dX11_loudest_64 : decode cX11_loudest 64 = .ok (.iload_n 3, 1) := by decide +kernel
theorem dX11_loudest_65 : decode cX11_loudest 65 = .ok (.ireturn, 1) := by decide +kernel
set_option maxRecDepth 20000 in
theorem ggX11_oftenest_X11_needWithin : GoodIn wsX11_oftenest wsX11_needWithin := goodIn_ca (goodIn_r _ [10, 11, 12] (by decide +kernel) (by decide +kernel)) (goodIn_sub (fun _ h => List.mem_cons_of_mem _ (List.mem_append_right _ h)) (by decide +kernel))
set_option maxRecDepth 20000 in
theorem gX11_oftenest_X11_needWithin : GoodIn wsX11_oftenest (va_wsS RX11 263 yX11_needWithin wsX11_needWithin) := goodIn_app (goodIn_of _ (by decide +kernel)) ggX11_oftenest_X11_needWithin
set_option maxRecDepth 20000 in
theorem ggX11_oftenest_X2_start : GoodIn wsX11_oftenest wsX2_start := goodIn_r _ [17, 18, 19, 20, 21, 22, 23, 24, 25, 26, 27, 28, 29, 30, 31, 9, 32, 33, 34, 35, 36, 147, 148, 149, 150, 151, 152, 153, 154, 155, 156, 157, 158] (by decide +kernel) (by decide +kernel)
set_option maxRecDepth 20000 in
theorem gX11_oftenest_X2_start : GoodIn wsX11_oftenest (wsV RX11 238 RX2 yX2_start wsX2_start) := goodIn_app (goodIn_of _ (by decide +kernel)) ggX11_oftenest_X2_start
set_option maxRecDepth 20000 in
theorem ggX11_oftenest_X2_go : GoodIn wsX11_oftenest wsX2_go := goodIn_r _ [40, 41, 42, 18, 43, 44, 45, 46, 47, 48, 49, 50, 51, 52, 53, 16, 54, 55, 56, 57, 58, 59, 60, 61, 62, 63, 64, 65, 66, 67, 68, 19, 69, 70, 71, 72, 73, 74, 75, 76, 77, 78, 79, 80, 81, 82, 83, 84, 85, 86, 87, 88, 89, 90, 91, 92, 93, 94, 95, 96, 97, 98, 99, 100, 101, 102, 103, 104, 105, 106, 107, 108, 109, 110, 111, 112, 113, 114, 115, 116, 117, 118, 147, 148, 149, 150, 151, 152, 153, 154, 155, 156, 157, 158, 136, 137, 138, 139, 140, 141, 142, 143, 144, 145, 146, 159, 160, 161, 162, 163, 164] (by decide +kernel) (by decide +kernel)
set_option maxRecDepth 20000 in
theorem gX11_oftenest_X2_go : GoodIn wsX11_oftenest (wsV RX11 241 RX2 yX2_go wsX2_go) := goodIn_app (goodIn_of _ (by decide +kernel)) ggX11_oftenest_X2_go
theorem dX11_oftenest_0 : decode cX11_oftenest 0 = .ok (.iload_n 1, 1) := by decide +kernel
theorem dX11_oftenest_1 : decode cX11_oftenest 1 = .ok (.iconst 1, 1) := by decide +kernel
theorem dX11_oftenest_2 : decode cX11_oftenest 2 = .ok (.bipush 60, 2) := by decide +kernel
theorem dX11_oftenest_4 : decode cX11_oftenest 4 = .ok (.invokestatic 263, 3) := by decide +kernel
theorem dX11_oftenest_7 : decode cX11_oftenest 7 = .ok (.aload_n 0, 1) := by decide +kernel
theorem dX11_oftenest_8 : decode cX11_oftenest 8 = .ok (.getfield 71, 3) := by decide +kernel
theorem dX11_oftenest_11 : decode cX11_oftenest 11 = .ok (.aload_n 0, 1) := by decide +kernel
theorem dX11_oftenest_12 : decode cX11_oftenest 12 = .ok (.getfield 36, 3) := by decide +kernel
theorem dX11_oftenest_15 : decode cX11_oftenest 15 = .ok (.getfield 109, 3) := by decide +kernel
theorem dX11_oftenest_18 : decode cX11_oftenest 18 = .ok (.invokevirtual 238, 3) := by decide +kernel
theorem dX11_oftenest_21 : decode cX11_oftenest 21 = .ok (.iconst 1, 1) := by decide +kernel
theorem dX11_oftenest_22 : decode cX11_oftenest 22 = .ok (.istore_n 2, 1) := by decide +kernel
theorem dX11_oftenest_23 : decode cX11_oftenest 23 = .ok (.iload_n 2, 1) := by decide +kernel
theorem dX11_oftenest_24 : decode cX11_oftenest 24 = .ok (.iload_n 1, 1) := by decide +kernel
theorem dX11_oftenest_25 : decode cX11_oftenest 25 = .ok (.if_icmp .gt 17, 3) := by decide +kernel
theorem dX11_oftenest_28 : decode cX11_oftenest 28 = .ok (.aload_n 0, 1) := by decide +kernel
theorem dX11_oftenest_29 : decode cX11_oftenest 29 = .ok (.getfield 71, 3) := by decide +kernel
theorem dX11_oftenest_32 : decode cX11_oftenest 32 = .ok (.invokevirtual 241, 3) := by decide +kernel
theorem dX11_oftenest_35 : decode cX11_oftenest 35 = .ok (.pop, 1) := by decide +kernel
theorem dX11_oftenest_36 : decode cX11_oftenest 36 = .ok (.iinc 2 1, 3) := by decide +kernel
theorem dX11_oftenest_39 : decode cX11_oftenest 39 = .ok (.goto (-16), 3) := by decide +kernel
theorem dX11_oftenest_42 : decode cX11_oftenest 42 = .ok (.iconst (-1), 1) := by decide +kernel
theorem dX11_oftenest_43 : decode cX11_oftenest 43 = .ok (.istore_n 2, 1) := by decide +kernel
theorem dX11_oftenest_44 : decode cX11_oftenest 44 = .ok (.iconst (-1), 1) := by decide +kernel
theorem dX11_oftenest_45 : decode cX11_oftenest 45 = .ok (.istore_n 3, 1) := by decide +kernel
theorem dX11_oftenest_46 : decode cX11_oftenest 46 = .ok (.iconst 0, 1) := by decide +kernel
theorem dX11_oftenest_47 : decode cX11_oftenest 47 = .ok (.istore 4, 2) := by decide +kernel
theorem dX11_oftenest_49 : decode cX11_oftenest 49 = .ok (.iload 4, 2) := by decide +kernel
theorem dX11_oftenest_51 : decode cX11_oftenest 51 = .ok (.aload_n 0, 1) := by decide +kernel
theorem dX11_oftenest_52 : decode cX11_oftenest 52 = .ok (.getfield 29, 3) := by decide +kernel
theorem dX11_oftenest_55 : decode cX11_oftenest 55 = .ok (.getfield 144, 3) := by decide +kernel
theorem dX11_oftenest_58 : decode cX11_oftenest 58 = .ok (.if_icmp .ge 37, 3) := by decide +kernel
theorem dX11_oftenest_61 : decode cX11_oftenest 61 = .ok (.aload_n 0, 1) := by decide +kernel
theorem dX11_oftenest_62 : decode cX11_oftenest 62 = .ok (.getfield 71, 3) := by decide +kernel
theorem dX11_oftenest_65 : decode cX11_oftenest 65 = .ok (.getfield 279, 3) := by decide +kernel
theorem dX11_oftenest_68 : decode cX11_oftenest 68 = .ok (.iload 4, 2) := by decide +kernel
theorem dX11_oftenest_70 : decode cX11_oftenest 70 = .ok (.iaload, 1) := by decide +kernel
theorem dX11_oftenest_71 : decode cX11_oftenest 71 = .ok (.iload_n 2, 1) := by decide +kernel
theorem dX11_oftenest_72 : decode cX11_oftenest 72 = .ok (.if_icmp .le 17, 3) := by decide +kernel
theorem dX11_oftenest_75 : decode cX11_oftenest 75 = .ok (.aload_n 0, 1) := by decide +kernel
theorem dX11_oftenest_76 : decode cX11_oftenest 76 = .ok (.getfield 71, 3) := by decide +kernel
theorem dX11_oftenest_79 : decode cX11_oftenest 79 = .ok (.getfield 279, 3) := by decide +kernel
theorem dX11_oftenest_82 : decode cX11_oftenest 82 = .ok (.iload 4, 2) := by decide +kernel
theorem dX11_oftenest_84 : decode cX11_oftenest 84 = .ok (.iaload, 1) := by decide +kernel
theorem dX11_oftenest_85 : decode cX11_oftenest 85 = .ok (.istore_n 2, 1) := by decide +kernel
theorem dX11_oftenest_86 : decode cX11_oftenest 86 = .ok (.iload 4, 2) := by decide +kernel
theorem dX11_oftenest_88 : decode cX11_oftenest 88 = .ok (.istore_n 3, 1) := by decide +kernel
theorem dX11_oftenest_89 : decode cX11_oftenest 89 = .ok (.iinc 4 1, 3) := by decide +kernel
theorem dX11_oftenest_92 : decode cX11_oftenest 92 = .ok (.goto (-43), 3) := by decide +kernel
theorem dX11_oftenest_95 : decode cX11_oftenest 95 = .ok (.iload_n 3, 1) := by decide +kernel
theorem dX11_oftenest_96 : decode cX11_oftenest 96 = .ok (.ireturn, 1) := by decide +kernel
set_option maxRecDepth 20000 in
theorem ggX11_crowd_X11_needWhat : GoodIn wsX11_crowd wsX11_needWhat := goodIn_ca (goodIn_r _ [11, 12, 13] (by decide +kernel) (by decide +kernel)) (goodIn_sub (fun _ h => List.mem_cons_of_mem _ (List.mem_append_left _ (List.mem_append_right _ h))) (by decide +kernel))
set_option maxRecDepth 20000 in
theorem gX11_crowd_X11_needWhat : GoodIn wsX11_crowd (va_wsS RX11 267 yX11_needWhat wsX11_needWhat) := goodIn_app (goodIn_of _ (by decide +kernel)) ggX11_crowd_X11_needWhat
set_option maxRecDepth 20000 in
theorem ggX11_crowd_X11_needWithin : GoodIn wsX11_crowd wsX11_needWithin := goodIn_ca (goodIn_r _ [16, 17, 18] (by decide +kernel) (by decide +kernel)) (goodIn_sub (fun _ h => List.mem_cons_of_mem _ (List.mem_append_right _ h)) (by decide +kernel))
set_option maxRecDepth 20000 in
theorem gX11_crowd_X11_needWithin : GoodIn wsX11_crowd (va_wsS RX11 263 yX11_needWithin wsX11_needWithin) := goodIn_app (goodIn_of _ (by decide +kernel)) ggX11_crowd_X11_needWithin
set_option maxRecDepth 20000 in
theorem ggX11_crowd_X2_start : GoodIn wsX11_crowd wsX2_start := goodIn_r _ [23, 24, 25, 26, 27, 28, 29, 30, 31, 32, 33, 34, 35, 36, 37, 10, 38, 39, 40, 41, 42, 142, 143, 144, 145, 146, 147, 148, 149, 150, 151, 152, 153] (by decide +kernel) (by decide +kernel)
set_option maxRecDepth 20000 in
theorem gX11_crowd_X2_start : GoodIn wsX11_crowd (wsV RX11 238 RX2 yX2_start wsX2_start) := goodIn_app (goodIn_of _ (by decide +kernel)) ggX11_crowd_X2_start
set_option maxRecDepth 20000 in
theorem ggX11_crowd_X2_go : GoodIn wsX11_crowd wsX2_go := goodIn_r _ [46, 47, 48, 24, 49, 50, 51, 52, 53, 54, 55, 56, 57, 58, 59, 22, 60, 61, 62, 63, 64, 65, 66, 67, 68, 69, 70, 71, 72, 6, 73, 25, 74, 75, 76, 77, 78, 79, 80, 81, 82, 83, 84, 85, 86, 87, 88, 89, 90, 91, 92, 93, 94, 95, 96, 97, 98, 99, 100, 101, 102, 103, 104, 105, 106, 107, 108, 109, 110, 111, 112, 113, 114, 115, 116, 117, 118, 119, 120, 121, 122, 123, 142, 143, 144, 145, 146, 147, 148, 149, 150, 151, 152, 153, 154, 155, 156, 157, 158, 159, 160, 161, 162, 163, 164, 165, 166, 167, 168, 169, 170] (by decide +kernel) (by decide +kernel)
set_option maxRecDepth 20000 in
theorem gX11_crowd_X2_go : GoodIn wsX11_crowd (wsV RX11 241 RX2 yX2_go wsX2_go) := goodIn_app (goodIn_of _ (by decide +kernel)) ggX11_crowd_X2_go
set_option maxRecDepth 20000 in
theorem ggX11_crowd_J6_bitCount_0f7a4 : GoodIn wsX11_crowd wsJ6_bitCount_0f7a4 := goodIn_r _ [109, 110, 111, 112] (by decide +kernel) (by decide +kernel)
set_option maxRecDepth 20000 in
theorem gX11_crowd_J6_bitCount_0f7a4 : GoodIn wsX11_crowd (va_wsS RX11 274 yJ6_bitCount_0f7a4 wsJ6_bitCount_0f7a4) := goodIn_app (goodIn_of _ (by decide +kernel)) ggX11_crowd_J6_bitCount_0f7a4
theorem dX11_crowd_0 : decode cX11_crowd 0 = .ok (.iload_n 2, 1) := by decide +kernel
theorem dX11_crowd_1 : decode cX11_crowd 1 = .ok (.iconst 1, 1) := by decide +kernel
theorem dX11_crowd_2 : decode cX11_crowd 2 = .ok (.invokestatic 267, 3) := by decide +kernel
theorem dX11_crowd_5 : decode cX11_crowd 5 = .ok (.iload_n 1, 1) := by decide +kernel
theorem dX11_crowd_6 : decode cX11_crowd 6 = .ok (.iconst 1, 1) := by decide +kernel
theorem dX11_crowd_7 : decode cX11_crowd 7 = .ok (.bipush 60, 2) := by decide +kernel
theorem dX11_crowd_9 : decode cX11_crowd 9 = .ok (.invokestatic 263, 3) := by decide +kernel
theorem dX11_crowd_12 : decode cX11_crowd 12 = .ok (.aload_n 0, 1) := by decide +kernel
theorem dX11_crowd_13 : decode cX11_crowd 13 = .ok (.getfield 71, 3) := by decide +kernel
theorem dX11_crowd_16 : decode cX11_crowd 16 = .ok (.aload_n 0, 1) := by decide +kernel
theorem dX11_crowd_17 : decode cX11_crowd 17 = .ok (.getfield 36, 3) := by decide +kernel
theorem dX11_crowd_20 : decode cX11_crowd 20 = .ok (.getfield 109, 3) := by decide +kernel
theorem dX11_crowd_23 : decode cX11_crowd 23 = .ok (.invokevirtual 238, 3) := by decide +kernel
theorem dX11_crowd_26 : decode cX11_crowd 26 = .ok (.iconst 0, 1) := by decide +kernel
theorem dX11_crowd_27 : decode cX11_crowd 27 = .ok (.istore_n 3, 1) := by decide +kernel
theorem dX11_crowd_28 : decode cX11_crowd 28 = .ok (.iconst 0, 1) := by decide +kernel
theorem dX11_crowd_29 : decode cX11_crowd 29 = .ok (.istore 4, 2) := by decide +kernel
theorem dX11_crowd_31 : decode cX11_crowd 31 = .ok (.iconst 1, 1) := by decide +kernel
theorem dX11_crowd_32 : decode cX11_crowd 32 = .ok (.istore 5, 2) := by decide +kernel
theorem dX11_crowd_34 : decode cX11_crowd 34 = .ok (.iload 5, 2) := by decide +kernel
theorem dX11_crowd_36 : decode cX11_crowd 36 = .ok (.iload_n 1, 1) := by decide +kernel
theorem dX11_crowd_37 : decode cX11_crowd 37 = .ok (.if_icmp .gt 43, 3) := by decide +kernel
theorem dX11_crowd_40 : decode cX11_crowd 40 = .ok (.aload_n 0, 1) := by decide +kernel
theorem dX11_crowd_41 : decode cX11_crowd 41 = .ok (.getfield 71, 3) := by decide +kernel
theorem dX11_crowd_44 : decode cX11_crowd 44 = .ok (.invokevirtual 241, 3) := by decide +kernel
theorem dX11_crowd_47 : decode cX11_crowd 47 = .ok (.invokestatic 274, 3) := by decide +kernel
theorem dX11_crowd_50 : decode cX11_crowd 50 = .ok (.istore 6, 2) := by decide +kernel
theorem dX11_crowd_52 : decode cX11_crowd 52 = .ok (.iload_n 3, 1) := by decide +kernel
theorem dX11_crowd_53 : decode cX11_crowd 53 = .ok (.iload 6, 2) := by decide +kernel
theorem dX11_crowd_55 : decode cX11_crowd 55 = .ok (.invokestatic 282, 3) := by decide +kernel
theorem dX11_crowd_58 : decode cX11_crowd 58 = .ok (.istore_n 3, 1) := by decide +kernel
theorem dX11_crowd_59 : decode cX11_crowd 59 = .ok (.iload 4, 2) := by decide +kernel
theorem dX11_crowd_61 : decode cX11_crowd 61 = .ok (.iload 6, 2) := by decide +kernel
theorem dX11_crowd_63 : decode cX11_crowd 63 = .ok (.ifCond .ne 7, 3) := by decide +kernel
theorem dX11_crowd_66 : decode cX11_crowd 66 = .ok (.iconst 1, 1) := by decide +kernel
theorem dX11_crowd_67 : decode cX11_crowd 67 = .ok (.goto 4, 3) := by decide +kernel
theorem dX11_crowd_70 : decode cX11_crowd 70 = .ok (.iconst 0, 1) := by decide +kernel
theorem dX11_crowd_71 : decode cX11_crowd 71 = .ok (.iadd, 1) := by decide +kernel
theorem dX11_crowd_72 : decode cX11_crowd 72 = .ok (.istore 4, 2) := by decide +kernel
theorem dX11_crowd_74 : decode cX11_crowd 74 = .ok (.iinc 5 1, 3) := by decide +kernel
theorem dX11_crowd_77 : decode cX11_crowd 77 = .ok (.goto (-43), 3) := by decide +kernel
theorem dX11_crowd_80 : decode cX11_crowd 80 = .ok (.iload_n 2, 1) := by decide +kernel
theorem dX11_crowd_81 : decode cX11_crowd 81 = .ok (.ifCond .ne 7, 3) := by decide +kernel
theorem dX11_crowd_84 : decode cX11_crowd 84 = .ok (.iload_n 3, 1) := by decide +kernel
theorem dX11_crowd_85 : decode cX11_crowd 85 = .ok (.goto 5, 3) := by decide +kernel
theorem dX11_crowd_88 : decode cX11_crowd 88 = .ok (.iload 4, 2) := by decide +kernel
theorem dX11_crowd_90 : decode cX11_crowd 90 = .ok (.ireturn, 1) := by decide +kernel
set_option maxRecDepth 20000 in
theorem ggX11_reaches_X11_needFarms : GoodIn wsX11_reaches wsX11_needFarms := goodIn_ca (goodIn_r _ [8, 9, 10, 11, 7, 12, 13, 14, 15, 16, 143, 144, 145, 146, 147, 148, 149, 150, 151, 152, 153, 154, 155, 160, 161, 162, 163, 164, 165, 166, 167, 168, 169, 170] (by decide +kernel) (by decide +kernel)) (goodIn_sub (fun _ h => List.mem_cons_of_mem _ (List.mem_append_right _ h)) (by decide +kernel))
set_option maxRecDepth 20000 in
theorem gX11_reaches_X11_needFarms : GoodIn wsX11_reaches (wsV RX11 287 RX11 yX11_needFarms wsX11_needFarms) := goodIn_app (goodIn_of _ (by decide +kernel)) ggX11_reaches_X11_needFarms
set_option maxRecDepth 20000 in
theorem ggX11_reaches_X2_startAnew : GoodIn wsX11_reaches wsX2_startAnew := goodIn_r _ [21, 22, 23, 24, 25, 26, 27, 28, 20, 29, 30, 31, 32, 33, 34, 35, 36, 37, 38, 39, 40, 41, 42, 7, 43, 44, 45, 46, 47, 48, 49, 50, 51, 52, 53, 54, 55, 56, 57, 58, 59, 171, 172, 173, 174, 175, 176, 160, 161, 162, 163, 164, 165, 166, 167, 168, 169, 170, 177, 178, 179, 180, 181, 182] (by decide +kernel) (by decide +kernel)
set_option maxRecDepth 20000 in
theorem gX11_reaches_X2_startAnew : GoodIn wsX11_reaches (wsV RX11 290 RX2 yX2_startAnew wsX2_startAnew) := goodIn_app (goodIn_of _ (by decide +kernel)) ggX11_reaches_X2_startAnew
set_option maxRecDepth 20000 in
theorem ggX11_reaches_X2_firstNod : GoodIn wsX11_reaches wsX2_firstNod := goodIn_r _ [63, 64, 65, 66, 20, 67, 68, 23, 22, 69, 70, 71, 72, 73, 74, 75, 76, 77, 78, 79, 80, 24, 81, 82, 83, 84, 85, 86, 25, 87, 88, 89, 90, 91, 92, 30, 93, 94, 95, 96, 97, 98, 99, 100, 101, 102, 103, 104, 105, 106, 107, 108, 109, 110, 111, 112, 113, 114, 115, 116, 117, 118, 119, 120, 121, 122, 123, 124, 125, 126, 127, 128, 129, 130, 131, 132, 133, 134, 135, 136, 137, 138, 139, 140, 141, 142, 171, 172, 173, 174, 175, 176, 177, 178, 179, 180, 181, 182, 160, 161, 162, 163, 164, 165, 166, 167, 168, 169, 170, 183, 184, 185, 186, 187, 188] (by decide +kernel) (by decide +kernel)
set_option maxRecDepth 20000 in
theorem gX11_reaches_X2_firstNod : GoodIn wsX11_reaches (wsV RX11 271 RX2 yX2_firstNod wsX2_firstNod) := goodIn_app (goodIn_of _ (by decide +kernel)) ggX11_reaches_X2_firstNod
theorem dX11_reaches_0 : decode cX11_reaches 0 = .ok (.aload_n 0, 1) := by decide +kernel
theorem dX11_reaches_1 : decode cX11_reaches 1 = .ok (.iload_n 1, 1) := by decide +kernel
theorem dX11_reaches_2 : decode cX11_reaches 2 = .ok (.iload_n 2, 1) := by decide +kernel
theorem dX11_reaches_3 : decode cX11_reaches 3 = .ok (.invokevirtual 287, 3) := by decide +kernel
theorem dX11_reaches_6 : decode cX11_reaches 6 = .ok (.aload_n 0, 1) := by decide +kernel
theorem dX11_reaches_7 : decode cX11_reaches 7 = .ok (.getfield 71, 3) := by decide +kernel
theorem dX11_reaches_10 : decode cX11_reaches 10 = .ok (.aload_n 0, 1) := by decide +kernel
theorem dX11_reaches_11 : decode cX11_reaches 11 = .ok (.getfield 36, 3) := by decide +kernel
theorem dX11_reaches_14 : decode cX11_reaches 14 = .ok (.getfield 109, 3) := by decide +kernel
theorem dX11_reaches_17 : decode cX11_reaches 17 = .ok (.iconst 1, 1) := by decide +kernel
theorem dX11_reaches_18 : decode cX11_reaches 18 = .ok (.iload_n 1, 1) := by decide +kernel
theorem dX11_reaches_19 : decode cX11_reaches 19 = .ok (.ishl, 1) := by decide +kernel
theorem dX11_reaches_20 : decode cX11_reaches 20 = .ok (.invokevirtual 290, 3) := by decide +kernel
theorem dX11_reaches_23 : decode cX11_reaches 23 = .ok (.aload_n 0, 1) := by decide +kernel
theorem dX11_reaches_24 : decode cX11_reaches 24 = .ok (.getfield 71, 3) := by decide +kernel
theorem dX11_reaches_27 : decode cX11_reaches 27 = .ok (.iload_n 2, 1) := by decide +kernel
theorem dX11_reaches_28 : decode cX11_reaches 28 = .ok (.invokevirtual 271, 3) := by decide +kernel
theorem dX11_reaches_31 : decode cX11_reaches 31 = .ok (.ireturn, 1) := by decide +kernel
set_option maxRecDepth 20000 in
theorem ggX11_reached_X11_needFarm : GoodIn wsX11_reached wsX11_needFarm := goodIn_ca (goodIn_r _ [5, 6, 7, 8, 9, 157, 158, 159, 160, 161, 162, 163, 164, 165, 166, 167, 168, 169, 170, 171, 172, 173, 174, 175, 176, 177, 178, 179, 180] (by decide +kernel) (by decide +kernel)) (goodIn_sub (fun _ h => List.mem_cons_of_mem _ (List.mem_append_left _ (List.mem_append_right _ h))) (by decide +kernel))
set_option maxRecDepth 20000 in
theorem gX11_reached_X11_needFarm : GoodIn wsX11_reached (wsV RX11 187 RX11 yX11_needFarm wsX11_needFarm) := goodIn_app (goodIn_of _ (by decide +kernel)) ggX11_reached_X11_needFarm
set_option maxRecDepth 20000 in
theorem ggX11_reached_X11_needWithin : GoodIn wsX11_reached wsX11_needWithin := goodIn_ca (goodIn_r _ [12, 13, 14] (by decide +kernel) (by decide +kernel)) (goodIn_sub (fun _ h => List.mem_cons_of_mem _ (List.mem_append_right _ h)) (by decide +kernel))
set_option maxRecDepth 20000 in
theorem gX11_reached_X11_needWithin : GoodIn wsX11_reached (va_wsS RX11 263 yX11_needWithin wsX11_needWithin) := goodIn_app (goodIn_of _ (by decide +kernel)) ggX11_reached_X11_needWithin
set_option maxRecDepth 20000 in
theorem ggX11_reached_X11_reachedBy : GoodIn wsX11_reached wsX11_reachedBy := goodIn_r _ [18, 19, 20, 21, 22, 23, 24, 25, 26, 27, 28, 29, 30, 31, 32, 33, 34, 35, 36, 37, 38, 39, 40, 41, 42, 43, 44, 45, 46, 47, 4, 48, 49, 50, 51, 52, 53, 54, 55, 56, 57, 58, 59, 60, 61, 62, 63, 64, 65, 66, 67, 68, 69, 70, 71, 72, 73, 74, 75, 76, 77, 78, 79, 80, 81, 82, 83, 84, 85, 86, 87, 88, 89, 90, 91, 92, 93, 94, 95, 96, 97, 98, 99, 100, 101, 102, 103, 104, 105, 106, 107, 108, 109, 110, 111, 112, 113, 114, 115, 116, 117, 118, 119, 120, 121, 122, 123, 124, 125, 126, 127, 128, 129, 130, 131, 132, 133, 134, 135, 136, 137, 138, 139, 140, 141, 142, 143, 144, 145, 146, 147, 148, 149, 150, 151, 152, 153, 154, 155, 156, 157, 158, 159, 160, 161, 162, 163, 164, 165, 166, 167, 168, 169, 181, 182, 183, 184, 185, 186, 187, 188, 189, 190, 170, 171, 172, 173, 174, 175, 176, 177, 178, 179, 180, 191, 192, 193, 194, 195, 196, 197, 198, 199, 200, 201, 202] (by decide +kernel) (by decide +kernel)
set_option maxRecDepth 20000 in
theorem gX11_reached_X11_reachedBy : GoodIn wsX11_reached (wsV RX11 294 RX11 yX11_reachedBy wsX11_reachedBy) := goodIn_app (goodIn_of _ (by decide +kernel)) ggX11_reached_X11_reachedBy
theorem dX11_reached_0 : decode cX11_reached 0 = .ok (.aload_n 0, 1) := by decide +kernel
theorem dX11_reached_1 : decode cX11_reached 1 = .ok (.iload_n 1, 1) := by decide +kernel
theorem dX11_reached_2 : decode cX11_reached 2 = .ok (.invokevirtual 187, 3) := by decide +kernel
theorem dX11_reached_5 : decode cX11_reached 5 = .ok (.iload_n 2, 1) := by decide +kernel
theorem dX11_reached_6 : decode cX11_reached 6 = .ok (.iconst 0, 1) := by decide +kernel
theorem dX11_reached_7 : decode cX11_reached 7 = .ok (.bipush 60, 2) := by decide +kernel
theorem dX11_reached_9 : decode cX11_reached 9 = .ok (.invokestatic 263, 3) := by decide +kernel
theorem dX11_reached_12 : decode cX11_reached 12 = .ok (.aload_n 0, 1) := by decide +kernel
theorem dX11_reached_13 : decode cX11_reached 13 = .ok (.iconst 1, 1) := by decide +kernel
theorem dX11_reached_14 : decode cX11_reached 14 = .ok (.iload_n 1, 1) := by decide +kernel
theorem dX11_reached_15 : decode cX11_reached 15 = .ok (.ishl, 1) := by decide +kernel
theorem dX11_reached_16 : decode cX11_reached 16 = .ok (.iload_n 2, 1) := by decide +kernel
theorem dX11_reached_17 : decode cX11_reached 17 = .ok (.invokevirtual 294, 3) := by decide +kernel
theorem dX11_reached_20 : decode cX11_reached 20 = .ok (.ireturn, 1) := by decide +kernel
set_option maxRecDepth 20000 in
theorem ggX11_through_X11_needFarms : GoodIn wsX11_through wsX11_needFarms := goodIn_ca (goodIn_r _ [10, 11, 12, 13, 9, 14, 15, 16, 4, 5, 149, 150, 151, 152, 153, 154, 155, 156, 157, 158, 159, 160, 161, 166, 167, 168, 169, 170, 171, 172, 173, 174, 175, 176] (by decide +kernel) (by decide +kernel)) (goodIn_sub (fun _ h => List.mem_cons_of_mem _ (List.mem_append_right _ h)) (by decide +kernel))
set_option maxRecDepth 20000 in
theorem gX11_through_X11_needFarms : GoodIn wsX11_through (wsV RX11 287 RX11 yX11_needFarms wsX11_needFarms) := goodIn_app (goodIn_of _ (by decide +kernel)) ggX11_through_X11_needFarms
set_option maxRecDepth 20000 in
theorem ggX11_through_X2_startAnew : GoodIn wsX11_through wsX2_startAnew := goodIn_r _ [21, 22, 23, 24, 25, 26, 27, 28, 20, 29, 30, 31, 32, 33, 34, 35, 36, 37, 38, 39, 40, 41, 42, 9, 43, 44, 45, 46, 47, 48, 49, 50, 51, 52, 53, 54, 55, 56, 57, 58, 59, 177, 178, 179, 180, 181, 182, 166, 167, 168, 169, 170, 171, 172, 173, 174, 175, 176, 183, 184, 185, 186, 187, 188] (by decide +kernel) (by decide +kernel)
set_option maxRecDepth 20000 in
theorem gX11_through_X2_startAnew : GoodIn wsX11_through (wsV RX11 290 RX2 yX2_startAnew wsX2_startAnew) := goodIn_app (goodIn_of _ (by decide +kernel)) ggX11_through_X2_startAnew
set_option maxRecDepth 20000 in
theorem ggX11_through_X2_firstNod : GoodIn wsX11_through wsX2_firstNod := goodIn_r _ [63, 64, 65, 66, 20, 67, 68, 23, 22, 69, 70, 71, 72, 73, 74, 75, 76, 77, 78, 79, 80, 24, 81, 82, 83, 84, 85, 86, 25, 87, 88, 89, 90, 91, 92, 30, 93, 94, 95, 96, 97, 98, 99, 100, 101, 102, 103, 104, 105, 106, 107, 108, 109, 110, 111, 112, 113, 114, 115, 116, 117, 118, 119, 120, 121, 122, 123, 124, 125, 126, 127, 128, 129, 130, 131, 132, 133, 134, 135, 136, 137, 138, 139, 140, 141, 142, 177, 178, 179, 180, 181, 182, 183, 184, 185, 186, 187, 188, 166, 167, 168, 169, 170, 171, 172, 173, 174, 175, 176, 189, 190, 191, 192, 193, 194] (by decide +kernel) (by decide +kernel)
set_option maxRecDepth 20000 in
theorem gX11_through_X2_firstNod : GoodIn wsX11_through (wsV RX11 271 RX2 yX2_firstNod wsX2_firstNod) := goodIn_app (goodIn_of _ (by decide +kernel)) ggX11_through_X2_firstNod
set_option maxRecDepth 20000 in
theorem ggX11_through_X11_reachesWithout : GoodIn wsX11_through wsX11_reachesWithout := goodIn_r _ [146, 1, 2, 3, 147, 148, 17, 18, 19, 20, 21, 22, 23, 24, 25, 26, 27, 28, 29, 30, 31, 32, 33, 34, 35, 36, 37, 38, 39, 40, 41, 42, 9, 43, 44, 45, 46, 47, 48, 49, 50, 51, 52, 53, 54, 55, 56, 57, 58, 59, 60, 61, 62, 63, 64, 65, 66, 67, 68, 69, 70, 71, 72, 73, 74, 75, 76, 77, 78, 79, 80, 81, 82, 83, 84, 85, 86, 87, 88, 89, 90, 91, 92, 93, 94, 95, 96, 97, 98, 99, 100, 101, 102, 103, 104, 105, 106, 107, 108, 109, 110, 111, 112, 113, 114, 115, 116, 117, 118, 119, 120, 121, 122, 123, 124, 125, 126, 127, 128, 129, 130, 131, 132, 133, 134, 135, 136, 137, 138, 139, 140, 141, 142, 149, 150, 151, 152, 153, 154, 155, 156, 157, 158, 159, 160, 161, 162, 163, 164, 165, 177, 178, 179, 180, 181, 182, 183, 184, 185, 186, 187, 188, 166, 167, 168, 169, 170, 171, 172, 173, 174, 175, 176, 189, 190, 191, 192, 193, 194] (by decide +kernel) (by decide +kernel)
set_option maxRecDepth 20000 in
theorem gX11_through_X11_reachesWithout : GoodIn wsX11_through (wsV RX11 297 RX11 yX11_reachesWithout wsX11_reachesWithout) := goodIn_app (goodIn_of _ (by decide +kernel)) ggX11_through_X11_reachesWithout
theorem dX11_through_0 : decode cX11_through 0 = .ok (.aload_n 0, 1) := by decide +kernel
theorem dX11_through_1 : decode cX11_through 1 = .ok (.iload_n 1, 1) := by decide +kernel
theorem dX11_through_2 : decode cX11_through 2 = .ok (.iload_n 2, 1) := by decide +kernel
theorem dX11_through_3 : decode cX11_through 3 = .ok (.invokevirtual 287, 3) := by decide +kernel
theorem dX11_through_6 : decode cX11_through 6 = .ok (.aload_n 0, 1) := by decide +kernel
theorem dX11_through_7 : decode cX11_through 7 = .ok (.getfield 71, 3) := by decide +kernel
theorem dX11_through_10 : decode cX11_through 10 = .ok (.aload_n 0, 1) := by decide +kernel
theorem dX11_through_11 : decode cX11_through 11 = .ok (.getfield 36, 3) := by decide +kernel
theorem dX11_through_14 : decode cX11_through 14 = .ok (.getfield 109, 3) := by decide +kernel
theorem dX11_through_17 : decode cX11_through 17 = .ok (.iconst 1, 1) := by decide +kernel
theorem dX11_through_18 : decode cX11_through 18 = .ok (.iload_n 1, 1) := by decide +kernel
theorem dX11_through_19 : decode cX11_through 19 = .ok (.ishl, 1) := by decide +kernel
theorem dX11_through_20 : decode cX11_through 20 = .ok (.invokevirtual 290, 3) := by decide +kernel
theorem dX11_through_23 : decode cX11_through 23 = .ok (.aload_n 0, 1) := by decide +kernel
theorem dX11_through_24 : decode cX11_through 24 = .ok (.getfield 71, 3) := by decide +kernel
theorem dX11_through_27 : decode cX11_through 27 = .ok (.iload_n 2, 1) := by decide +kernel
theorem dX11_through_28 : decode cX11_through 28 = .ok (.invokevirtual 271, 3) := by decide +kernel
theorem dX11_through_31 : decode cX11_through 31 = .ok (.iconst (-1), 1) := by decide +kernel
theorem dX11_through_32 : decode cX11_through 32 = .ok (.if_icmp .ne 5, 3) := by decide +kernel
theorem dX11_through_35 : decode cX11_through 35 = .ok (.iconst 0, 1) := by decide +kernel
theorem dX11_through_36 : decode cX11_through 36 = .ok (.ireturn, 1) := by decide +kernel
theorem dX11_through_37 : decode cX11_through 37 = .ok (.iconst 0, 1) := by decide +kernel
theorem dX11_through_38 : decode cX11_through 38 = .ok (.istore_n 3, 1) := by decide +kernel
theorem dX11_through_39 : decode cX11_through 39 = .ok (.iconst 0, 1) := by decide +kernel
theorem dX11_through_40 : decode cX11_through 40 = .ok (.istore 4, 2) := by decide +kernel
theorem dX11_through_42 : decode cX11_through 42 = .ok (.iload 4, 2) := by decide +kernel
theorem dX11_through_44 : decode cX11_through 44 = .ok (.aload_n 0, 1) := by decide +kernel
theorem dX11_through_45 : decode cX11_through 45 = .ok (.getfield 29, 3) := by decide +kernel
theorem dX11_through_48 : decode cX11_through 48 = .ok (.getfield 144, 3) := by decide +kernel
theorem dX11_through_51 : decode cX11_through 51 = .ok (.if_icmp .ge 39, 3) := by decide +kernel
theorem dX11_through_54 : decode cX11_through 54 = .ok (.iload 4, 2) := by decide +kernel
theorem dX11_through_56 : decode cX11_through 56 = .ok (.iload_n 1, 1) := by decide +kernel
theorem dX11_through_57 : decode cX11_through 57 = .ok (.if_icmp .eq 27, 3) := by decide +kernel
theorem dX11_through_60 : decode cX11_through 60 = .ok (.iload 4, 2) := by decide +kernel
theorem dX11_through_62 : decode cX11_through 62 = .ok (.iload_n 2, 1) := by decide +kernel
theorem dX11_through_63 : decode cX11_through 63 = .ok (.if_icmp .eq 21, 3) := by decide +kernel
theorem dX11_through_66 : decode cX11_through 66 = .ok (.aload_n 0, 1) := by decide +kernel
theorem dX11_through_67 : decode cX11_through 67 = .ok (.iload_n 1, 1) := by decide +kernel
theorem dX11_through_68 : decode cX11_through 68 = .ok (.iload_n 2, 1) := by decide +kernel
theorem dX11_through_69 : decode cX11_through 69 = .ok (.iload 4, 2) := by decide +kernel
theorem dX11_through_71 : decode cX11_through 71 = .ok (.invokevirtual 297, 3) := by decide +kernel
theorem dX11_through_74 : decode cX11_through 74 = .ok (.ifCond .ne 10, 3) := by decide +kernel
theorem dX11_through_77 : decode cX11_through 77 = .ok (.iload_n 3, 1) := by decide +kernel
theorem dX11_through_78 : decode cX11_through 78 = .ok (.iconst 1, 1) := by decide +kernel
theorem dX11_through_79 : decode cX11_through 79 = .ok (.iload 4, 2) := by decide +kernel
theorem dX11_through_81 : decode cX11_through 81 = .ok (.ishl, 1) := by decide +kernel
theorem dX11_through_82 : decode cX11_through 82 = .ok (.ior, 1) := by decide +kernel
theorem dX11_through_83 : decode cX11_through 83 = .ok (.istore_n 3, 1) := by decide +kernel
theorem dX11_through_84 : decode cX11_through 84 = .ok (.iinc 4 1, 3) := by decide +kernel
theorem dX11_through_87 : decode cX11_through 87 = .ok (.goto (-45), 3) := by decide +kernel
theorem dX11_through_90 : decode cX11_through 90 = .ok (.iload_n 3, 1) := by decide +kernel
theorem dX11_through_91 : decode cX11_through 91 = .ok (.ireturn, 1) := by decide +kernel
set_option maxRecDepth 20000 in
theorem ggX11_reachesWithout_X2_startAnew : GoodIn wsX11_reachesWithout wsX2_startAnew := goodIn_r _ [10, 11, 12, 13, 14, 15, 16, 17, 9, 18, 19, 20, 21, 22, 23, 24, 25, 26, 27, 28, 29, 30, 31, 32, 33, 34, 35, 36, 37, 38, 39, 40, 41, 42, 43, 44, 45, 46, 47, 48, 49, 150, 151, 152, 153, 154, 155, 162, 163, 164, 165, 166, 167, 168, 169, 170, 171, 172, 156, 157, 158, 159, 160, 161] (by decide +kernel) (by decide +kernel)
set_option maxRecDepth 20000 in
theorem gX11_reachesWithout_X2_startAnew : GoodIn wsX11_reachesWithout (wsV RX11 290 RX2 yX2_startAnew wsX2_startAnew) := goodIn_app (goodIn_of _ (by decide +kernel)) ggX11_reachesWithout_X2_startAnew
set_option maxRecDepth 20000 in
theorem ggX11_reachesWithout_X2_firstNod : GoodIn wsX11_reachesWithout wsX2_firstNod := goodIn_r _ [53, 54, 55, 56, 9, 57, 58, 12, 11, 59, 60, 61, 62, 63, 64, 65, 66, 67, 68, 69, 70, 13, 71, 72, 73, 74, 75, 76, 14, 77, 78, 79, 80, 81, 82, 19, 83, 84, 85, 86, 87, 88, 89, 90, 91, 92, 93, 94, 95, 96, 97, 98, 99, 100, 101, 102, 103, 104, 105, 106, 107, 108, 109, 110, 111, 112, 113, 114, 115, 116, 117, 118, 119, 120, 121, 122, 123, 124, 125, 126, 127, 128, 129, 130, 131, 132, 150, 151, 152, 153, 154, 155, 156, 157, 158, 159, 160, 161, 162, 163, 164, 165, 166, 167, 168, 169, 170, 171, 172, 173, 174, 175, 176, 177, 178] (by decide +kernel) (by decide +kernel)
set_option maxRecDepth 20000 in
theorem gX11_reachesWithout_X2_firstNod : GoodIn wsX11_reachesWithout (wsV RX11 271 RX2 yX2_firstNod wsX2_firstNod) := goodIn_app (goodIn_of _ (by decide +kernel)) ggX11_reachesWithout_X2_firstNod
theorem dX11_reachesWithout_0 : decode cX11_reachesWithout 0 = .ok (.aload_n 0, 1) := by decide +kernel
theorem dX11_reachesWithout_1 : decode cX11_reachesWithout 1 = .ok (.getfield 71, 3) := by decide +kernel
theorem dX11_reachesWithout_4 : decode cX11_reachesWithout 4 = .ok (.aload_n 0, 1) := by decide +kernel
theorem dX11_reachesWithout_5 : decode cX11_reachesWithout 5 = .ok (.getfield 36, 3) := by decide +kernel
theorem dX11_reachesWithout_8 : decode cX11_reachesWithout 8 = .ok (.getfield 109, 3) := by decide +kernel
theorem dX11_reachesWithout_11 : decode cX11_reachesWithout 11 = .ok (.iconst 1, 1) := by decide +kernel
theorem dX11_reachesWithout_12 : decode cX11_reachesWithout 12 = .ok (.iload_n 1, 1) := by decide +kernel
theorem dX11_reachesWithout_13 : decode cX11_reachesWithout 13 = .ok (.ishl, 1) := by decide +kernel
theorem dX11_reachesWithout_14 : decode cX11_reachesWithout 14 = .ok (.invokevirtual 290, 3) := by decide +kernel
theorem dX11_reachesWithout_17 : decode cX11_reachesWithout 17 = .ok (.aload_n 0, 1) := by decide +kernel
theorem dX11_reachesWithout_18 : decode cX11_reachesWithout 18 = .ok (.getfield 71, 3) := by decide +kernel
theorem dX11_reachesWithout_21 : decode cX11_reachesWithout 21 = .ok (.getfield 244, 3) := by decide +kernel
theorem dX11_reachesWithout_24 : decode cX11_reachesWithout 24 = .ok (.dup, 1) := by decide +kernel
theorem dX11_reachesWithout_25 : decode cX11_reachesWithout 25 = .ok (.getfield 159, 3) := by decide +kernel
theorem dX11_reachesWithout_28 : decode cX11_reachesWithout 28 = .ok (.iconst 1, 1) := by decide +kernel
theorem dX11_reachesWithout_29 : decode cX11_reachesWithout 29 = .ok (.iload_n 3, 1) := by decide +kernel
theorem dX11_reachesWithout_30 : decode cX11_reachesWithout 30 = .ok (.ishl, 1) := by decide +kernel
theorem dX11_reachesWithout_31 : decode cX11_reachesWithout 31 = .ok (.ior, 1) := by decide +kernel
theorem dX11_reachesWithout_32 : decode cX11_reachesWithout 32 = .ok (.putfield 159, 3) := by decide +kernel
theorem dX11_reachesWithout_35 : decode cX11_reachesWithout 35 = .ok (.aload_n 0, 1) := by decide +kernel
theorem dX11_reachesWithout_36 : decode cX11_reachesWithout 36 = .ok (.getfield 71, 3) := by decide +kernel
theorem dX11_reachesWithout_39 : decode cX11_reachesWithout 39 = .ok (.iload_n 2, 1) := by decide +kernel
theorem dX11_reachesWithout_40 : decode cX11_reachesWithout 40 = .ok (.invokevirtual 271, 3) := by decide +kernel
theorem dX11_reachesWithout_43 : decode cX11_reachesWithout 43 = .ok (.iconst (-1), 1) := by decide +kernel
theorem dX11_reachesWithout_44 : decode cX11_reachesWithout 44 = .ok (.if_icmp .eq 7, 3) := by decide +kernel
theorem dX11_reachesWithout_47 : decode cX11_reachesWithout 47 = .ok (.iconst 1, 1) := by decide +kernel
theorem dX11_reachesWithout_48 : decode cX11_reachesWithout 48 = .ok (.goto 4, 3) := by decide +kernel
theorem dX11_reachesWithout_51 : decode cX11_reachesWithout 51 = .ok (.iconst 0, 1) := by decide +kernel
theorem dX11_reachesWithout_52 : decode cX11_reachesWithout 52 = .ok (.ireturn, 1) := by decide +kernel
set_option maxRecDepth 20000 in
theorem ggX11_best_X11_needWithin : GoodIn wsX11_best wsX11_needWithin := goodIn_ca (goodIn_r _ [6, 7, 8] (by decide +kernel) (by decide +kernel)) (goodIn_sub (fun _ h => List.mem_cons_of_mem _ (List.mem_append_right _ h)) (by decide +kernel))
set_option maxRecDepth 20000 in
theorem gX11_best_X11_needWithin : GoodIn wsX11_best (va_wsS RX11 263 yX11_needWithin wsX11_needWithin) := goodIn_app (goodIn_of _ (by decide +kernel)) ggX11_best_X11_needWithin
set_option maxRecDepth 20000 in
theorem ggX11_best_X11_reachedBy : GoodIn wsX11_best wsX11_reachedBy := goodIn_r _ [12, 13, 14, 15, 16, 17, 18, 19, 20, 21, 22, 23, 24, 25, 26, 27, 28, 29, 30, 31, 32, 33, 34, 35, 36, 37, 38, 39, 40, 41, 5, 42, 43, 44, 45, 46, 47, 48, 49, 50, 51, 52, 53, 54, 55, 56, 57, 58, 59, 60, 61, 62, 63, 64, 65, 66, 67, 68, 69, 70, 71, 72, 73, 74, 75, 76, 77, 78, 79, 80, 81, 82, 83, 84, 85, 86, 87, 88, 89, 90, 91, 92, 93, 94, 95, 96, 97, 98, 99, 100, 101, 102, 103, 104, 105, 106, 107, 108, 109, 110, 111, 112, 113, 114, 115, 116, 117, 118, 119, 120, 121, 122, 123, 124, 125, 126, 127, 128, 129, 130, 131, 132, 133, 134, 135, 136, 137, 138, 139, 140, 141, 142, 143, 144, 145, 146, 147, 148, 149, 150, 152, 153, 154, 155, 156, 157, 158, 159, 160, 161, 162, 163, 164, 176, 177, 178, 179, 180, 181, 182, 183, 184, 185, 165, 166, 167, 168, 169, 170, 171, 172, 173, 174, 175, 186, 187, 188, 189, 190, 191, 192, 193, 194, 195, 196, 197] (by decide +kernel) (by decide +kernel)
set_option maxRecDepth 20000 in
theorem gX11_best_X11_reachedBy : GoodIn wsX11_best (wsV RX11 294 RX11 yX11_reachedBy wsX11_reachedBy) := goodIn_app (goodIn_of _ (by decide +kernel)) ggX11_best_X11_reachedBy
set_option maxRecDepth 20000 in
theorem ggX11_best_J6_bitCount_0f7a4 : GoodIn wsX11_best wsJ6_bitCount_0f7a4 := goodIn_r _ [136, 137, 138, 139] (by decide +kernel) (by decide +kernel)
set_option maxRecDepth 20000 in
theorem gX11_best_J6_bitCount_0f7a4 : GoodIn wsX11_best (va_wsS RX11 274 yJ6_bitCount_0f7a4 wsJ6_bitCount_0f7a4) := goodIn_app (goodIn_of _ (by decide +kernel)) ggX11_best_J6_bitCount_0f7a4
theorem dX11_best_0 : decode cX11_best 0 = .ok (.iload_n 1, 1) := by decide +kernel
theorem dX11_best_1 : decode cX11_best 1 = .ok (.iconst 1, 1) := by decide +kernel
theorem dX11_best_2 : decode cX11_best 2 = .ok (.bipush 60, 2) := by decide +kernel
theorem dX11_best_4 : decode cX11_best 4 = .ok (.invokestatic 263, 3) := by decide +kernel
theorem dX11_best_7 : decode cX11_best 7 = .ok (.iconst (-1), 1) := by decide +kernel
theorem dX11_best_8 : decode cX11_best 8 = .ok (.istore_n 2, 1) := by decide +kernel
theorem dX11_best_9 : decode cX11_best 9 = .ok (.iconst (-1), 1) := by decide +kernel
theorem dX11_best_10 : decode cX11_best 10 = .ok (.istore_n 3, 1) := by decide +kernel
theorem dX11_best_11 : decode cX11_best 11 = .ok (.iconst 0, 1) := by decide +kernel
theorem dX11_best_12 : decode cX11_best 12 = .ok (.istore 4, 2) := by decide +kernel
theorem dX11_best_14 : decode cX11_best 14 = .ok (.iload 4, 2) := by decide +kernel
theorem dX11_best_16 : decode cX11_best 16 = .ok (.aload_n 0, 1) := by decide +kernel
theorem dX11_best_17 : decode cX11_best 17 = .ok (.getfield 29, 3) := by decide +kernel
theorem dX11_best_20 : decode cX11_best 20 = .ok (.getfield 144, 3) := by decide +kernel
theorem dX11_best_23 : decode cX11_best 23 = .ok (.if_icmp .ge 35, 3) := by decide +kernel
theorem dX11_best_26 : decode cX11_best 26 = .ok (.aload_n 0, 1) := by decide +kernel
theorem dX11_best_27 : decode cX11_best 27 = .ok (.iconst 1, 1) := by decide +kernel
theorem dX11_best_28 : decode cX11_best 28 = .ok (.iload 4, 2) := by decide +kernel
theorem dX11_best_30 : decode cX11_best 30 = .ok (.ishl, 1) := by decide +kernel
theorem dX11_best_31 : decode cX11_best 31 = .ok (.iload_n 1, 1) := by decide +kernel
theorem dX11_best_32 : decode cX11_best 32 = .ok (.invokevirtual 294, 3) := by decide +kernel
theorem dX11_best_35 : decode cX11_best 35 = .ok (.invokestatic 274, 3) := by decide +kernel
theorem dX11_best_38 : decode cX11_best 38 = .ok (.istore 5, 2) := by decide +kernel
theorem dX11_best_40 : decode cX11_best 40 = .ok (.iload 5, 2) := by decide +kernel
theorem dX11_best_42 : decode cX11_best 42 = .ok (.iload_n 2, 1) := by decide +kernel
theorem dX11_best_43 : decode cX11_best 43 = .ok (.if_icmp .le 9, 3) := by decide +kernel
theorem dX11_best_46 : decode cX11_best 46 = .ok (.iload 5, 2) := by decide +kernel
theorem dX11_best_48 : decode cX11_best 48 = .ok (.istore_n 2, 1) := by decide +kernel
theorem dX11_best_49 : decode cX11_best 49 = .ok (.iload 4, 2) := by decide +kernel
theorem dX11_best_51 : decode cX11_best 51 = .ok (.istore_n 3, 1) := by decide +kernel
theorem dX11_best_52 : decode cX11_best 52 = .ok (.iinc 4 1, 3) := by decide +kernel
theorem dX11_best_55 : decode cX11_best 55 = .ok (.goto (-41), 3) := by decide +kernel
theorem dX11_best_58 : decode cX11_best 58 = .ok (.iload_n 3, 1) := by decide +kernel
theorem dX11_best_59 : decode cX11_best 59 = .ok (.ireturn, 1) := by decide +kernel
set_option maxRecDepth 20000 in
theorem ggX11_toBegin_X11_needWithin : GoodIn wsX11_toBegin wsX11_needWithin := goodIn_ca (goodIn_r _ [9, 10, 11] (by decide +kernel) (by decide +kernel)) (goodIn_sub (fun _ h => List.mem_cons_of_mem _ (List.mem_append_right _ h)) (by decide +kernel))
set_option maxRecDepth 20000 in
theorem gX11_toBegin_X11_needWithin : GoodIn wsX11_toBegin (va_wsS RX11 263 yX11_needWithin wsX11_needWithin) := goodIn_app (goodIn_of _ (by decide +kernel)) ggX11_toBegin_X11_needWithin
set_option maxRecDepth 20000 in
theorem ggX11_toBegin_X9_all : GoodIn wsX11_toBegin wsX9_all := goodIn_r _ [16, 17, 177, 178, 179, 180, 181, 182, 183, 184, 185, 186, 187] (by decide +kernel) (by decide +kernel)
set_option maxRecDepth 20000 in
theorem gX11_toBegin_X9_all : GoodIn wsX11_toBegin (wsV RX11 301 RX9 yX9_all wsX9_all) := goodIn_app (goodIn_of _ (by decide +kernel)) ggX11_toBegin_X9_all
set_option maxRecDepth 20000 in
theorem ggX11_toBegin_J6_bitCount_0f7a4 : GoodIn wsX11_toBegin wsJ6_bitCount_0f7a4 := goodIn_r _ [21, 22, 23, 24] (by decide +kernel) (by decide +kernel)
set_option maxRecDepth 20000 in
theorem gX11_toBegin_J6_bitCount_0f7a4 : GoodIn wsX11_toBegin (va_wsS RX11 274 yJ6_bitCount_0f7a4 wsJ6_bitCount_0f7a4) := goodIn_app (goodIn_of _ (by decide +kernel)) ggX11_toBegin_J6_bitCount_0f7a4
set_option maxRecDepth 20000 in
theorem ggX11_toBegin_X11_reachedBy : GoodIn wsX11_toBegin wsX11_reachedBy := goodIn_r _ [28, 29, 2, 3, 30, 31, 32, 33, 34, 35, 36, 37, 38, 39, 40, 41, 42, 43, 44, 45, 46, 47, 48, 49, 50, 51, 52, 53, 54, 55, 8, 56, 57, 58, 59, 60, 61, 62, 63, 64, 65, 66, 67, 68, 69, 70, 71, 72, 73, 74, 75, 76, 77, 78, 13, 14, 15, 16, 17, 79, 80, 81, 82, 83, 84, 85, 86, 87, 88, 89, 90, 91, 92, 93, 94, 95, 96, 97, 98, 99, 100, 101, 102, 103, 104, 105, 106, 107, 108, 109, 110, 111, 112, 113, 114, 115, 116, 117, 118, 119, 120, 121, 122, 123, 124, 125, 126, 127, 128, 129, 130, 131, 132, 133, 134, 135, 136, 137, 138, 139, 140, 141, 142, 19, 20, 21, 22, 23, 24, 143, 144, 145, 146, 147, 148, 149, 150, 151, 152, 153, 154, 155, 156, 157, 158, 159, 160, 161, 162, 163, 164, 165, 166, 167, 168, 169, 170, 188, 189, 190, 191, 192, 193, 177, 178, 179, 180, 181, 182, 183, 184, 185, 186, 187, 171, 172, 173, 174, 175, 176, 194, 195, 196, 197, 198, 199] (by decide +kernel) (by decide +kernel)
set_option maxRecDepth 20000 in
theorem gX11_toBegin_X11_reachedBy : GoodIn wsX11_toBegin (wsV RX11 294 RX11 yX11_reachedBy wsX11_reachedBy) := goodIn_app (goodIn_of _ (by decide +kernel)) ggX11_toBegin_X11_reachedBy
theorem dX11_toBegin_0 : decode cX11_toBegin 0 = .ok (.iload_n 1, 1) := by decide +kernel
theorem dX11_toBegin_1 : decode cX11_toBegin 1 = .ok (.iconst 1, 1) := by decide +kernel
theorem dX11_toBegin_2 : decode cX11_toBegin 2 = .ok (.bipush 60, 2) := by decide +kernel
theorem dX11_toBegin_4 : decode cX11_toBegin 4 = .ok (.invokestatic 263, 3) := by decide +kernel
theorem dX11_toBegin_7 : decode cX11_toBegin 7 = .ok (.aload_n 0, 1) := by decide +kernel
theorem dX11_toBegin_8 : decode cX11_toBegin 8 = .ok (.getfield 29, 3) := by decide +kernel
theorem dX11_toBegin_11 : decode cX11_toBegin 11 = .ok (.invokevirtual 301, 3) := by decide +kernel
theorem dX11_toBegin_14 : decode cX11_toBegin 14 = .ok (.aload_n 0, 1) := by decide +kernel
theorem dX11_toBegin_15 : decode cX11_toBegin 15 = .ok (.getfield 36, 3) := by decide +kernel
theorem dX11_toBegin_18 : decode cX11_toBegin 18 = .ok (.getfield 109, 3) := by decide +kernel
theorem dX11_toBegin_21 : decode cX11_toBegin 21 = .ok (.getfield 159, 3) := by decide +kernel
theorem dX11_toBegin_24 : decode cX11_toBegin 24 = .ok (.iconst (-1), 1) := by decide +kernel
theorem dX11_toBegin_25 : decode cX11_toBegin 25 = .ok (.ixor, 1) := by decide +kernel
theorem dX11_toBegin_26 : decode cX11_toBegin 26 = .ok (.iand, 1) := by decide +kernel
theorem dX11_toBegin_27 : decode cX11_toBegin 27 = .ok (.istore_n 2, 1) := by decide +kernel
theorem dX11_toBegin_28 : decode cX11_toBegin 28 = .ok (.iconst 0, 1) := by decide +kernel
theorem dX11_toBegin_29 : decode cX11_toBegin 29 = .ok (.istore_n 3, 1) := by decide +kernel
theorem dX11_toBegin_30 : decode cX11_toBegin 30 = .ok (.iload_n 3, 1) := by decide +kernel
theorem dX11_toBegin_31 : decode cX11_toBegin 31 = .ok (.aload_n 0, 1) := by decide +kernel
theorem dX11_toBegin_32 : decode cX11_toBegin 32 = .ok (.getfield 29, 3) := by decide +kernel
theorem dX11_toBegin_35 : decode cX11_toBegin 35 = .ok (.getfield 144, 3) := by decide +kernel
theorem dX11_toBegin_38 : decode cX11_toBegin 38 = .ok (.if_icmp .gt 56, 3) := by decide +kernel
theorem dX11_toBegin_41 : decode cX11_toBegin 41 = .ok (.iconst 0, 1) := by decide +kernel
theorem dX11_toBegin_42 : decode cX11_toBegin 42 = .ok (.istore 4, 2) := by decide +kernel
theorem dX11_toBegin_44 : decode cX11_toBegin 44 = .ok (.iload 4, 2) := by decide +kernel
theorem dX11_toBegin_46 : decode cX11_toBegin 46 = .ok (.iload_n 2, 1) := by decide +kernel
theorem dX11_toBegin_47 : decode cX11_toBegin 47 = .ok (.if_icmp .gt 41, 3) := by decide +kernel
theorem dX11_toBegin_50 : decode cX11_toBegin 50 = .ok (.iload 4, 2) := by decide +kernel
theorem dX11_toBegin_52 : decode cX11_toBegin 52 = .ok (.iload_n 2, 1) := by decide +kernel
theorem dX11_toBegin_53 : decode cX11_toBegin 53 = .ok (.iconst (-1), 1) := by decide +kernel
theorem dX11_toBegin_54 : decode cX11_toBegin 54 = .ok (.ixor, 1) := by decide +kernel
theorem dX11_toBegin_55 : decode cX11_toBegin 55 = .ok (.iand, 1) := by decide +kernel
theorem dX11_toBegin_56 : decode cX11_toBegin 56 = .ok (.ifCond .ne 26, 3) := by decide +kernel
theorem dX11_toBegin_59 : decode cX11_toBegin 59 = .ok (.iload 4, 2) := by decide +kernel
theorem dX11_toBegin_61 : decode cX11_toBegin 61 = .ok (.invokestatic 274, 3) := by decide +kernel
theorem dX11_toBegin_64 : decode cX11_toBegin 64 = .ok (.iload_n 3, 1) := by decide +kernel
theorem dX11_toBegin_65 : decode cX11_toBegin 65 = .ok (.if_icmp .ne 17, 3) := by decide +kernel
theorem dX11_toBegin_68 : decode cX11_toBegin 68 = .ok (.aload_n 0, 1) := by decide +kernel
theorem dX11_toBegin_69 : decode cX11_toBegin 69 = .ok (.iload 4, 2) := by decide +kernel
theorem dX11_toBegin_71 : decode cX11_toBegin 71 = .ok (.iload_n 1, 1) := by decide +kernel
theorem dX11_toBegin_72 : decode cX11_toBegin 72 = .ok (.invokevirtual 294, 3) := by decide +kernel
theorem dX11_toBegin_75 : decode cX11_toBegin 75 = .ok (.iload_n 2, 1) := by decide +kernel
theorem dX11_toBegin_76 : decode cX11_toBegin 76 = .ok (.if_icmp .ne 6, 3) := by decide +kernel
theorem dX11_toBegin_79 : decode cX11_toBegin 79 = .ok (.iload 4, 2) := by decide +kernel
theorem dX11_toBegin_81 : decode cX11_toBegin 81 = .ok (.ireturn, 1) := by decide +kernel
theorem dX11_toBegin_82 : decode cX11_toBegin 82 = .ok (.iinc 4 1, 3) := by decide +kernel
theorem dX11_toBegin_85 : decode cX11_toBegin 85 = .ok (.goto (-41), 3) := by decide +kernel
theorem dX11_toBegin_88 : decode cX11_toBegin 88 = .ok (.iinc 3 1, 3) := by decide +kernel
theorem dX11_toBegin_91 : decode cX11_toBegin 91 = .ok (.goto (-61), 3) := by decide +kernel
theorem dX11_toBegin_94 : decode cX11_toBegin 94 = .ok (.iconst (-1), 1) := by decide +kernel
theorem dX11_toBegin_95 : decode cX11_toBegin 95 = .ok (.ireturn, 1) := by decide +kernel
set_option maxRecDepth 20000 in
theorem ggX11_reachedBy_X2_startAnew : GoodIn wsX11_reachedBy wsX2_startAnew := goodIn_r _ [8, 9, 10, 11, 12, 13, 14, 15, 7, 16, 17, 18, 19, 20, 21, 22, 23, 24, 25, 26, 27, 28, 29, 30, 31, 32, 33, 34, 35, 36, 37, 38, 39, 40, 41, 42, 43, 44, 45, 46, 47, 157, 158, 159, 160, 161, 162, 163, 164, 165, 166, 167, 168, 169, 170, 171, 172, 173, 174, 175, 176, 177, 178, 179] (by decide +kernel) (by decide +kernel)
set_option maxRecDepth 20000 in
theorem gX11_reachedBy_X2_startAnew : GoodIn wsX11_reachedBy (wsV RX11 290 RX2 yX2_startAnew wsX2_startAnew) := goodIn_app (goodIn_of _ (by decide +kernel)) ggX11_reachedBy_X2_startAnew
set_option maxRecDepth 20000 in
theorem ggX11_reachedBy_X2_gather : GoodIn wsX11_reachedBy wsX2_gather := goodIn_r _ [51, 10, 9, 52, 53, 54, 55, 56, 57, 58, 59, 60, 61, 21, 62, 25, 63, 64, 65, 7, 66, 67, 68, 69, 70, 71, 72, 73, 74, 75, 76, 77, 78, 11, 79, 80, 81, 82, 83, 84, 12, 85, 86, 87, 88, 89, 90, 17, 91, 92, 93, 94, 95, 96, 97, 98, 99, 100, 101, 102, 103, 104, 105, 106, 107, 108, 109, 110, 111, 112, 113, 114, 115, 116, 117, 118, 119, 120, 121, 122, 123, 124, 125, 126, 127, 128, 129, 130, 131, 132, 133, 134, 135, 136, 137, 138, 139, 157, 158, 159, 160, 161, 162, 174, 175, 176, 177, 178, 179, 163, 164, 165, 166, 167, 168, 169, 170, 171, 172, 173, 180, 181, 182, 183, 184, 185] (by decide +kernel) (by decide +kernel)
set_option maxRecDepth 20000 in
theorem gX11_reachedBy_X2_gather : GoodIn wsX11_reachedBy (wsV RX11 304 RX2 yX2_gather wsX2_gather) := goodIn_app (goodIn_of _ (by decide +kernel)) ggX11_reachedBy_X2_gather
theorem dX11_reachedBy_0 : decode cX11_reachedBy 0 = .ok (.aload_n 0, 1) := by decide +kernel
theorem dX11_reachedBy_1 : decode cX11_reachedBy 1 = .ok (.getfield 71, 3) := by decide +kernel
theorem dX11_reachedBy_4 : decode cX11_reachedBy 4 = .ok (.aload_n 0, 1) := by decide +kernel
theorem dX11_reachedBy_5 : decode cX11_reachedBy 5 = .ok (.getfield 36, 3) := by decide +kernel
theorem dX11_reachedBy_8 : decode cX11_reachedBy 8 = .ok (.getfield 109, 3) := by decide +kernel
theorem dX11_reachedBy_11 : decode cX11_reachedBy 11 = .ok (.iload_n 1, 1) := by decide +kernel
theorem dX11_reachedBy_12 : decode cX11_reachedBy 12 = .ok (.invokevirtual 290, 3) := by decide +kernel
theorem dX11_reachedBy_15 : decode cX11_reachedBy 15 = .ok (.aload_n 0, 1) := by decide +kernel
theorem dX11_reachedBy_16 : decode cX11_reachedBy 16 = .ok (.getfield 71, 3) := by decide +kernel
theorem dX11_reachedBy_19 : decode cX11_reachedBy 19 = .ok (.iload_n 2, 1) := by decide +kernel
theorem dX11_reachedBy_20 : decode cX11_reachedBy 20 = .ok (.invokevirtual 304, 3) := by decide +kernel
theorem dX11_reachedBy_23 : decode cX11_reachedBy 23 = .ok (.ireturn, 1) := by decide +kernel
set_option maxRecDepth 20000 in
theorem ggX11_way_X11_needFarms : GoodIn wsX11_way wsX11_needFarms := goodIn_ca (goodIn_r _ [5, 6, 7, 8, 4, 9, 10, 11, 12, 13, 56, 57, 58, 59, 60, 61, 62, 63, 64, 65, 66, 67, 68, 69, 70, 71, 72, 73, 74, 75, 76, 77, 78, 79] (by decide +kernel) (by decide +kernel)) (goodIn_sub (fun _ h => List.mem_cons_of_mem _ (List.mem_append_right _ h)) (by decide +kernel))
set_option maxRecDepth 20000 in
theorem gX11_way_X11_needFarms : GoodIn wsX11_way (wsV RX11 287 RX11 yX11_needFarms wsX11_needFarms) := goodIn_app (goodIn_of _ (by decide +kernel)) ggX11_way_X11_needFarms
set_option maxRecDepth 20000 in
theorem ggX11_way_X11_viewsNow : GoodIn wsX11_way wsX11_viewsNow := goodIn_r _ [17, 18, 19, 20, 21, 22, 4, 23, 12, 24, 25, 26, 27, 28, 29, 30, 31, 32, 33, 34, 35, 36, 37, 38, 39, 40, 41, 42, 43, 44, 45, 46, 47, 56, 57, 58, 59, 60, 61, 62, 63, 64, 65, 66, 67, 68, 80, 81, 82, 83, 84, 85, 86, 87, 88, 89, 69, 70, 71, 72, 73, 74, 75, 76, 77, 78, 79, 90, 91, 92, 93, 94] (by decide +kernel) (by decide +kernel)
set_option maxRecDepth 20000 in
theorem gX11_way_X11_viewsNow : GoodIn wsX11_way (wsV RX11 165 RX11 yX11_viewsNow wsX11_viewsNow) := goodIn_app (goodIn_of _ (by decide +kernel)) ggX11_way_X11_viewsNow
set_option maxRecDepth 20000 in
theorem ggX11_way_X10_steps : GoodIn wsX11_way wsX10_steps := goodIn_r _ [51, 52, 53, 54, 37, 55, 39, 40, 41, 90, 91, 69, 70, 71, 72, 73, 74, 75, 76, 77, 78, 79] (by decide +kernel) (by decide +kernel)
set_option maxRecDepth 20000 in
theorem gX11_way_X10_steps : GoodIn wsX11_way (wsV RX11 307 RX10 yX10_steps wsX10_steps) := goodIn_app (goodIn_of _ (by decide +kernel)) ggX11_way_X10_steps
theorem dX11_way_0 : decode cX11_way 0 = .ok (.aload_n 0, 1) := by decide +kernel
theorem dX11_way_1 : decode cX11_way 1 = .ok (.iload_n 1, 1) := by decide +kernel
theorem dX11_way_2 : decode cX11_way 2 = .ok (.iload_n 2, 1) := by decide +kernel
theorem dX11_way_3 : decode cX11_way 3 = .ok (.invokevirtual 287, 3) := by decide +kernel
theorem dX11_way_6 : decode cX11_way 6 = .ok (.aload_n 0, 1) := by decide +kernel
theorem dX11_way_7 : decode cX11_way 7 = .ok (.invokevirtual 165, 3) := by decide +kernel
theorem dX11_way_10 : decode cX11_way 10 = .ok (.iload_n 1, 1) := by decide +kernel
theorem dX11_way_11 : decode cX11_way 11 = .ok (.iload_n 2, 1) := by decide +kernel
theorem dX11_way_12 : decode cX11_way 12 = .ok (.invokevirtual 307, 3) := by decide +kernel
theorem dX11_way_15 : decode cX11_way 15 = .ok (.ireturn, 1) := by decide +kernel
set_option maxRecDepth 20000 in
theorem ggX11_toHat_X11_needFarms : GoodIn wsX11_toHat wsX11_needFarms := goodIn_ca (goodIn_r _ [12, 13, 14, 15, 11, 16, 17, 18, 6, 19, 60, 61, 62, 63, 64, 65, 66, 67, 68, 69, 70, 71, 72, 86, 87, 88, 89, 90, 91, 92, 93, 94, 95, 96] (by decide +kernel) (by decide +kernel)) (goodIn_sub (fun _ h => List.mem_cons_of_mem _ (List.mem_append_right _ h)) (by decide +kernel))
set_option maxRecDepth 20000 in
theorem gX11_toHat_X11_needFarms : GoodIn wsX11_toHat (wsV RX11 287 RX11 yX11_needFarms wsX11_needFarms) := goodIn_app (goodIn_of _ (by decide +kernel)) ggX11_toHat_X11_needFarms
set_option maxRecDepth 20000 in
theorem ggX11_toHat_X11_mistNow : GoodIn wsX11_toHat wsX11_mistNow := goodIn_r _ [23, 6, 2, 3, 24, 25, 26, 27, 28, 29, 30, 31, 60, 61, 62, 63, 64, 65, 66, 67, 68, 69, 70, 71, 72, 73, 74, 75, 76, 77, 78, 79, 80, 81, 82, 86, 87, 88, 89, 90, 91, 92, 93, 94, 95, 96] (by decide +kernel) (by decide +kernel)
set_option maxRecDepth 20000 in
theorem gX11_toHat_X11_mistNow : GoodIn wsX11_toHat (wsV RX11 150 RX11 yX11_mistNow wsX11_mistNow) := goodIn_app (goodIn_of _ (by decide +kernel)) ggX11_toHat_X11_mistNow
set_option maxRecDepth 20000 in
theorem ggX11_toHat_X6_isNear : GoodIn wsX11_toHat wsX6_isNear := goodIn_r _ [36, 37, 38, 39, 40, 41, 28, 42, 43, 44, 45, 46, 47, 83, 84, 85, 86, 87, 88, 89, 90, 91, 92, 93, 94, 95, 96] (by decide +kernel) (by decide +kernel)
set_option maxRecDepth 20000 in
theorem gX11_toHat_X6_isNear : GoodIn wsX11_toHat (wsV RX11 310 RX6 yX6_isNear wsX6_isNear) := goodIn_app (goodIn_of _ (by decide +kernel)) ggX11_toHat_X6_isNear
set_option maxRecDepth 20000 in
theorem ggX11_toHat_X6_takeTops : GoodIn wsX11_toHat wsX6_takeTops := goodIn_r _ [51, 52, 37, 53, 83, 84, 85, 86, 87, 88, 89, 90, 91, 92, 93, 94, 95, 96] (by decide +kernel) (by decide +kernel)
set_option maxRecDepth 20000 in
theorem gX11_toHat_X6_takeTops : GoodIn wsX11_toHat (wsV RX11 313 RX6 yX6_takeTops wsX6_takeTops) := goodIn_app (goodIn_of _ (by decide +kernel)) ggX11_toHat_X6_takeTops
set_option maxRecDepth 20000 in
theorem ggX11_toHat_X6_inTheWay : GoodIn wsX11_toHat wsX6_inTheWay := goodIn_r _ [57, 37, 58, 59, 52, 83, 84, 85, 86, 87, 88, 89, 90, 91, 92, 93, 94, 95, 96] (by decide +kernel) (by decide +kernel)
set_option maxRecDepth 20000 in
theorem gX11_toHat_X6_inTheWay : GoodIn wsX11_toHat (wsV RX11 319 RX6 yX6_inTheWay wsX6_inTheWay) := goodIn_app (goodIn_of _ (by decide +kernel)) ggX11_toHat_X6_inTheWay
theorem dX11_toHat_0 : decode cX11_toHat 0 = .ok (.aload_n 0, 1) := by decide +kernel
theorem dX11_toHat_1 : decode cX11_toHat 1 = .ok (.iload_n 1, 1) := by decide +kernel
theorem dX11_toHat_2 : decode cX11_toHat 2 = .ok (.iload_n 2, 1) := by decide +kernel
theorem dX11_toHat_3 : decode cX11_toHat 3 = .ok (.invokevirtual 287, 3) := by decide +kernel
theorem dX11_toHat_6 : decode cX11_toHat 6 = .ok (.iload_n 1, 1) := by decide +kernel
theorem dX11_toHat_7 : decode cX11_toHat 7 = .ok (.iload_n 2, 1) := by decide +kernel
theorem dX11_toHat_8 : decode cX11_toHat 8 = .ok (.if_icmp .eq 19, 3) := by decide +kernel
theorem dX11_toHat_11 : decode cX11_toHat 11 = .ok (.aload_n 0, 1) := by decide +kernel
theorem dX11_toHat_12 : decode cX11_toHat 12 = .ok (.getfield 56, 3) := by decide +kernel
theorem dX11_toHat_15 : decode cX11_toHat 15 = .ok (.iload_n 1, 1) := by decide +kernel
theorem dX11_toHat_16 : decode cX11_toHat 16 = .ok (.iload_n 2, 1) := by decide +kernel
theorem dX11_toHat_17 : decode cX11_toHat 17 = .ok (.aload_n 0, 1) := by decide +kernel
theorem dX11_toHat_18 : decode cX11_toHat 18 = .ok (.invokevirtual 150, 3) := by decide +kernel
theorem dX11_toHat_21 : decode cX11_toHat 21 = .ok (.invokevirtual 310, 3) := by decide +kernel
theorem dX11_toHat_24 : decode cX11_toHat 24 = .ok (.ifCond .ne 5, 3) := by decide +kernel
theorem dX11_toHat_27 : decode cX11_toHat 27 = .ok (.iconst (-1), 1) := by decide +kernel
theorem dX11_toHat_28 : decode cX11_toHat 28 = .ok (.ireturn, 1) := by decide +kernel
theorem dX11_toHat_29 : decode cX11_toHat 29 = .ok (.aload_n 0, 1) := by decide +kernel
theorem dX11_toHat_30 : decode cX11_toHat 30 = .ok (.getfield 56, 3) := by decide +kernel
theorem dX11_toHat_33 : decode cX11_toHat 33 = .ok (.aload_n 0, 1) := by decide +kernel
theorem dX11_toHat_34 : decode cX11_toHat 34 = .ok (.getfield 36, 3) := by decide +kernel
theorem dX11_toHat_37 : decode cX11_toHat 37 = .ok (.getfield 109, 3) := by decide +kernel
theorem dX11_toHat_40 : decode cX11_toHat 40 = .ok (.getfield 134, 3) := by decide +kernel
theorem dX11_toHat_43 : decode cX11_toHat 43 = .ok (.invokevirtual 313, 3) := by decide +kernel
theorem dX11_toHat_46 : decode cX11_toHat 46 = .ok (.iconst 0, 1) := by decide +kernel
theorem dX11_toHat_47 : decode cX11_toHat 47 = .ok (.istore_n 3, 1) := by decide +kernel
theorem dX11_toHat_48 : decode cX11_toHat 48 = .ok (.iload_n 3, 1) := by decide +kernel
theorem dX11_toHat_49 : decode cX11_toHat 49 = .ok (.bipush 20, 2) := by decide +kernel
theorem dX11_toHat_51 : decode cX11_toHat 51 = .ok (.if_icmp .gt 43, 3) := by decide +kernel
theorem dX11_toHat_54 : decode cX11_toHat 54 = .ok (.aload_n 0, 1) := by decide +kernel
theorem dX11_toHat_55 : decode cX11_toHat 55 = .ok (.getfield 56, 3) := by decide +kernel
theorem dX11_toHat_58 : decode cX11_toHat 58 = .ok (.getfield 316, 3) := by decide +kernel
theorem dX11_toHat_61 : decode cX11_toHat 61 = .ok (.iload_n 1, 1) := by decide +kernel
theorem dX11_toHat_62 : decode cX11_toHat 62 = .ok (.aload_n 0, 1) := by decide +kernel
theorem dX11_toHat_63 : decode cX11_toHat 63 = .ok (.getfield 29, 3) := by decide +kernel
theorem dX11_toHat_66 : decode cX11_toHat 66 = .ok (.getfield 193, 3) := by decide +kernel
theorem dX11_toHat_69 : decode cX11_toHat 69 = .ok (.iload_n 1, 1) := by decide +kernel
theorem dX11_toHat_70 : decode cX11_toHat 70 = .ok (.iaload, 1) := by decide +kernel
theorem dX11_toHat_71 : decode cX11_toHat 71 = .ok (.iload_n 3, 1) := by decide +kernel
theorem dX11_toHat_72 : decode cX11_toHat 72 = .ok (.iadd, 1) := by decide +kernel
theorem dX11_toHat_73 : decode cX11_toHat 73 = .ok (.iastore, 1) := by decide +kernel
theorem dX11_toHat_74 : decode cX11_toHat 74 = .ok (.aload_n 0, 1) := by decide +kernel
theorem dX11_toHat_75 : decode cX11_toHat 75 = .ok (.getfield 56, 3) := by decide +kernel
theorem dX11_toHat_78 : decode cX11_toHat 78 = .ok (.iload_n 1, 1) := by decide +kernel
theorem dX11_toHat_79 : decode cX11_toHat 79 = .ok (.iload_n 2, 1) := by decide +kernel
theorem dX11_toHat_80 : decode cX11_toHat 80 = .ok (.invokevirtual 319, 3) := by decide +kernel
theorem dX11_toHat_83 : decode cX11_toHat 83 = .ok (.ifCond .ne 5, 3) := by decide +kernel
theorem dX11_toHat_86 : decode cX11_toHat 86 = .ok (.iload_n 3, 1) := by decide +kernel
theorem dX11_toHat_87 : decode cX11_toHat 87 = .ok (.ireturn, 1) := by decide +kernel
theorem dX11_toHat_88 : decode cX11_toHat 88 = .ok (.iinc 3 1, 3) := by decide +kernel
theorem dX11_toHat_91 : decode cX11_toHat 91 = .ok (.goto (-43), 3) := by decide +kernel
theorem dX11_toHat_94 : decode cX11_toHat 94 = .ok (.iconst (-1), 1) := by decide +kernel
theorem dX11_toHat_95 : decode cX11_toHat 95 = .ok (.ireturn, 1) := by decide +kernel
set_option maxRecDepth 20000 in
theorem ggX11_between_X11_needFarms : GoodIn wsX11_between wsX11_needFarms := goodIn_ca (goodIn_r _ [6, 7, 8, 9, 5, 10, 11, 12, 13, 14, 24, 25, 26, 27, 28, 29, 30, 31, 32, 33, 34, 35, 36, 37, 38, 39, 40, 41, 42, 43, 44, 45, 46, 47] (by decide +kernel) (by decide +kernel)) (goodIn_sub (fun _ h => List.mem_cons_of_mem _ (List.mem_append_right _ h)) (by decide +kernel))
set_option maxRecDepth 20000 in
theorem gX11_between_X11_needFarms : GoodIn wsX11_between (wsV RX11 287 RX11 yX11_needFarms wsX11_needFarms) := goodIn_app (goodIn_of _ (by decide +kernel)) ggX11_between_X11_needFarms
set_option maxRecDepth 20000 in
theorem ggX11_between_X6_inTheWay : GoodIn wsX11_between wsX6_inTheWay := goodIn_r _ [19, 20, 21, 22, 23, 48, 49, 50, 37, 38, 39, 40, 41, 42, 43, 44, 45, 46, 47] (by decide +kernel) (by decide +kernel)
set_option maxRecDepth 20000 in
theorem gX11_between_X6_inTheWay : GoodIn wsX11_between (wsV RX11 319 RX6 yX6_inTheWay wsX6_inTheWay) := goodIn_app (goodIn_of _ (by decide +kernel)) ggX11_between_X6_inTheWay
theorem dX11_between_0 : decode cX11_between 0 = .ok (.aload_n 0, 1) := by decide +kernel
theorem dX11_between_1 : decode cX11_between 1 = .ok (.iload_n 1, 1) := by decide +kernel
theorem dX11_between_2 : decode cX11_between 2 = .ok (.iload_n 2, 1) := by decide +kernel
theorem dX11_between_3 : decode cX11_between 3 = .ok (.invokevirtual 287, 3) := by decide +kernel
theorem dX11_between_6 : decode cX11_between 6 = .ok (.aload_n 0, 1) := by decide +kernel
theorem dX11_between_7 : decode cX11_between 7 = .ok (.getfield 52, 3) := by decide +kernel
theorem dX11_between_10 : decode cX11_between 10 = .ok (.iload_n 1, 1) := by decide +kernel
theorem dX11_between_11 : decode cX11_between 11 = .ok (.iload_n 2, 1) := by decide +kernel
theorem dX11_between_12 : decode cX11_between 12 = .ok (.invokevirtual 319, 3) := by decide +kernel
theorem dX11_between_15 : decode cX11_between 15 = .ok (.ireturn, 1) := by decide +kernel
set_option maxRecDepth 20000 in
theorem ggX11_line_X11_viewsNow : GoodIn wsX11_line wsX11_viewsNow := goodIn_r _ [5, 6, 7, 8, 9, 10, 4, 11, 12, 13, 14, 15, 16, 17, 18, 19, 20, 21, 22, 23, 24, 25, 26, 27, 28, 29, 30, 31, 32, 33, 34, 35, 36, 50, 51, 52, 53, 54, 55, 56, 57, 58, 59, 60, 61, 62, 63, 64, 65, 66, 67, 68, 69, 70, 71, 72, 73, 74, 75, 76, 77, 78, 79, 80, 81, 82, 83, 84, 85, 86, 87, 88] (by decide +kernel) (by decide +kernel)
set_option maxRecDepth 20000 in
theorem gX11_line_X11_viewsNow : GoodIn wsX11_line (wsV RX11 165 RX11 yX11_viewsNow wsX11_viewsNow) := goodIn_app (goodIn_of _ (by decide +kernel)) ggX11_line_X11_viewsNow
set_option maxRecDepth 20000 in
theorem ggX11_line_X10_longestLine : GoodIn wsX11_line wsX10_longestLine := goodIn_r _ [40, 28, 29, 30, 41, 42, 43, 44, 45, 46, 47, 26, 48, 49, 84, 85, 73, 74, 75, 76, 77, 78, 79, 80, 81, 82, 83] (by decide +kernel) (by decide +kernel)
set_option maxRecDepth 20000 in
theorem gX11_line_X10_longestLine : GoodIn wsX11_line (wsV RX11 322 RX10 yX10_longestLine wsX10_longestLine) := goodIn_app (goodIn_of _ (by decide +kernel)) ggX11_line_X10_longestLine
theorem dX11_line_0 : decode cX11_line 0 = .ok (.aload_n 0, 1) := by decide +kernel
theorem dX11_line_1 : decode cX11_line 1 = .ok (.invokevirtual 165, 3) := by decide +kernel
theorem dX11_line_4 : decode cX11_line 4 = .ok (.invokevirtual 322, 3) := by decide +kernel
theorem dX11_line_7 : decode cX11_line 7 = .ok (.ireturn, 1) := by decide +kernel
set_option maxRecDepth 20000 in
theorem ggX11_hidden_X11_needFarm : GoodIn wsX11_hidden wsX11_needFarm := goodIn_ca (goodIn_r _ [7, 8, 9, 1, 10, 36, 37, 38, 39, 40, 41, 42, 43, 44, 45, 46, 47, 48, 49, 50, 51, 52, 53, 54, 55, 56, 57, 58, 59] (by decide +kernel) (by decide +kernel)) (goodIn_sub (fun _ h => List.mem_cons_of_mem _ (List.mem_append_right _ h)) (by decide +kernel))
set_option maxRecDepth 20000 in
theorem gX11_hidden_X11_needFarm : GoodIn wsX11_hidden (wsV RX11 187 RX11 yX11_needFarm wsX11_needFarm) := goodIn_app (goodIn_of _ (by decide +kernel)) ggX11_hidden_X11_needFarm
set_option maxRecDepth 20000 in
theorem ggX11_hidden_X9_all : GoodIn wsX11_hidden wsX9_all := goodIn_r _ [15, 16, 49, 50, 51, 52, 53, 54, 55, 56, 57, 58, 59] (by decide +kernel) (by decide +kernel)
set_option maxRecDepth 20000 in
theorem gX11_hidden_X9_all : GoodIn wsX11_hidden (wsV RX11 301 RX9 yX9_all wsX9_all) := goodIn_app (goodIn_of _ (by decide +kernel)) ggX11_hidden_X9_all
set_option maxRecDepth 20000 in
theorem ggX11_hidden_X11_mistNow : GoodIn wsX11_hidden wsX11_mistNow := goodIn_r _ [20, 1, 21, 22, 23, 24, 25, 26, 14, 27, 28, 29, 36, 37, 38, 39, 40, 41, 42, 43, 44, 45, 46, 47, 48, 60, 61, 62, 63, 64, 65, 66, 67, 68, 69, 49, 50, 51, 52, 53, 54, 55, 56, 57, 58, 59] (by decide +kernel) (by decide +kernel)
set_option maxRecDepth 20000 in
theorem gX11_hidden_X11_mistNow : GoodIn wsX11_hidden (wsV RX11 150 RX11 yX11_mistNow wsX11_mistNow) := goodIn_app (goodIn_of _ (by decide +kernel)) ggX11_hidden_X11_mistNow
set_option maxRecDepth 20000 in
theorem ggX11_hidden_X6_of : GoodIn wsX11_hidden wsX6_of := goodIn_r _ [34, 35, 70, 71, 72] (by decide +kernel) (by decide +kernel)
set_option maxRecDepth 20000 in
theorem gX11_hidden_X6_of : GoodIn wsX11_hidden (wsV RX11 211 RX6 yX6_of wsX6_of) := goodIn_app (goodIn_of _ (by decide +kernel)) ggX11_hidden_X6_of
theorem dX11_hidden_0 : decode cX11_hidden 0 = .ok (.aload_n 0, 1) := by decide +kernel
theorem dX11_hidden_1 : decode cX11_hidden 1 = .ok (.iload_n 1, 1) := by decide +kernel
theorem dX11_hidden_2 : decode cX11_hidden 2 = .ok (.invokevirtual 187, 3) := by decide +kernel
theorem dX11_hidden_5 : decode cX11_hidden 5 = .ok (.aload_n 0, 1) := by decide +kernel
theorem dX11_hidden_6 : decode cX11_hidden 6 = .ok (.getfield 29, 3) := by decide +kernel
theorem dX11_hidden_9 : decode cX11_hidden 9 = .ok (.invokevirtual 301, 3) := by decide +kernel
theorem dX11_hidden_12 : decode cX11_hidden 12 = .ok (.iconst 1, 1) := by decide +kernel
theorem dX11_hidden_13 : decode cX11_hidden 13 = .ok (.iload_n 1, 1) := by decide +kernel
theorem dX11_hidden_14 : decode cX11_hidden 14 = .ok (.ishl, 1) := by decide +kernel
theorem dX11_hidden_15 : decode cX11_hidden 15 = .ok (.iconst (-1), 1) := by decide +kernel
theorem dX11_hidden_16 : decode cX11_hidden 16 = .ok (.ixor, 1) := by decide +kernel
theorem dX11_hidden_17 : decode cX11_hidden 17 = .ok (.iand, 1) := by decide +kernel
theorem dX11_hidden_18 : decode cX11_hidden 18 = .ok (.aload_n 0, 1) := by decide +kernel
theorem dX11_hidden_19 : decode cX11_hidden 19 = .ok (.getfield 52, 3) := by decide +kernel
theorem dX11_hidden_22 : decode cX11_hidden 22 = .ok (.iload_n 1, 1) := by decide +kernel
theorem dX11_hidden_23 : decode cX11_hidden 23 = .ok (.aload_n 0, 1) := by decide +kernel
theorem dX11_hidden_24 : decode cX11_hidden 24 = .ok (.invokevirtual 150, 3) := by decide +kernel
theorem dX11_hidden_27 : decode cX11_hidden 27 = .ok (.invokevirtual 211, 3) := by decide +kernel
theorem dX11_hidden_30 : decode cX11_hidden 30 = .ok (.iconst (-1), 1) := by decide +kernel
theorem dX11_hidden_31 : decode cX11_hidden 31 = .ok (.ixor, 1) := by decide +kernel
theorem dX11_hidden_32 : decode cX11_hidden 32 = .ok (.iand, 1) := by decide +kernel
theorem dX11_hidden_33 : decode cX11_hidden 33 = .ok (.ireturn, 1) := by decide +kernel
set_option maxRecDepth 20000 in
theorem ggX11_see_X11_needFarm : GoodIn wsX11_see wsX11_needFarm := goodIn_ca (goodIn_r _ [9, 10, 11, 12, 13, 23, 24, 25, 26, 27, 28, 29, 30, 31, 32, 33, 34, 35, 44, 45, 46, 47, 48, 49, 50, 51, 52, 53, 54] (by decide +kernel) (by decide +kernel)) (goodIn_sub (fun _ h => List.mem_cons_of_mem _ (List.mem_append_right _ h)) (by decide +kernel))
set_option maxRecDepth 20000 in
theorem gX11_see_X11_needFarm : GoodIn wsX11_see (wsV RX11 187 RX11 yX11_needFarm wsX11_needFarm) := goodIn_app (goodIn_of _ (by decide +kernel)) ggX11_see_X11_needFarm
set_option maxRecDepth 20000 in
theorem ggX11_see_X5_add : GoodIn wsX11_see wsX5_add := goodIn_r _ [18, 19, 20, 21, 22, 40, 41, 42, 43] (by decide +kernel) (by decide +kernel)
set_option maxRecDepth 20000 in
theorem gX11_see_X5_add : GoodIn wsX11_see (wsV RX11 325 RX5 yX5_add wsX5_add) := goodIn_app (goodIn_of _ (by decide +kernel)) ggX11_see_X5_add
theorem dX11_see_0 : decode cX11_see 0 = .ok (.aload_n 0, 1) := by decide +kernel
theorem dX11_see_1 : decode cX11_see 1 = .ok (.iload_n 1, 1) := by decide +kernel
theorem dX11_see_2 : decode cX11_see 2 = .ok (.invokevirtual 187, 3) := by decide +kernel
theorem dX11_see_5 : decode cX11_see 5 = .ok (.iload_n 2, 1) := by decide +kernel
theorem dX11_see_6 : decode cX11_see 6 = .ok (.iconst 1, 1) := by decide +kernel
theorem dX11_see_7 : decode cX11_see 7 = .ok (.if_icmp .lt 24, 3) := by decide +kernel
theorem dX11_see_10 : decode cX11_see 10 = .ok (.iload_n 2, 1) := by decide +kernel
theorem dX11_see_11 : decode cX11_see 11 = .ok (.bipush 20, 2) := by decide +kernel
theorem dX11_see_13 : decode cX11_see 13 = .ok (.if_icmp .gt 18, 3) := by decide +kernel
theorem dX11_see_16 : decode cX11_see 16 = .ok (.aload_n 0, 1) := by decide +kernel
theorem dX11_see_17 : decode cX11_see 17 = .ok (.getfield 36, 3) := by decide +kernel
theorem dX11_see_20 : decode cX11_see 20 = .ok (.getfield 127, 3) := by decide +kernel
theorem dX11_see_23 : decode cX11_see 23 = .ok (.getfield 181, 3) := by decide +kernel
theorem dX11_see_26 : decode cX11_see 26 = .ok (.bipush 8, 2) := by decide +kernel
theorem dX11_see_28 : decode cX11_see 28 = .ok (.if_icmp .lt 18, 3) := by decide +kernel
theorem dX11_see_31 : decode cX11_see 31 = .ok (.aload_n 0, 1) := by decide +kernel
theorem dX11_see_32 : decode cX11_see 32 = .ok (.getfield 36, 3) := by decide +kernel
theorem dX11_see_35 : decode cX11_see 35 = .ok (.getfield 97, 3) := by decide +kernel
theorem dX11_see_38 : decode cX11_see 38 = .ok (.iconst 2, 1) := by decide +kernel
theorem dX11_see_39 : decode cX11_see 39 = .ok (.dup2, 1) := by decide +kernel
theorem dX11_see_40 : decode cX11_see 40 = .ok (.iaload, 1) := by decide +kernel
theorem dX11_see_41 : decode cX11_see 41 = .ok (.iconst 1, 1) := by decide +kernel
theorem dX11_see_42 : decode cX11_see 42 = .ok (.iadd, 1) := by decide +kernel
theorem dX11_see_43 : decode cX11_see 43 = .ok (.iastore, 1) := by decide +kernel
theorem dX11_see_44 : decode cX11_see 44 = .ok (.iconst (-1), 1) := by decide +kernel
theorem dX11_see_45 : decode cX11_see 45 = .ok (.ireturn, 1) := by decide +kernel
theorem dX11_see_46 : decode cX11_see 46 = .ok (.aload_n 0, 1) := by decide +kernel
theorem dX11_see_47 : decode cX11_see 47 = .ok (.getfield 36, 3) := by decide +kernel
theorem dX11_see_50 : decode cX11_see 50 = .ok (.getfield 127, 3) := by decide +kernel
theorem dX11_see_53 : decode cX11_see 53 = .ok (.iload_n 1, 1) := by decide +kernel
theorem dX11_see_54 : decode cX11_see 54 = .ok (.iload_n 2, 1) := by decide +kernel
theorem dX11_see_55 : decode cX11_see 55 = .ok (.iload_n 3, 1) := by decide +kernel
theorem dX11_see_56 : decode cX11_see 56 = .ok (.invokevirtual 325, 3) := by decide +kernel
theorem dX11_see_59 : decode cX11_see 59 = .ok (.aload_n 0, 1) := by decide +kernel
theorem dX11_see_60 : decode cX11_see 60 = .ok (.getfield 36, 3) := by decide +kernel
theorem dX11_see_63 : decode cX11_see 63 = .ok (.getfield 127, 3) := by decide +kernel
theorem dX11_see_66 : decode cX11_see 66 = .ok (.getfield 181, 3) := by decide +kernel
theorem dX11_see_69 : decode cX11_see 69 = .ok (.ireturn, 1) := by decide +kernel
set_option maxRecDepth 20000 in
theorem ggX11_begun_X11_needWhat : GoodIn wsX11_begun wsX11_needWhat := goodIn_ca (goodIn_r _ [4, 5, 6] (by decide +kernel) (by decide +kernel)) (goodIn_sub (fun _ h => List.mem_cons_of_mem _ (List.mem_append_right _ h)) (by decide +kernel))
set_option maxRecDepth 20000 in
theorem gX11_begun_X11_needWhat : GoodIn wsX11_begun (va_wsS RX11 267 yX11_needWhat wsX11_needWhat) := goodIn_app (goodIn_of _ (by decide +kernel)) ggX11_begun_X11_needWhat
set_option maxRecDepth 20000 in
theorem ggX11_begun_X11_isSoBy : GoodIn wsX11_begun wsX11_isSoBy := goodIn_r _ [10, 11, 12, 13, 14, 15, 16, 17, 18, 19, 20, 21, 22, 23, 24, 25, 26, 27, 28, 29, 30, 31, 32, 33, 34, 35, 3, 36, 37, 38, 39, 40, 41, 42, 43, 44, 45, 46, 47, 48, 49, 50, 51, 52, 53, 54, 55, 56, 57, 58, 59, 60, 61, 62, 63, 64, 65, 66, 67, 68, 69, 70, 71, 72, 73, 74, 75, 76, 77, 78, 79, 80, 81, 82, 83, 84, 85, 86, 87, 88, 89, 90, 91, 92, 93, 94, 95, 96, 97, 98, 99, 100, 101, 102, 103, 104, 105, 106, 107, 108, 109, 110, 111, 112, 113, 114, 115, 116, 117, 118, 119, 120, 121, 122, 123, 124, 125, 126, 127, 128, 129, 130, 131, 132, 133, 134, 135, 136, 137, 138, 139, 152, 153, 154, 155, 156, 157, 158, 159, 160, 161, 162, 163, 164, 165, 166, 167, 168, 169, 170, 171, 172, 173, 174, 175, 176, 177, 178, 179, 180, 181, 182, 183, 184, 185, 186, 187, 188, 189, 190, 191, 192, 193, 194, 195, 196, 197, 198, 199, 200, 201] (by decide +kernel) (by decide +kernel)
set_option maxRecDepth 20000 in
theorem gX11_begun_X11_isSoBy : GoodIn wsX11_begun (wsV RX11 329 RX11 yX11_isSoBy wsX11_isSoBy) := goodIn_app (goodIn_of _ (by decide +kernel)) ggX11_begun_X11_isSoBy
set_option maxRecDepth 20000 in
theorem ggX11_begun_X11_whoMayHaveBegun : GoodIn wsX11_begun wsX11_whoMayHaveBegun := goodIn_r _ [143, 144, 145, 12, 13, 146, 46, 47, 27, 48, 30, 7, 8, 9, 3, 10, 11, 14, 15, 16, 17, 18, 19, 20, 21, 22, 23, 24, 25, 26, 28, 29, 31, 32, 33, 34, 35, 36, 37, 38, 39, 40, 41, 42, 43, 44, 45, 49, 50, 51, 52, 53, 54, 55, 56, 57, 58, 59, 60, 61, 62, 63, 64, 65, 66, 67, 68, 69, 70, 71, 72, 73, 74, 75, 76, 77, 78, 79, 80, 81, 82, 83, 84, 85, 86, 87, 88, 89, 90, 91, 92, 93, 94, 95, 96, 97, 98, 99, 100, 101, 102, 103, 104, 105, 106, 107, 108, 109, 110, 111, 112, 113, 114, 115, 116, 117, 118, 119, 120, 121, 122, 123, 124, 125, 126, 127, 128, 129, 130, 131, 132, 133, 134, 135, 136, 137, 138, 139, 152, 153, 154, 155, 156, 157, 158, 159, 160, 161, 162, 163, 164, 181, 182, 183, 184, 185, 186, 187, 188, 189, 190, 191, 165, 166, 167, 168, 175, 176, 177, 178, 179, 180, 169, 170, 171, 172, 173, 174, 192, 193, 194, 195, 196, 197, 198, 199, 200, 201] (by decide +kernel) (by decide +kernel)
set_option maxRecDepth 20000 in
theorem gX11_begun_X11_whoMayHaveBegun : GoodIn wsX11_begun (wsV RX11 333 RX11 yX11_whoMayHaveBegun wsX11_whoMayHaveBegun) := goodIn_app (goodIn_of _ (by decide +kernel)) ggX11_begun_X11_whoMayHaveBegun
set_option maxRecDepth 20000 in
theorem ggX11_begun_J6_bitCount_0f7a4 : GoodIn wsX11_begun wsJ6_bitCount_0f7a4 := goodIn_r _ [116, 117, 118, 119] (by decide +kernel) (by decide +kernel)
set_option maxRecDepth 20000 in
theorem gX11_begun_J6_bitCount_0f7a4 : GoodIn wsX11_begun (va_wsS RX11 274 yJ6_bitCount_0f7a4 wsJ6_bitCount_0f7a4) := goodIn_app (goodIn_of _ (by decide +kernel)) ggX11_begun_J6_bitCount_0f7a4
set_option maxRecDepth 20000 in
theorem ggX11_begun_X11_leastOf : GoodIn wsX11_begun wsX11_leastOf := goodIn_r _ [151, 144, 145, 152, 153, 154, 155, 156, 157, 158, 159, 160, 161, 162, 163, 164, 181, 182, 183, 184, 185, 186, 187, 188, 189, 190, 191] (by decide +kernel) (by decide +kernel)
set_option maxRecDepth 20000 in
theorem gX11_begun_X11_leastOf : GoodIn wsX11_begun (wsV RX11 336 RX11 yX11_leastOf wsX11_leastOf) := goodIn_app (goodIn_of _ (by decide +kernel)) ggX11_begun_X11_leastOf
theorem dX11_begun_0 : decode cX11_begun 0 = .ok (.iload_n 1, 1) := by decide +kernel
theorem dX11_begun_1 : decode cX11_begun 1 = .ok (.iconst 2, 1) := by decide +kernel
theorem dX11_begun_2 : decode cX11_begun 2 = .ok (.invokestatic 267, 3) := by decide +kernel
theorem dX11_begun_5 : decode cX11_begun 5 = .ok (.iload_n 1, 1) := by decide +kernel
theorem dX11_begun_6 : decode cX11_begun 6 = .ok (.iconst 2, 1) := by decide +kernel
theorem dX11_begun_7 : decode cX11_begun 7 = .ok (.if_icmp .ne 18, 3) := by decide +kernel
theorem dX11_begun_10 : decode cX11_begun 10 = .ok (.aload_n 0, 1) := by decide +kernel
theorem dX11_begun_11 : decode cX11_begun 11 = .ok (.iconst (-1), 1) := by decide +kernel
theorem dX11_begun_12 : decode cX11_begun 12 = .ok (.iconst 0, 1) := by decide +kernel
theorem dX11_begun_13 : decode cX11_begun 13 = .ok (.invokevirtual 329, 3) := by decide +kernel
theorem dX11_begun_16 : decode cX11_begun 16 = .ok (.ifCond .eq 7, 3) := by decide +kernel
theorem dX11_begun_19 : decode cX11_begun 19 = .ok (.iconst 1, 1) := by decide +kernel
theorem dX11_begun_20 : decode cX11_begun 20 = .ok (.goto 4, 3) := by decide +kernel
theorem dX11_begun_23 : decode cX11_begun 23 = .ok (.iconst 0, 1) := by decide +kernel
theorem dX11_begun_24 : decode cX11_begun 24 = .ok (.ireturn, 1) := by decide +kernel
theorem dX11_begun_25 : decode cX11_begun 25 = .ok (.aload_n 0, 1) := by decide +kernel
theorem dX11_begun_26 : decode cX11_begun 26 = .ok (.invokevirtual 333, 3) := by decide +kernel
theorem dX11_begun_29 : decode cX11_begun 29 = .ok (.istore_n 2, 1) := by decide +kernel
theorem dX11_begun_30 : decode cX11_begun 30 = .ok (.iload_n 1, 1) := by decide +kernel
theorem dX11_begun_31 : decode cX11_begun 31 = .ok (.ifCond .ne 8, 3) := by decide +kernel
theorem dX11_begun_34 : decode cX11_begun 34 = .ok (.iload_n 2, 1) := by decide +kernel
theorem dX11_begun_35 : decode cX11_begun 35 = .ok (.invokestatic 274, 3) := by decide +kernel
theorem dX11_begun_38 : decode cX11_begun 38 = .ok (.ireturn, 1) := by decide +kernel
theorem dX11_begun_39 : decode cX11_begun 39 = .ok (.aload_n 0, 1) := by decide +kernel
theorem dX11_begun_40 : decode cX11_begun 40 = .ok (.iload_n 2, 1) := by decide +kernel
theorem dX11_begun_41 : decode cX11_begun 41 = .ok (.invokevirtual 336, 3) := by decide +kernel
theorem dX11_begun_44 : decode cX11_begun 44 = .ok (.ireturn, 1) := by decide +kernel
set_option maxRecDepth 20000 in
theorem ggX11_look_X11_needWhat : GoodIn wsX11_look wsX11_needWhat := goodIn_ca (goodIn_r _ [4, 5, 6] (by decide +kernel) (by decide +kernel)) (goodIn_sub (fun _ h => List.mem_cons_of_mem _ (List.mem_append_right _ h)) (by decide +kernel))
set_option maxRecDepth 20000 in
theorem gX11_look_X11_needWhat : GoodIn wsX11_look (va_wsS RX11 267 yX11_needWhat wsX11_needWhat) := goodIn_app (goodIn_of _ (by decide +kernel)) ggX11_look_X11_needWhat
set_option maxRecDepth 20000 in
theorem ggX11_look_X11_whoMayHaveBegun : GoodIn wsX11_look wsX11_whoMayHaveBegun := goodIn_r _ [10, 11, 12, 13, 14, 15, 16, 17, 18, 19, 20, 21, 22, 23, 3, 24, 25, 26, 27, 28, 29, 30, 31, 32, 33, 34, 35, 36, 37, 38, 39, 40, 41, 42, 43, 44, 45, 46, 47, 48, 49, 50, 51, 52, 53, 54, 55, 56, 57, 58, 59, 60, 61, 62, 63, 64, 65, 66, 67, 68, 69, 70, 71, 72, 73, 74, 75, 76, 77, 78, 79, 80, 81, 82, 83, 84, 85, 86, 87, 88, 89, 90, 91, 92, 93, 94, 95, 96, 97, 98, 99, 100, 101, 102, 103, 104, 105, 106, 107, 108, 109, 110, 111, 112, 113, 114, 115, 116, 117, 118, 119, 120, 121, 122, 123, 124, 125, 126, 127, 128, 129, 130, 131, 132, 133, 134, 135, 136, 137, 138, 139, 140, 141, 142, 143, 144, 145, 146, 155, 156, 157, 158, 159, 160, 161, 162, 163, 164, 165, 166, 167, 168, 169, 170, 171, 172, 173, 174, 175, 176, 177, 178, 179, 180, 181, 182, 183, 184, 185, 186, 187, 188, 189, 190, 191, 192, 193, 194, 195, 196, 197, 198, 199, 200, 201, 202, 203, 204] (by decide +kernel) (by decide +kernel)
set_option maxRecDepth 20000 in
theorem gX11_look_X11_whoMayHaveBegun : GoodIn wsX11_look (wsV RX11 333 RX11 yX11_whoMayHaveBegun wsX11_whoMayHaveBegun) := goodIn_app (goodIn_of _ (by decide +kernel)) ggX11_look_X11_whoMayHaveBegun
set_option maxRecDepth 20000 in
theorem ggX11_look_X11_howManyUnlike : GoodIn wsX11_look wsX11_howManyUnlike := goodIn_r _ [150, 11, 12, 151, 152, 153, 3, 154, 27, 155, 156, 157, 158, 159, 160, 161, 162, 163, 164, 165, 166, 167, 168, 169, 170, 171, 172, 173, 174, 175, 176, 177, 178] (by decide +kernel) (by decide +kernel)
set_option maxRecDepth 20000 in
theorem gX11_look_X11_howManyUnlike : GoodIn wsX11_look (wsV RX11 339 RX11 yX11_howManyUnlike wsX11_howManyUnlike) := goodIn_app (goodIn_of _ (by decide +kernel)) ggX11_look_X11_howManyUnlike
theorem dX11_look_0 : decode cX11_look 0 = .ok (.iload_n 1, 1) := by decide +kernel
theorem dX11_look_1 : decode cX11_look 1 = .ok (.iconst 1, 1) := by decide +kernel
theorem dX11_look_2 : decode cX11_look 2 = .ok (.invokestatic 267, 3) := by decide +kernel
theorem dX11_look_5 : decode cX11_look 5 = .ok (.aload_n 0, 1) := by decide +kernel
theorem dX11_look_6 : decode cX11_look 6 = .ok (.invokevirtual 333, 3) := by decide +kernel
theorem dX11_look_9 : decode cX11_look 9 = .ok (.istore_n 2, 1) := by decide +kernel
theorem dX11_look_10 : decode cX11_look 10 = .ok (.iconst 0, 1) := by decide +kernel
theorem dX11_look_11 : decode cX11_look 11 = .ok (.istore_n 3, 1) := by decide +kernel
theorem dX11_look_12 : decode cX11_look 12 = .ok (.iconst (-1), 1) := by decide +kernel
theorem dX11_look_13 : decode cX11_look 13 = .ok (.istore 4, 2) := by decide +kernel
theorem dX11_look_15 : decode cX11_look 15 = .ok (.iconst 1, 1) := by decide +kernel
theorem dX11_look_16 : decode cX11_look 16 = .ok (.istore 5, 2) := by decide +kernel
theorem dX11_look_18 : decode cX11_look 18 = .ok (.iload 5, 2) := by decide +kernel
theorem dX11_look_20 : decode cX11_look 20 = .ok (.bipush 20, 2) := by decide +kernel
theorem dX11_look_22 : decode cX11_look 22 = .ok (.if_icmp .gt 31, 3) := by decide +kernel
theorem dX11_look_25 : decode cX11_look 25 = .ok (.aload_n 0, 1) := by decide +kernel
theorem dX11_look_26 : decode cX11_look 26 = .ok (.iload_n 2, 1) := by decide +kernel
theorem dX11_look_27 : decode cX11_look 27 = .ok (.iload 5, 2) := by decide +kernel
theorem dX11_look_29 : decode cX11_look 29 = .ok (.invokevirtual 339, 3) := by decide +kernel
theorem dX11_look_32 : decode cX11_look 32 = .ok (.istore 6, 2) := by decide +kernel
theorem dX11_look_34 : decode cX11_look 34 = .ok (.iload 6, 2) := by decide +kernel
theorem dX11_look_36 : decode cX11_look 36 = .ok (.iload_n 3, 1) := by decide +kernel
theorem dX11_look_37 : decode cX11_look 37 = .ok (.if_icmp .le 10, 3) := by decide +kernel
theorem dX11_look_40 : decode cX11_look 40 = .ok (.iload 6, 2) := by decide +kernel
theorem dX11_look_42 : decode cX11_look 42 = .ok (.istore_n 3, 1) := by decide +kernel
theorem dX11_look_43 : decode cX11_look 43 = .ok (.iload 5, 2) := by decide +kernel
theorem dX11_look_45 : decode cX11_look 45 = .ok (.istore 4, 2) := by decide +kernel
theorem dX11_look_47 : decode cX11_look 47 = .ok (.iinc 5 1, 3) := by decide +kernel
theorem dX11_look_50 : decode cX11_look 50 = .ok (.goto (-32), 3) := by decide +kernel
theorem dX11_look_53 : decode cX11_look 53 = .ok (.iload_n 1, 1) := by decide +kernel
theorem dX11_look_54 : decode cX11_look 54 = .ok (.ifCond .ne 8, 3) := by decide +kernel
theorem dX11_look_57 : decode cX11_look 57 = .ok (.iload 4, 2) := by decide +kernel
theorem dX11_look_59 : decode cX11_look 59 = .ok (.goto 4, 3) := by decide +kernel
theorem dX11_look_62 : decode cX11_look 62 = .ok (.iload_n 3, 1) := by decide +kernel
theorem dX11_look_63 : decode cX11_look 63 = .ok (.ireturn, 1) := by decide +kernel
set_option maxRecDepth 20000 in
theorem ggX11_forget_X5_clear : GoodIn wsX11_forget wsX5_clear := goodIn_r _ [7, 8, 26, 27, 28, 29] (by decide +kernel) (by decide +kernel)
set_option maxRecDepth 20000 in
theorem gX11_forget_X5_clear : GoodIn wsX11_forget (wsV RX11 131 RX5 yX5_clear wsX5_clear) := goodIn_app (goodIn_of _ (by decide +kernel)) ggX11_forget_X5_clear
theorem dX11_forget_0 : decode cX11_forget 0 = .ok (.aload_n 0, 1) := by decide +kernel
theorem dX11_forget_1 : decode cX11_forget 1 = .ok (.getfield 36, 3) := by decide +kernel
theorem dX11_forget_4 : decode cX11_forget 4 = .ok (.getfield 127, 3) := by decide +kernel
theorem dX11_forget_7 : decode cX11_forget 7 = .ok (.invokevirtual 131, 3) := by decide +kernel
theorem dX11_forget_10 : decode cX11_forget 10 = .ok (.return_, 1) := by decide +kernel
set_option maxRecDepth 20000 in
theorem ggX11_whoMayHaveBegun_X7_sleeps : GoodIn wsX11_whoMayHaveBegun wsX7_sleeps := goodIn_r _ [9, 10, 166, 167, 168, 169, 170, 171] (by decide +kernel) (by decide +kernel)
set_option maxRecDepth 20000 in
theorem gX11_whoMayHaveBegun_X7_sleeps : GoodIn wsX11_whoMayHaveBegun (wsV RX11 247 RX7 yX7_sleeps wsX7_sleeps) := goodIn_app (goodIn_of _ (by decide +kernel)) ggX11_whoMayHaveBegun_X7_sleeps
set_option maxRecDepth 20000 in
theorem ggX11_whoMayHaveBegun_X11_isSoBy : GoodIn wsX11_whoMayHaveBegun wsX11_isSoBy := goodIn_r _ [15, 16, 3, 4, 17, 18, 19, 20, 21, 22, 23, 24, 25, 26, 27, 28, 29, 8, 30, 31, 10, 32, 33, 34, 35, 36, 14, 37, 38, 39, 40, 41, 42, 43, 44, 45, 46, 6, 7, 9, 47, 48, 49, 50, 51, 52, 53, 54, 55, 56, 57, 58, 59, 60, 61, 62, 63, 64, 65, 66, 67, 68, 69, 70, 71, 72, 73, 74, 75, 76, 77, 78, 79, 80, 81, 82, 83, 84, 85, 86, 87, 88, 89, 90, 91, 92, 93, 94, 95, 96, 97, 98, 99, 100, 101, 102, 103, 104, 105, 106, 107, 108, 109, 110, 111, 112, 113, 114, 115, 116, 117, 118, 119, 120, 121, 122, 123, 124, 125, 126, 127, 128, 129, 130, 131, 132, 133, 134, 135, 136, 137, 138, 139, 140, 141, 142, 143, 144, 145, 146, 147, 148, 149, 150, 162, 163, 164, 165, 172, 173, 174, 175, 176, 177, 166, 167, 168, 169, 170, 171, 151, 152, 153, 154, 155, 156, 157, 158, 159, 160, 161, 178, 179, 180, 181, 182, 183, 184, 185, 186, 187] (by decide +kernel) (by decide +kernel)
set_option maxRecDepth 20000 in
theorem gX11_whoMayHaveBegun_X11_isSoBy : GoodIn wsX11_whoMayHaveBegun (wsV RX11 329 RX11 yX11_isSoBy wsX11_isSoBy) := goodIn_app (goodIn_of _ (by decide +kernel)) ggX11_whoMayHaveBegun_X11_isSoBy
theorem dX11_whoMayHaveBegun_0 : decode cX11_whoMayHaveBegun 0 = .ok (.iconst 0, 1) := by decide +kernel
theorem dX11_whoMayHaveBegun_1 : decode cX11_whoMayHaveBegun 1 = .ok (.istore_n 1, 1) := by decide +kernel
theorem dX11_whoMayHaveBegun_2 : decode cX11_whoMayHaveBegun 2 = .ok (.iconst 0, 1) := by decide +kernel
theorem dX11_whoMayHaveBegun_3 : decode cX11_whoMayHaveBegun 3 = .ok (.istore_n 2, 1) := by decide +kernel
theorem dX11_whoMayHaveBegun_4 : decode cX11_whoMayHaveBegun 4 = .ok (.iload_n 2, 1) := by decide +kernel
theorem dX11_whoMayHaveBegun_5 : decode cX11_whoMayHaveBegun 5 = .ok (.aload_n 0, 1) := by decide +kernel
theorem dX11_whoMayHaveBegun_6 : decode cX11_whoMayHaveBegun 6 = .ok (.getfield 29, 3) := by decide +kernel
theorem dX11_whoMayHaveBegun_9 : decode cX11_whoMayHaveBegun 9 = .ok (.getfield 144, 3) := by decide +kernel
theorem dX11_whoMayHaveBegun_12 : decode cX11_whoMayHaveBegun 12 = .ok (.if_icmp .ge 41, 3) := by decide +kernel
theorem dX11_whoMayHaveBegun_15 : decode cX11_whoMayHaveBegun 15 = .ok (.aload_n 0, 1) := by decide +kernel
theorem dX11_whoMayHaveBegun_16 : decode cX11_whoMayHaveBegun 16 = .ok (.getfield 36, 3) := by decide +kernel
theorem dX11_whoMayHaveBegun_19 : decode cX11_whoMayHaveBegun 19 = .ok (.getfield 109, 3) := by decide +kernel
theorem dX11_whoMayHaveBegun_22 : decode cX11_whoMayHaveBegun 22 = .ok (.iload_n 2, 1) := by decide +kernel
theorem dX11_whoMayHaveBegun_23 : decode cX11_whoMayHaveBegun 23 = .ok (.invokevirtual 247, 3) := by decide +kernel
theorem dX11_whoMayHaveBegun_26 : decode cX11_whoMayHaveBegun 26 = .ok (.ifCond .ne 21, 3) := by decide +kernel
theorem dX11_whoMayHaveBegun_29 : decode cX11_whoMayHaveBegun 29 = .ok (.aload_n 0, 1) := by decide +kernel
theorem dX11_whoMayHaveBegun_30 : decode cX11_whoMayHaveBegun 30 = .ok (.iload_n 2, 1) := by decide +kernel
theorem dX11_whoMayHaveBegun_31 : decode cX11_whoMayHaveBegun 31 = .ok (.iload_n 2, 1) := by decide +kernel
theorem dX11_whoMayHaveBegun_32 : decode cX11_whoMayHaveBegun 32 = .ok (.bipush 20, 2) := by decide +kernel
theorem dX11_whoMayHaveBegun_34 : decode cX11_whoMayHaveBegun 34 = .ok (.imul, 1) := by decide +kernel
theorem dX11_whoMayHaveBegun_35 : decode cX11_whoMayHaveBegun 35 = .ok (.invokevirtual 329, 3) := by decide +kernel
theorem dX11_whoMayHaveBegun_38 : decode cX11_whoMayHaveBegun 38 = .ok (.ifCond .eq 9, 3) := by decide +kernel
theorem dX11_whoMayHaveBegun_41 : decode cX11_whoMayHaveBegun 41 = .ok (.iload_n 1, 1) := by decide +kernel
theorem dX11_whoMayHaveBegun_42 : decode cX11_whoMayHaveBegun 42 = .ok (.iconst 1, 1) := by decide +kernel
theorem dX11_whoMayHaveBegun_43 : decode cX11_whoMayHaveBegun 43 = .ok (.iload_n 2, 1) := by decide +kernel
theorem dX11_whoMayHaveBegun_44 : decode cX11_whoMayHaveBegun 44 = .ok (.ishl, 1) := by decide +kernel
theorem dX11_whoMayHaveBegun_45 : decode cX11_whoMayHaveBegun 45 = .ok (.ior, 1) := by decide +kernel
theorem dX11_whoMayHaveBegun_46 : decode cX11_whoMayHaveBegun 46 = .ok (.istore_n 1, 1) := by decide +kernel
theorem dX11_whoMayHaveBegun_47 : decode cX11_whoMayHaveBegun 47 = .ok (.iinc 2 1, 3) := by decide +kernel
theorem dX11_whoMayHaveBegun_50 : decode cX11_whoMayHaveBegun 50 = .ok (.goto (-46), 3) := by decide +kernel
theorem dX11_whoMayHaveBegun_53 : decode cX11_whoMayHaveBegun 53 = .ok (.iload_n 1, 1) := by decide +kernel
theorem dX11_whoMayHaveBegun_54 : decode cX11_whoMayHaveBegun 54 = .ok (.ireturn, 1) := by decide +kernel
theorem dX11_leastOf_0 : decode cX11_leastOf 0 = .ok (.iconst 0, 1) := by decide +kernel
theorem dX11_leastOf_1 : decode cX11_leastOf 1 = .ok (.istore_n 2, 1) := by decide +kernel
theorem dX11_leastOf_2 : decode cX11_leastOf 2 = .ok (.iload_n 2, 1) := by decide +kernel
theorem dX11_leastOf_3 : decode cX11_leastOf 3 = .ok (.aload_n 0, 1) := by decide +kernel
theorem dX11_leastOf_4 : decode cX11_leastOf 4 = .ok (.getfield 29, 3) := by decide +kernel
theorem dX11_leastOf_7 : decode cX11_leastOf 7 = .ok (.getfield 144, 3) := by decide +kernel
theorem dX11_leastOf_10 : decode cX11_leastOf 10 = .ok (.if_icmp .ge 20, 3) := by decide +kernel
theorem dX11_leastOf_13 : decode cX11_leastOf 13 = .ok (.iload_n 1, 1) := by decide +kernel
theorem dX11_leastOf_14 : decode cX11_leastOf 14 = .ok (.iload_n 2, 1) := by decide +kernel
theorem dX11_leastOf_15 : decode cX11_leastOf 15 = .ok (.ishr, 1) := by decide +kernel
theorem dX11_leastOf_16 : decode cX11_leastOf 16 = .ok (.iconst 1, 1) := by decide +kernel
theorem dX11_leastOf_17 : decode cX11_leastOf 17 = .ok (.iand, 1) := by decide +kernel
theorem dX11_leastOf_18 : decode cX11_leastOf 18 = .ok (.iconst 1, 1) := by decide +kernel
theorem dX11_leastOf_19 : decode cX11_leastOf 19 = .ok (.if_icmp .ne 5, 3) := by decide +kernel
theorem dX11_leastOf_22 : decode cX11_leastOf 22 = .ok (.iload_n 2, 1) := by decide +kernel
theorem dX11_leastOf_23 : decode cX11_leastOf 23 = .ok (.ireturn, 1) := by decide +kernel
theorem dX11_leastOf_24 : decode cX11_leastOf 24 = .ok (.iinc 2 1, 3) := by decide +kernel
theorem dX11_leastOf_27 : decode cX11_leastOf 27 = .ok (.goto (-25), 3) := by decide +kernel
theorem dX11_leastOf_30 : decode cX11_leastOf 30 = .ok (.iconst (-1), 1) := by decide +kernel
theorem dX11_leastOf_31 : decode cX11_leastOf 31 = .ok (.ireturn, 1) := by decide +kernel
set_option maxRecDepth 20000 in
theorem ggX11_isSoBy_X2_start : GoodIn wsX11_isSoBy wsX2_start := goodIn_r _ [11, 12, 13, 14, 15, 16, 17, 18, 19, 20, 21, 22, 23, 24, 25, 26, 27, 28, 29, 30, 31, 148, 149, 150, 151, 152, 153, 154, 155, 156, 157, 158, 159] (by decide +kernel) (by decide +kernel)
set_option maxRecDepth 20000 in
theorem gX11_isSoBy_X2_start : GoodIn wsX11_isSoBy (wsV RX11 238 RX2 yX2_start wsX2_start) := goodIn_app (goodIn_of _ (by decide +kernel)) ggX11_isSoBy_X2_start
set_option maxRecDepth 20000 in
theorem ggX11_isSoBy_X7_startNod : GoodIn wsX11_isSoBy wsX7_startNod := goodIn_r _ [35, 21, 36, 37, 38, 17, 39, 20, 154, 155, 156, 157, 158, 159] (by decide +kernel) (by decide +kernel)
set_option maxRecDepth 20000 in
theorem gX11_isSoBy_X7_startNod : GoodIn wsX11_isSoBy (wsV RX11 250 RX7 yX7_startNod wsX7_startNod) := goodIn_app (goodIn_of _ (by decide +kernel)) ggX11_isSoBy_X7_startNod
set_option maxRecDepth 20000 in
theorem ggX11_isSoBy_X2_go : GoodIn wsX11_isSoBy wsX2_go := goodIn_r _ [43, 44, 45, 12, 46, 47, 48, 49, 50, 51, 52, 53, 54, 55, 56, 10, 57, 58, 59, 60, 61, 62, 63, 64, 65, 66, 67, 68, 69, 70, 71, 13, 72, 73, 74, 75, 76, 77, 78, 79, 80, 81, 82, 83, 84, 85, 86, 87, 88, 89, 90, 91, 92, 93, 94, 95, 96, 97, 98, 99, 100, 101, 102, 103, 104, 105, 106, 107, 108, 109, 110, 111, 112, 113, 114, 115, 116, 117, 118, 119, 120, 121, 148, 149, 150, 151, 152, 153, 154, 155, 156, 157, 158, 159, 160, 161, 162, 163, 164, 165, 166, 167, 168, 169, 170, 171, 172, 173, 174, 175, 176] (by decide +kernel) (by decide +kernel)
set_option maxRecDepth 20000 in
theorem gX11_isSoBy_X2_go : GoodIn wsX11_isSoBy (wsV RX11 241 RX2 yX2_go wsX2_go) := goodIn_app (goodIn_of _ (by decide +kernel)) ggX11_isSoBy_X2_go
set_option maxRecDepth 20000 in
theorem ggX11_isSoBy_X5_agrees : GoodIn wsX11_isSoBy wsX5_agrees := goodIn_r _ [126, 127, 128, 129, 130, 177, 178, 179, 180] (by decide +kernel) (by decide +kernel)
set_option maxRecDepth 20000 in
theorem gX11_isSoBy_X5_agrees : GoodIn wsX11_isSoBy (wsV RX11 342 RX5 yX5_agrees wsX5_agrees) := goodIn_app (goodIn_of _ (by decide +kernel)) ggX11_isSoBy_X5_agrees
theorem dX11_isSoBy_0 : decode cX11_isSoBy 0 = .ok (.aload_n 0, 1) := by decide +kernel
theorem dX11_isSoBy_1 : decode cX11_isSoBy 1 = .ok (.getfield 71, 3) := by decide +kernel
theorem dX11_isSoBy_4 : decode cX11_isSoBy 4 = .ok (.aload_n 0, 1) := by decide +kernel
theorem dX11_isSoBy_5 : decode cX11_isSoBy 5 = .ok (.getfield 36, 3) := by decide +kernel
theorem dX11_isSoBy_8 : decode cX11_isSoBy 8 = .ok (.getfield 109, 3) := by decide +kernel
theorem dX11_isSoBy_11 : decode cX11_isSoBy 11 = .ok (.invokevirtual 238, 3) := by decide +kernel
theorem dX11_isSoBy_14 : decode cX11_isSoBy 14 = .ok (.iload_n 1, 1) := by decide +kernel
theorem dX11_isSoBy_15 : decode cX11_isSoBy 15 = .ok (.iconst (-1), 1) := by decide +kernel
theorem dX11_isSoBy_16 : decode cX11_isSoBy 16 = .ok (.if_icmp .eq 14, 3) := by decide +kernel
theorem dX11_isSoBy_19 : decode cX11_isSoBy 19 = .ok (.aload_n 0, 1) := by decide +kernel
theorem dX11_isSoBy_20 : decode cX11_isSoBy 20 = .ok (.getfield 71, 3) := by decide +kernel
theorem dX11_isSoBy_23 : decode cX11_isSoBy 23 = .ok (.getfield 244, 3) := by decide +kernel
theorem dX11_isSoBy_26 : decode cX11_isSoBy 26 = .ok (.iload_n 1, 1) := by decide +kernel
theorem dX11_isSoBy_27 : decode cX11_isSoBy 27 = .ok (.invokevirtual 250, 3) := by decide +kernel
theorem dX11_isSoBy_30 : decode cX11_isSoBy 30 = .ok (.iconst 0, 1) := by decide +kernel
theorem dX11_isSoBy_31 : decode cX11_isSoBy 31 = .ok (.istore_n 3, 1) := by decide +kernel
theorem dX11_isSoBy_32 : decode cX11_isSoBy 32 = .ok (.iload_n 3, 1) := by decide +kernel
theorem dX11_isSoBy_33 : decode cX11_isSoBy 33 = .ok (.bipush 20, 2) := by decide +kernel
theorem dX11_isSoBy_35 : decode cX11_isSoBy 35 = .ok (.if_icmp .ge 35, 3) := by decide +kernel
theorem dX11_isSoBy_38 : decode cX11_isSoBy 38 = .ok (.iload_n 2, 1) := by decide +kernel
theorem dX11_isSoBy_39 : decode cX11_isSoBy 39 = .ok (.iload_n 3, 1) := by decide +kernel
theorem dX11_isSoBy_40 : decode cX11_isSoBy 40 = .ok (.iadd, 1) := by decide +kernel
theorem dX11_isSoBy_41 : decode cX11_isSoBy 41 = .ok (.aload_n 0, 1) := by decide +kernel
theorem dX11_isSoBy_42 : decode cX11_isSoBy 42 = .ok (.getfield 75, 3) := by decide +kernel
theorem dX11_isSoBy_45 : decode cX11_isSoBy 45 = .ok (.arraylength, 1) := by decide +kernel
theorem dX11_isSoBy_46 : decode cX11_isSoBy 46 = .ok (.if_icmp .ge 24, 3) := by decide +kernel
theorem dX11_isSoBy_49 : decode cX11_isSoBy 49 = .ok (.aload_n 0, 1) := by decide +kernel
theorem dX11_isSoBy_50 : decode cX11_isSoBy 50 = .ok (.getfield 75, 3) := by decide +kernel
theorem dX11_isSoBy_53 : decode cX11_isSoBy 53 = .ok (.iload_n 2, 1) := by decide +kernel
theorem dX11_isSoBy_54 : decode cX11_isSoBy 54 = .ok (.iload_n 3, 1) := by decide +kernel
theorem dX11_isSoBy_55 : decode cX11_isSoBy 55 = .ok (.iadd, 1) := by decide +kernel
theorem dX11_isSoBy_56 : decode cX11_isSoBy 56 = .ok (.aload_n 0, 1) := by decide +kernel
theorem dX11_isSoBy_57 : decode cX11_isSoBy 57 = .ok (.getfield 71, 3) := by decide +kernel
theorem dX11_isSoBy_60 : decode cX11_isSoBy 60 = .ok (.invokevirtual 241, 3) := by decide +kernel
theorem dX11_isSoBy_63 : decode cX11_isSoBy 63 = .ok (.iastore, 1) := by decide +kernel
theorem dX11_isSoBy_64 : decode cX11_isSoBy 64 = .ok (.iinc 3 1, 3) := by decide +kernel
theorem dX11_isSoBy_67 : decode cX11_isSoBy 67 = .ok (.goto (-35), 3) := by decide +kernel
theorem dX11_isSoBy_70 : decode cX11_isSoBy 70 = .ok (.aload_n 0, 1) := by decide +kernel
theorem dX11_isSoBy_71 : decode cX11_isSoBy 71 = .ok (.getfield 36, 3) := by decide +kernel
theorem dX11_isSoBy_74 : decode cX11_isSoBy 74 = .ok (.getfield 127, 3) := by decide +kernel
theorem dX11_isSoBy_77 : decode cX11_isSoBy 77 = .ok (.aload_n 0, 1) := by decide +kernel
theorem dX11_isSoBy_78 : decode cX11_isSoBy 78 = .ok (.getfield 75, 3) := by decide +kernel
theorem dX11_isSoBy_81 : decode cX11_isSoBy 81 = .ok (.iload_n 2, 1) := by decide +kernel
theorem dX11_isSoBy_82 : decode cX11_isSoBy 82 = .ok (.invokevirtual 342, 3) := by decide +kernel
theorem dX11_isSoBy_85 : decode cX11_isSoBy 85 = .ok (.ireturn, 1) := by decide +kernel
set_option maxRecDepth 20000 in
theorem ggX11_howManyUnlike_X11_isForeseenBefore : GoodIn wsX11_howManyUnlike wsX11_isForeseenBefore := goodIn_r _ [7, 8, 9, 10, 11, 12, 13, 14, 15, 16, 17, 18, 19, 20, 21] (by decide +kernel) (by decide +kernel)
set_option maxRecDepth 20000 in
theorem gX11_howManyUnlike_X11_isForeseenBefore : GoodIn wsX11_howManyUnlike (wsV RX11 346 RX11 yX11_isForeseenBefore wsX11_isForeseenBefore) := goodIn_app (goodIn_of _ (by decide +kernel)) ggX11_howManyUnlike_X11_isForeseenBefore
theorem dX11_howManyUnlike_0 : decode cX11_howManyUnlike 0 = .ok (.iconst 0, 1) := by decide +kernel
theorem dX11_howManyUnlike_1 : decode cX11_howManyUnlike 1 = .ok (.istore_n 3, 1) := by decide +kernel
theorem dX11_howManyUnlike_2 : decode cX11_howManyUnlike 2 = .ok (.iconst 0, 1) := by decide +kernel
theorem dX11_howManyUnlike_3 : decode cX11_howManyUnlike 3 = .ok (.istore 4, 2) := by decide +kernel
theorem dX11_howManyUnlike_5 : decode cX11_howManyUnlike 5 = .ok (.iload 4, 2) := by decide +kernel
theorem dX11_howManyUnlike_7 : decode cX11_howManyUnlike 7 = .ok (.aload_n 0, 1) := by decide +kernel
theorem dX11_howManyUnlike_8 : decode cX11_howManyUnlike 8 = .ok (.getfield 29, 3) := by decide +kernel
theorem dX11_howManyUnlike_11 : decode cX11_howManyUnlike 11 = .ok (.getfield 144, 3) := by decide +kernel
theorem dX11_howManyUnlike_14 : decode cX11_howManyUnlike 14 = .ok (.if_icmp .ge 33, 3) := by decide +kernel
theorem dX11_howManyUnlike_17 : decode cX11_howManyUnlike 17 = .ok (.iload_n 1, 1) := by decide +kernel
theorem dX11_howManyUnlike_18 : decode cX11_howManyUnlike 18 = .ok (.iload 4, 2) := by decide +kernel
theorem dX11_howManyUnlike_20 : decode cX11_howManyUnlike 20 = .ok (.ishr, 1) := by decide +kernel
theorem dX11_howManyUnlike_21 : decode cX11_howManyUnlike 21 = .ok (.iconst 1, 1) := by decide +kernel
theorem dX11_howManyUnlike_22 : decode cX11_howManyUnlike 22 = .ok (.iand, 1) := by decide +kernel
theorem dX11_howManyUnlike_23 : decode cX11_howManyUnlike 23 = .ok (.iconst 1, 1) := by decide +kernel
theorem dX11_howManyUnlike_24 : decode cX11_howManyUnlike 24 = .ok (.if_icmp .ne 17, 3) := by decide +kernel
theorem dX11_howManyUnlike_27 : decode cX11_howManyUnlike 27 = .ok (.aload_n 0, 1) := by decide +kernel
theorem dX11_howManyUnlike_28 : decode cX11_howManyUnlike 28 = .ok (.iload_n 1, 1) := by decide +kernel
theorem dX11_howManyUnlike_29 : decode cX11_howManyUnlike 29 = .ok (.iload 4, 2) := by decide +kernel
theorem dX11_howManyUnlike_31 : decode cX11_howManyUnlike 31 = .ok (.iload_n 2, 1) := by decide +kernel
theorem dX11_howManyUnlike_32 : decode cX11_howManyUnlike 32 = .ok (.invokevirtual 346, 3) := by decide +kernel
theorem dX11_howManyUnlike_35 : decode cX11_howManyUnlike 35 = .ok (.ifCond .ne 6, 3) := by decide +kernel
theorem dX11_howManyUnlike_38 : decode cX11_howManyUnlike 38 = .ok (.iinc 3 1, 3) := by decide +kernel
theorem dX11_howManyUnlike_41 : decode cX11_howManyUnlike 41 = .ok (.iinc 4 1, 3) := by decide +kernel
theorem dX11_howManyUnlike_44 : decode cX11_howManyUnlike 44 = .ok (.goto (-39), 3) := by decide +kernel
theorem dX11_howManyUnlike_47 : decode cX11_howManyUnlike 47 = .ok (.iload_n 3, 1) := by decide +kernel
theorem dX11_howManyUnlike_48 : decode cX11_howManyUnlike 48 = .ok (.ireturn, 1) := by decide +kernel
theorem dX11_isForeseenBefore_0 : decode cX11_isForeseenBefore 0 = .ok (.aload_n 0, 1) := by decide +kernel
theorem dX11_isForeseenBefore_1 : decode cX11_isForeseenBefore 1 = .ok (.getfield 75, 3) := by decide +kernel
theorem dX11_isForeseenBefore_4 : decode cX11_isForeseenBefore 4 = .ok (.iload_n 2, 1) := by decide +kernel
theorem dX11_isForeseenBefore_5 : decode cX11_isForeseenBefore 5 = .ok (.bipush 20, 2) := by decide +kernel
theorem dX11_isForeseenBefore_7 : decode cX11_isForeseenBefore 7 = .ok (.imul, 1) := by decide +kernel
theorem dX11_isForeseenBefore_8 : decode cX11_isForeseenBefore 8 = .ok (.iload_n 3, 1) := by decide +kernel
theorem dX11_isForeseenBefore_9 : decode cX11_isForeseenBefore 9 = .ok (.iadd, 1) := by decide +kernel
theorem dX11_isForeseenBefore_10 : decode cX11_isForeseenBefore 10 = .ok (.iconst 1, 1) := by decide +kernel
theorem dX11_isForeseenBefore_11 : decode cX11_isForeseenBefore 11 = .ok (.isub, 1) := by decide +kernel
theorem dX11_isForeseenBefore_12 : decode cX11_isForeseenBefore 12 = .ok (.iaload, 1) := by decide +kernel
theorem dX11_isForeseenBefore_13 : decode cX11_isForeseenBefore 13 = .ok (.istore 4, 2) := by decide +kernel
theorem dX11_isForeseenBefore_15 : decode cX11_isForeseenBefore 15 = .ok (.iconst 0, 1) := by decide +kernel
theorem dX11_isForeseenBefore_16 : decode cX11_isForeseenBefore 16 = .ok (.istore 5, 2) := by decide +kernel
theorem dX11_isForeseenBefore_18 : decode cX11_isForeseenBefore 18 = .ok (.iload 5, 2) := by decide +kernel
theorem dX11_isForeseenBefore_20 : decode cX11_isForeseenBefore 20 = .ok (.iload_n 2, 1) := by decide +kernel
theorem dX11_isForeseenBefore_21 : decode cX11_isForeseenBefore 21 = .ok (.if_icmp .ge 40, 3) := by decide +kernel
theorem dX11_isForeseenBefore_24 : decode cX11_isForeseenBefore 24 = .ok (.iload_n 1, 1) := by decide +kernel
theorem dX11_isForeseenBefore_25 : decode cX11_isForeseenBefore 25 = .ok (.iload 5, 2) := by decide +kernel
theorem dX11_isForeseenBefore_27 : decode cX11_isForeseenBefore 27 = .ok (.ishr, 1) := by decide +kernel
theorem dX11_isForeseenBefore_28 : decode cX11_isForeseenBefore 28 = .ok (.iconst 1, 1) := by decide +kernel
theorem dX11_isForeseenBefore_29 : decode cX11_isForeseenBefore 29 = .ok (.iand, 1) := by decide +kernel
theorem dX11_isForeseenBefore_30 : decode cX11_isForeseenBefore 30 = .ok (.iconst 1, 1) := by decide +kernel
theorem dX11_isForeseenBefore_31 : decode cX11_isForeseenBefore 31 = .ok (.if_icmp .ne 24, 3) := by decide +kernel
theorem dX11_isForeseenBefore_34 : decode cX11_isForeseenBefore 34 = .ok (.aload_n 0, 1) := by decide +kernel
theorem dX11_isForeseenBefore_35 : decode cX11_isForeseenBefore 35 = .ok (.getfield 75, 3) := by decide +kernel
theorem dX11_isForeseenBefore_38 : decode cX11_isForeseenBefore 38 = .ok (.iload 5, 2) := by decide +kernel
theorem dX11_isForeseenBefore_40 : decode cX11_isForeseenBefore 40 = .ok (.bipush 20, 2) := by decide +kernel
theorem dX11_isForeseenBefore_42 : decode cX11_isForeseenBefore 42 = .ok (.imul, 1) := by decide +kernel
theorem dX11_isForeseenBefore_43 : decode cX11_isForeseenBefore 43 = .ok (.iload_n 3, 1) := by decide +kernel
theorem dX11_isForeseenBefore_44 : decode cX11_isForeseenBefore 44 = .ok (.iadd, 1) := by decide +kernel
theorem dX11_isForeseenBefore_45 : decode cX11_isForeseenBefore 45 = .ok (.iconst 1, 1) := by decide +kernel
theorem dX11_isForeseenBefore_46 : decode cX11_isForeseenBefore 46 = .ok (.isub, 1) := by decide +kernel
theorem dX11_isForeseenBefore_47 : decode cX11_isForeseenBefore 47 = .ok (.iaload, 1) := by decide +kernel
theorem dX11_isForeseenBefore_48 : decode cX11_isForeseenBefore 48 = .ok (.iload 4, 2) := by decide +kernel
theorem dX11_isForeseenBefore_50 : decode cX11_isForeseenBefore 50 = .ok (.if_icmp .ne 5, 3) := by decide +kernel
theorem dX11_isForeseenBefore_53 : decode cX11_isForeseenBefore 53 = .ok (.iconst 1, 1) := by decide +kernel
theorem dX11_isForeseenBefore_54 : decode cX11_isForeseenBefore 54 = .ok (.ireturn, 1) := by decide +kernel
theorem dX11_isForeseenBefore_55 : decode cX11_isForeseenBefore 55 = .ok (.iinc 5 1, 3) := by decide +kernel
theorem dX11_isForeseenBefore_58 : decode cX11_isForeseenBefore 58 = .ok (.goto (-40), 3) := by decide +kernel
theorem dX11_isForeseenBefore_61 : decode cX11_isForeseenBefore 61 = .ok (.iconst 0, 1) := by decide +kernel
theorem dX11_isForeseenBefore_62 : decode cX11_isForeseenBefore 62 = .ok (.ireturn, 1) := by decide +kernel
set_option maxRecDepth 20000 in
theorem ggX11_byMist_X11_needFarm : GoodIn wsX11_byMist wsX11_needFarm := goodIn_ca (goodIn_r _ [11, 12, 13, 14, 15, 116, 117, 118, 119, 120, 121, 122, 123, 124, 125, 126, 127, 128, 145, 146, 147, 148, 149, 150, 151, 152, 153, 154, 155] (by decide +kernel) (by decide +kernel)) (goodIn_sub (fun _ h => List.mem_cons_of_mem _ (List.mem_append_left _ (List.mem_append_right _ h))) (by decide +kernel))
set_option maxRecDepth 20000 in
theorem gX11_byMist_X11_needFarm : GoodIn wsX11_byMist (wsV RX11 187 RX11 yX11_needFarm wsX11_needFarm) := goodIn_app (goodIn_of _ (by decide +kernel)) ggX11_byMist_X11_needFarm
set_option maxRecDepth 20000 in
theorem ggX11_byMist_X11_needWithin : GoodIn wsX11_byMist wsX11_needWithin := goodIn_ca (goodIn_r _ [18, 19, 20] (by decide +kernel) (by decide +kernel)) (goodIn_sub (fun _ h => List.mem_cons_of_mem _ (List.mem_append_right _ h)) (by decide +kernel))
set_option maxRecDepth 20000 in
theorem gX11_byMist_X11_needWithin : GoodIn wsX11_byMist (va_wsS RX11 263 yX11_needWithin wsX11_needWithin) := goodIn_app (goodIn_of _ (by decide +kernel)) ggX11_byMist_X11_needWithin
set_option maxRecDepth 20000 in
theorem ggX11_byMist_X2_start : GoodIn wsX11_byMist wsX2_start := goodIn_r _ [25, 26, 27, 28, 29, 30, 31, 32, 33, 34, 35, 36, 37, 38, 39, 10, 40, 41, 42, 43, 44, 133, 134, 135, 136, 137, 138, 139, 140, 141, 142, 143, 144] (by decide +kernel) (by decide +kernel)
set_option maxRecDepth 20000 in
theorem gX11_byMist_X2_start : GoodIn wsX11_byMist (wsV RX11 238 RX2 yX2_start wsX2_start) := goodIn_app (goodIn_of _ (by decide +kernel)) ggX11_byMist_X2_start
set_option maxRecDepth 20000 in
theorem ggX11_byMist_X2_step : GoodIn wsX11_byMist wsX2_step := goodIn_r _ [48, 49, 50, 26, 51, 52, 53, 54, 55, 56, 24, 57, 58, 59, 60, 61, 62, 63, 64, 27, 65, 66, 67, 68, 69, 70, 71, 72, 73, 74, 75, 76, 77, 78, 79, 80, 81, 82, 83, 84, 85, 86, 87, 88, 89, 90, 91, 92, 93, 94, 95, 96, 97, 98, 99, 100, 101, 102, 103, 104, 105, 106, 107, 108, 109, 110, 111, 112, 113, 114, 115, 133, 134, 135, 136, 137, 138, 145, 146, 147, 148, 149, 150, 151, 152, 153, 154, 155, 139, 140, 141, 142, 143, 144, 156, 157, 158, 159, 160, 161] (by decide +kernel) (by decide +kernel)
set_option maxRecDepth 20000 in
theorem gX11_byMist_X2_step : GoodIn wsX11_byMist (wsV RX11 349 RX2 yX2_step wsX2_step) := goodIn_app (goodIn_of _ (by decide +kernel)) ggX11_byMist_X2_step
theorem dX11_byMist_0 : decode cX11_byMist 0 = .ok (.aload_n 0, 1) := by decide +kernel
theorem dX11_byMist_1 : decode cX11_byMist 1 = .ok (.iload_n 1, 1) := by decide +kernel
theorem dX11_byMist_2 : decode cX11_byMist 2 = .ok (.invokevirtual 187, 3) := by decide +kernel
theorem dX11_byMist_5 : decode cX11_byMist 5 = .ok (.iload_n 2, 1) := by decide +kernel
theorem dX11_byMist_6 : decode cX11_byMist 6 = .ok (.iconst 1, 1) := by decide +kernel
theorem dX11_byMist_7 : decode cX11_byMist 7 = .ok (.iconst 5, 1) := by decide +kernel
theorem dX11_byMist_8 : decode cX11_byMist 8 = .ok (.invokestatic 263, 3) := by decide +kernel
theorem dX11_byMist_11 : decode cX11_byMist 11 = .ok (.iload_n 3, 1) := by decide +kernel
theorem dX11_byMist_12 : decode cX11_byMist 12 = .ok (.iconst 0, 1) := by decide +kernel
theorem dX11_byMist_13 : decode cX11_byMist 13 = .ok (.bipush 10, 2) := by decide +kernel
theorem dX11_byMist_15 : decode cX11_byMist 15 = .ok (.invokestatic 263, 3) := by decide +kernel
theorem dX11_byMist_18 : decode cX11_byMist 18 = .ok (.iconst 0, 1) := by decide +kernel
theorem dX11_byMist_19 : decode cX11_byMist 19 = .ok (.istore 4, 2) := by decide +kernel
theorem dX11_byMist_21 : decode cX11_byMist 21 = .ok (.iconst 0, 1) := by decide +kernel
theorem dX11_byMist_22 : decode cX11_byMist 22 = .ok (.istore 5, 2) := by decide +kernel
theorem dX11_byMist_24 : decode cX11_byMist 24 = .ok (.iload 5, 2) := by decide +kernel
theorem dX11_byMist_26 : decode cX11_byMist 26 = .ok (.iconst 1, 1) := by decide +kernel
theorem dX11_byMist_27 : decode cX11_byMist 27 = .ok (.iload_n 2, 1) := by decide +kernel
theorem dX11_byMist_28 : decode cX11_byMist 28 = .ok (.ishl, 1) := by decide +kernel
theorem dX11_byMist_29 : decode cX11_byMist 29 = .ok (.if_icmp .ge 134, 3) := by decide +kernel
theorem dX11_byMist_32 : decode cX11_byMist 32 = .ok (.aload_n 0, 1) := by decide +kernel
theorem dX11_byMist_33 : decode cX11_byMist 33 = .ok (.getfield 71, 3) := by decide +kernel
theorem dX11_byMist_36 : decode cX11_byMist 36 = .ok (.aload_n 0, 1) := by decide +kernel
theorem dX11_byMist_37 : decode cX11_byMist 37 = .ok (.getfield 36, 3) := by decide +kernel
theorem dX11_byMist_40 : decode cX11_byMist 40 = .ok (.getfield 109, 3) := by decide +kernel
theorem dX11_byMist_43 : decode cX11_byMist 43 = .ok (.invokevirtual 238, 3) := by decide +kernel
theorem dX11_byMist_46 : decode cX11_byMist 46 = .ok (.iconst 1, 1) := by decide +kernel
theorem dX11_byMist_47 : decode cX11_byMist 47 = .ok (.istore 6, 2) := by decide +kernel
theorem dX11_byMist_49 : decode cX11_byMist 49 = .ok (.iconst 0, 1) := by decide +kernel
theorem dX11_byMist_50 : decode cX11_byMist 50 = .ok (.istore 7, 2) := by decide +kernel
theorem dX11_byMist_52 : decode cX11_byMist 52 = .ok (.iload 7, 2) := by decide +kernel
theorem dX11_byMist_54 : decode cX11_byMist 54 = .ok (.iload_n 2, 1) := by decide +kernel
theorem dX11_byMist_55 : decode cX11_byMist 55 = .ok (.if_icmp .ge 68, 3) := by decide +kernel
theorem dX11_byMist_58 : decode cX11_byMist 58 = .ok (.iload 5, 2) := by decide +kernel
theorem dX11_byMist_60 : decode cX11_byMist 60 = .ok (.iload 7, 2) := by decide +kernel
theorem dX11_byMist_62 : decode cX11_byMist 62 = .ok (.ishr, 1) := by decide +kernel
theorem dX11_byMist_63 : decode cX11_byMist 63 = .ok (.iconst 1, 1) := by decide +kernel
theorem dX11_byMist_64 : decode cX11_byMist 64 = .ok (.iand, 1) := by decide +kernel
theorem dX11_byMist_65 : decode cX11_byMist 65 = .ok (.iconst 1, 1) := by decide +kernel
theorem dX11_byMist_66 : decode cX11_byMist 66 = .ok (.if_icmp .ne 7, 3) := by decide +kernel
theorem dX11_byMist_69 : decode cX11_byMist 69 = .ok (.iconst 1, 1) := by decide +kernel
theorem dX11_byMist_70 : decode cX11_byMist 70 = .ok (.goto 4, 3) := by decide +kernel
theorem dX11_byMist_73 : decode cX11_byMist 73 = .ok (.iconst 0, 1) := by decide +kernel
theorem dX11_byMist_74 : decode cX11_byMist 74 = .ok (.istore 8, 2) := by decide +kernel
theorem dX11_byMist_76 : decode cX11_byMist 76 = .ok (.iload 6, 2) := by decide +kernel
theorem dX11_byMist_78 : decode cX11_byMist 78 = .ok (.iload 8, 2) := by decide +kernel
theorem dX11_byMist_80 : decode cX11_byMist 80 = .ok (.ifCond .eq 7, 3) := by decide +kernel
theorem dX11_byMist_83 : decode cX11_byMist 83 = .ok (.iload_n 3, 1) := by decide +kernel
theorem dX11_byMist_84 : decode cX11_byMist 84 = .ok (.goto 7, 3) := by decide +kernel
theorem dX11_byMist_87 : decode cX11_byMist 87 = .ok (.bipush 10, 2) := by decide +kernel
theorem dX11_byMist_89 : decode cX11_byMist 89 = .ok (.iload_n 3, 1) := by decide +kernel
theorem dX11_byMist_90 : decode cX11_byMist 90 = .ok (.isub, 1) := by decide +kernel
theorem dX11_byMist_91 : decode cX11_byMist 91 = .ok (.imul, 1) := by decide +kernel
theorem dX11_byMist_92 : decode cX11_byMist 92 = .ok (.istore 6, 2) := by decide +kernel
theorem dX11_byMist_94 : decode cX11_byMist 94 = .ok (.aload_n 0, 1) := by decide +kernel
theorem dX11_byMist_95 : decode cX11_byMist 95 = .ok (.getfield 71, 3) := by decide +kernel
theorem dX11_byMist_98 : decode cX11_byMist 98 = .ok (.aload_n 0, 1) := by decide +kernel
theorem dX11_byMist_99 : decode cX11_byMist 99 = .ok (.getfield 52, 3) := by decide +kernel
theorem dX11_byMist_102 : decode cX11_byMist 102 = .ok (.iload 8, 2) := by decide +kernel
theorem dX11_byMist_104 : decode cX11_byMist 104 = .ok (.ifCond .eq 8, 3) := by decide +kernel
theorem dX11_byMist_107 : decode cX11_byMist 107 = .ok (.bipush 9, 2) := by decide +kernel
theorem dX11_byMist_109 : decode cX11_byMist 109 = .ok (.goto 4, 3) := by decide +kernel
theorem dX11_byMist_112 : decode cX11_byMist 112 = .ok (.iconst 0, 1) := by decide +kernel
theorem dX11_byMist_113 : decode cX11_byMist 113 = .ok (.invokevirtual 349, 3) := by decide +kernel
theorem dX11_byMist_116 : decode cX11_byMist 116 = .ok (.pop, 1) := by decide +kernel
theorem dX11_byMist_117 : decode cX11_byMist 117 = .ok (.iinc 7 1, 3) := by decide +kernel
theorem dX11_byMist_120 : decode cX11_byMist 120 = .ok (.goto (-68), 3) := by decide +kernel
theorem dX11_byMist_123 : decode cX11_byMist 123 = .ok (.aload_n 0, 1) := by decide +kernel
theorem dX11_byMist_124 : decode cX11_byMist 124 = .ok (.getfield 71, 3) := by decide +kernel
theorem dX11_byMist_127 : decode cX11_byMist 127 = .ok (.getfield 244, 3) := by decide +kernel
theorem dX11_byMist_130 : decode cX11_byMist 130 = .ok (.getfield 205, 3) := by decide +kernel
theorem dX11_byMist_133 : decode cX11_byMist 133 = .ok (.iload_n 1, 1) := by decide +kernel
theorem dX11_byMist_134 : decode cX11_byMist 134 = .ok (.iaload, 1) := by decide +kernel
theorem dX11_byMist_135 : decode cX11_byMist 135 = .ok (.aload_n 0, 1) := by decide +kernel
theorem dX11_byMist_136 : decode cX11_byMist 136 = .ok (.getfield 36, 3) := by decide +kernel
theorem dX11_byMist_139 : decode cX11_byMist 139 = .ok (.getfield 109, 3) := by decide +kernel
theorem dX11_byMist_142 : decode cX11_byMist 142 = .ok (.getfield 205, 3) := by decide +kernel
theorem dX11_byMist_145 : decode cX11_byMist 145 = .ok (.iload_n 1, 1) := by decide +kernel
theorem dX11_byMist_146 : decode cX11_byMist 146 = .ok (.iaload, 1) := by decide +kernel
theorem dX11_byMist_147 : decode cX11_byMist 147 = .ok (.if_icmp .le 10, 3) := by decide +kernel
theorem dX11_byMist_150 : decode cX11_byMist 150 = .ok (.iload 4, 2) := by decide +kernel
theorem dX11_byMist_152 : decode cX11_byMist 152 = .ok (.iload 6, 2) := by decide +kernel
theorem dX11_byMist_154 : decode cX11_byMist 154 = .ok (.iadd, 1) := by decide +kernel
theorem dX11_byMist_155 : decode cX11_byMist 155 = .ok (.istore 4, 2) := by decide +kernel
theorem dX11_byMist_157 : decode cX11_byMist 157 = .ok (.iinc 5 1, 3) := by decide +kernel
theorem dX11_byMist_160 : decode cX11_byMist 160 = .ok (.goto (-136), 3) := by decide +kernel
theorem dX11_byMist_163 : decode cX11_byMist 163 = .ok (.iload 4, 2) := by decide +kernel
theorem dX11_byMist_165 : decode cX11_byMist 165 = .ok (.ireturn, 1) := by decide +kernel
set_option maxRecDepth 20000 in
theorem ggX11_game_X11_needFarms : GoodIn wsX11_game wsX11_needFarms := goodIn_ca (goodIn_r _ [10, 11, 12, 13, 9, 14, 15, 16, 17, 18, 149, 150, 151, 152, 153, 154, 155, 156, 157, 158, 159, 160, 161, 166, 167, 168, 169, 170, 171, 172, 173, 174, 175, 176] (by decide +kernel) (by decide +kernel)) (goodIn_sub (fun _ h => List.mem_cons_of_mem _ (List.mem_append_right _ h)) (by decide +kernel))
set_option maxRecDepth 20000 in
theorem gX11_game_X11_needFarms : GoodIn wsX11_game (wsV RX11 287 RX11 yX11_needFarms wsX11_needFarms) := goodIn_app (goodIn_of _ (by decide +kernel)) ggX11_game_X11_needFarms
set_option maxRecDepth 20000 in
theorem ggX11_game_X11_needWhat : GoodIn wsX11_game wsX11_needWhat := goodIn_ca (goodIn_r _ [21, 15, 16] (by decide +kernel) (by decide +kernel)) (goodIn_sub (fun _ h => List.mem_cons_of_mem _ (List.mem_append_right _ h)) (by decide +kernel))
set_option maxRecDepth 20000 in
theorem gX11_game_X11_needWhat : GoodIn wsX11_game (va_wsS RX11 267 yX11_needWhat wsX11_needWhat) := goodIn_app (goodIn_of _ (by decide +kernel)) ggX11_game_X11_needWhat
set_option maxRecDepth 20000 in
theorem ggX11_game_X7_sleeps : GoodIn wsX11_game wsX7_sleeps := goodIn_r _ [26, 27, 177, 178, 179, 180, 181, 182] (by decide +kernel) (by decide +kernel)
set_option maxRecDepth 20000 in
theorem gX11_game_X7_sleeps : GoodIn wsX11_game (wsV RX11 247 RX7 yX7_sleeps wsX7_sleeps) := goodIn_app (goodIn_of _ (by decide +kernel)) ggX11_game_X7_sleeps
set_option maxRecDepth 20000 in
theorem ggX11_game_X11_playAll : GoodIn wsX11_game wsX11_playAll := goodIn_r _ [31, 32, 3, 4, 33, 5, 34, 35, 36, 37, 38, 39, 40, 41, 42, 43, 25, 44, 45, 27, 46, 47, 48, 49, 50, 9, 51, 52, 53, 54, 55, 56, 57, 58, 59, 60, 23, 24, 26, 61, 62, 63, 64, 65, 66, 67, 68, 69, 70, 71, 72, 73, 74, 75, 76, 77, 78, 79, 80, 81, 82, 83, 84, 85, 86, 87, 88, 89, 90, 91, 92, 93, 94, 95, 96, 97, 98, 99, 100, 101, 102, 103, 104, 105, 106, 107, 108, 109, 110, 111, 112, 113, 114, 115, 116, 117, 118, 119, 120, 121, 122, 123, 124, 125, 126, 127, 128, 129, 130, 131, 132, 133, 134, 135, 136, 137, 138, 139, 140, 141, 142, 143, 144, 145, 146, 147, 148, 149, 150, 151, 152, 153, 154, 155, 156, 157, 158, 159, 160, 161, 162, 163, 164, 165, 183, 184, 185, 186, 187, 188, 177, 178, 179, 180, 181, 182, 166, 167, 168, 169, 170, 171, 172, 173, 174, 175, 176, 189, 190, 191, 192, 193, 194] (by decide +kernel) (by decide +kernel)
set_option maxRecDepth 20000 in
theorem gX11_game_X11_playAll : GoodIn wsX11_game (wsV RX11 355 RX11 yX11_playAll wsX11_playAll) := goodIn_app (goodIn_of _ (by decide +kernel)) ggX11_game_X11_playAll
theorem dX11_game_0 : decode cX11_game 0 = .ok (.aload_n 0, 1) := by decide +kernel
theorem dX11_game_1 : decode cX11_game 1 = .ok (.iload_n 1, 1) := by decide +kernel
theorem dX11_game_2 : decode cX11_game 2 = .ok (.iload_n 2, 1) := by decide +kernel
theorem dX11_game_3 : decode cX11_game 3 = .ok (.invokevirtual 287, 3) := by decide +kernel
theorem dX11_game_6 : decode cX11_game 6 = .ok (.iload_n 3, 1) := by decide +kernel
theorem dX11_game_7 : decode cX11_game 7 = .ok (.iconst 1, 1) := by decide +kernel
theorem dX11_game_8 : decode cX11_game 8 = .ok (.invokestatic 267, 3) := by decide +kernel
theorem dX11_game_11 : decode cX11_game 11 = .ok (.iload_n 1, 1) := by decide +kernel
theorem dX11_game_12 : decode cX11_game 12 = .ok (.iload_n 2, 1) := by decide +kernel
theorem dX11_game_13 : decode cX11_game 13 = .ok (.if_icmp .ne 14, 3) := by decide +kernel
theorem dX11_game_16 : decode cX11_game 16 = .ok (.new 86, 3) := by decide +kernel
theorem dX11_game_19 : decode cX11_game 19 = .ok (.dup, 1) := by decide +kernel
theorem dX11_game_20 : decode cX11_game 20 = .ok (.ldc_w 353, 3) := by decide +kernel
theorem dX11_game_23 : decode cX11_game 23 = .ok (.invokespecial 90, 3) := by decide +kernel
theorem dX11_game_26 : decode cX11_game 26 = .ok (.athrow, 1) := by decide +kernel
theorem dX11_game_27 : decode cX11_game 27 = .ok (.aload_n 0, 1) := by decide +kernel
theorem dX11_game_28 : decode cX11_game 28 = .ok (.getfield 36, 3) := by decide +kernel
theorem dX11_game_31 : decode cX11_game 31 = .ok (.getfield 109, 3) := by decide +kernel
theorem dX11_game_34 : decode cX11_game 34 = .ok (.iload_n 1, 1) := by decide +kernel
theorem dX11_game_35 : decode cX11_game 35 = .ok (.invokevirtual 247, 3) := by decide +kernel
theorem dX11_game_38 : decode cX11_game 38 = .ok (.ifCond .ne 17, 3) := by decide +kernel
theorem dX11_game_41 : decode cX11_game 41 = .ok (.aload_n 0, 1) := by decide +kernel
theorem dX11_game_42 : decode cX11_game 42 = .ok (.getfield 36, 3) := by decide +kernel
theorem dX11_game_45 : decode cX11_game 45 = .ok (.getfield 109, 3) := by decide +kernel
theorem dX11_game_48 : decode cX11_game 48 = .ok (.iload_n 2, 1) := by decide +kernel
theorem dX11_game_49 : decode cX11_game 49 = .ok (.invokevirtual 247, 3) := by decide +kernel
theorem dX11_game_52 : decode cX11_game 52 = .ok (.ifCond .eq 5, 3) := by decide +kernel
theorem dX11_game_55 : decode cX11_game 55 = .ok (.iconst (-1), 1) := by decide +kernel
theorem dX11_game_56 : decode cX11_game 56 = .ok (.ireturn, 1) := by decide +kernel
theorem dX11_game_57 : decode cX11_game 57 = .ok (.aload_n 0, 1) := by decide +kernel
theorem dX11_game_58 : decode cX11_game 58 = .ok (.iload_n 1, 1) := by decide +kernel
theorem dX11_game_59 : decode cX11_game 59 = .ok (.iload_n 2, 1) := by decide +kernel
theorem dX11_game_60 : decode cX11_game 60 = .ok (.invokevirtual 355, 3) := by decide +kernel
theorem dX11_game_63 : decode cX11_game 63 = .ok (.iconst 0, 1) := by decide +kernel
theorem dX11_game_64 : decode cX11_game 64 = .ok (.istore 4, 2) := by decide +kernel
theorem dX11_game_66 : decode cX11_game 66 = .ok (.iconst (-1), 1) := by decide +kernel
theorem dX11_game_67 : decode cX11_game 67 = .ok (.istore 5, 2) := by decide +kernel
theorem dX11_game_69 : decode cX11_game 69 = .ok (.iconst 3, 1) := by decide +kernel
theorem dX11_game_70 : decode cX11_game 70 = .ok (.istore 6, 2) := by decide +kernel
theorem dX11_game_72 : decode cX11_game 72 = .ok (.iload 6, 2) := by decide +kernel
theorem dX11_game_74 : decode cX11_game 74 = .ok (.ifCond .lt 68, 3) := by decide +kernel
theorem dX11_game_77 : decode cX11_game 77 = .ok (.aload_n 0, 1) := by decide +kernel
theorem dX11_game_78 : decode cX11_game 78 = .ok (.getfield 79, 3) := by decide +kernel
theorem dX11_game_81 : decode cX11_game 81 = .ok (.iload 6, 2) := by decide +kernel
theorem dX11_game_83 : decode cX11_game 83 = .ok (.iaload, 1) := by decide +kernel
theorem dX11_game_84 : decode cX11_game 84 = .ok (.aload_n 0, 1) := by decide +kernel
theorem dX11_game_85 : decode cX11_game 85 = .ok (.getfield 79, 3) := by decide +kernel
theorem dX11_game_88 : decode cX11_game 88 = .ok (.iload 6, 2) := by decide +kernel
theorem dX11_game_90 : decode cX11_game 90 = .ok (.iconst 2, 1) := by decide +kernel
theorem dX11_game_91 : decode cX11_game 91 = .ok (.ixor, 1) := by decide +kernel
theorem dX11_game_92 : decode cX11_game 92 = .ok (.iaload, 1) := by decide +kernel
theorem dX11_game_93 : decode cX11_game 93 = .ok (.if_icmp .lt 43, 3) := by decide +kernel
theorem dX11_game_96 : decode cX11_game 96 = .ok (.aload_n 0, 1) := by decide +kernel
theorem dX11_game_97 : decode cX11_game 97 = .ok (.getfield 79, 3) := by decide +kernel
theorem dX11_game_100 : decode cX11_game 100 = .ok (.iconst 4, 1) := by decide +kernel
theorem dX11_game_101 : decode cX11_game 101 = .ok (.iload 6, 2) := by decide +kernel
theorem dX11_game_103 : decode cX11_game 103 = .ok (.iadd, 1) := by decide +kernel
theorem dX11_game_104 : decode cX11_game 104 = .ok (.iaload, 1) := by decide +kernel
theorem dX11_game_105 : decode cX11_game 105 = .ok (.aload_n 0, 1) := by decide +kernel
theorem dX11_game_106 : decode cX11_game 106 = .ok (.getfield 79, 3) := by decide +kernel
theorem dX11_game_109 : decode cX11_game 109 = .ok (.iconst 4, 1) := by decide +kernel
theorem dX11_game_110 : decode cX11_game 110 = .ok (.iload 6, 2) := by decide +kernel
theorem dX11_game_112 : decode cX11_game 112 = .ok (.iconst 1, 1) := by decide +kernel
theorem dX11_game_113 : decode cX11_game 113 = .ok (.ixor, 1) := by decide +kernel
theorem dX11_game_114 : decode cX11_game 114 = .ok (.iadd, 1) := by decide +kernel
theorem dX11_game_115 : decode cX11_game 115 = .ok (.iaload, 1) := by decide +kernel
theorem dX11_game_116 : decode cX11_game 116 = .ok (.if_icmp .lt 20, 3) := by decide +kernel
theorem dX11_game_119 : decode cX11_game 119 = .ok (.iinc 4 1, 3) := by decide +kernel
theorem dX11_game_122 : decode cX11_game 122 = .ok (.bipush 10, 2) := by decide +kernel
theorem dX11_game_124 : decode cX11_game 124 = .ok (.iload 6, 2) := by decide +kernel
theorem dX11_game_126 : decode cX11_game 126 = .ok (.iconst 1, 1) := by decide +kernel
theorem dX11_game_127 : decode cX11_game 127 = .ok (.ishr, 1) := by decide +kernel
theorem dX11_game_128 : decode cX11_game 128 = .ok (.imul, 1) := by decide +kernel
theorem dX11_game_129 : decode cX11_game 129 = .ok (.iload 6, 2) := by decide +kernel
theorem dX11_game_131 : decode cX11_game 131 = .ok (.iconst 1, 1) := by decide +kernel
theorem dX11_game_132 : decode cX11_game 132 = .ok (.iand, 1) := by decide +kernel
theorem dX11_game_133 : decode cX11_game 133 = .ok (.iadd, 1) := by decide +kernel
theorem dX11_game_134 : decode cX11_game 134 = .ok (.istore 5, 2) := by decide +kernel
theorem dX11_game_136 : decode cX11_game 136 = .ok (.iinc 6 (-1), 3) := by decide +kernel
theorem dX11_game_139 : decode cX11_game 139 = .ok (.goto (-67), 3) := by decide +kernel
theorem dX11_game_142 : decode cX11_game 142 = .ok (.iload_n 3, 1) := by decide +kernel
theorem dX11_game_143 : decode cX11_game 143 = .ok (.ifCond .ne 8, 3) := by decide +kernel
theorem dX11_game_146 : decode cX11_game 146 = .ok (.iload 4, 2) := by decide +kernel
theorem dX11_game_148 : decode cX11_game 148 = .ok (.goto 5, 3) := by decide +kernel
theorem dX11_game_151 : decode cX11_game 151 = .ok (.iload 5, 2) := by decide +kernel
theorem dX11_game_153 : decode cX11_game 153 = .ok (.ireturn, 1) := by decide +kernel
set_option maxRecDepth 20000 in
theorem ggX11_playAll_X2_start : GoodIn wsX11_playAll wsX2_start := goodIn_r _ [10, 11, 12, 13, 14, 15, 16, 17, 18, 19, 20, 21, 22, 23, 24, 25, 26, 27, 28, 29, 30, 144, 145, 146, 147, 148, 149, 150, 151, 152, 153, 154, 155] (by decide +kernel) (by decide +kernel)
set_option maxRecDepth 20000 in
theorem gX11_playAll_X2_start : GoodIn wsX11_playAll (wsV RX11 238 RX2 yX2_start wsX2_start) := goodIn_app (goodIn_of _ (by decide +kernel)) ggX11_playAll_X2_start
set_option maxRecDepth 20000 in
theorem ggX11_playAll_X7_startNod : GoodIn wsX11_playAll wsX7_startNod := goodIn_r _ [34, 20, 35, 36, 37, 16, 38, 19, 150, 151, 152, 153, 154, 155] (by decide +kernel) (by decide +kernel)
set_option maxRecDepth 20000 in
theorem gX11_playAll_X7_startNod : GoodIn wsX11_playAll (wsV RX11 250 RX7 yX7_startNod wsX7_startNod) := goodIn_app (goodIn_of _ (by decide +kernel)) ggX11_playAll_X7_startNod
set_option maxRecDepth 20000 in
theorem ggX11_playAll_X2_go : GoodIn wsX11_playAll wsX2_go := goodIn_r _ [42, 43, 44, 11, 45, 46, 47, 48, 49, 50, 51, 52, 53, 54, 55, 9, 56, 57, 58, 59, 60, 61, 62, 63, 64, 65, 66, 67, 68, 69, 70, 12, 71, 72, 73, 74, 75, 76, 77, 78, 79, 80, 81, 82, 83, 84, 85, 86, 87, 88, 89, 90, 91, 92, 93, 94, 95, 96, 97, 98, 99, 100, 101, 102, 103, 104, 105, 106, 107, 108, 109, 110, 111, 112, 113, 114, 115, 116, 117, 118, 119, 120, 144, 145, 146, 147, 148, 149, 150, 151, 152, 153, 154, 155, 156, 157, 158, 159, 160, 161, 162, 163, 164, 165, 166, 167, 168, 169, 170, 171, 172] (by decide +kernel) (by decide +kernel)
set_option maxRecDepth 20000 in
theorem gX11_playAll_X2_go : GoodIn wsX11_playAll (wsV RX11 241 RX2 yX2_go wsX2_go) := goodIn_app (goodIn_of _ (by decide +kernel)) ggX11_playAll_X2_go
set_option maxRecDepth 20000 in
theorem ggX11_playAll_X11_gain : GoodIn wsX11_playAll wsX11_gain := goodIn_r _ [124, 1, 125, 126, 104, 105, 106, 107, 108, 109, 127, 128, 129, 130, 131, 132, 133, 134, 135, 136, 137, 138, 139, 144, 145, 146, 147, 148, 149] (by decide +kernel) (by decide +kernel)
set_option maxRecDepth 20000 in
theorem gX11_playAll_X11_gain : GoodIn wsX11_playAll (wsV RX11 358 RX11 yX11_gain wsX11_gain) := goodIn_app (goodIn_of _ (by decide +kernel)) ggX11_playAll_X11_gain
theorem dX11_playAll_0 : decode cX11_playAll 0 = .ok (.iconst 0, 1) := by decide +kernel
theorem dX11_playAll_1 : decode cX11_playAll 1 = .ok (.istore_n 3, 1) := by decide +kernel
theorem dX11_playAll_2 : decode cX11_playAll 2 = .ok (.iload_n 3, 1) := by decide +kernel
theorem dX11_playAll_3 : decode cX11_playAll 3 = .ok (.iconst 4, 1) := by decide +kernel
theorem dX11_playAll_4 : decode cX11_playAll 4 = .ok (.if_icmp .ge 124, 3) := by decide +kernel
theorem dX11_playAll_7 : decode cX11_playAll 7 = .ok (.aload_n 0, 1) := by decide +kernel
theorem dX11_playAll_8 : decode cX11_playAll 8 = .ok (.getfield 71, 3) := by decide +kernel
theorem dX11_playAll_11 : decode cX11_playAll 11 = .ok (.aload_n 0, 1) := by decide +kernel
theorem dX11_playAll_12 : decode cX11_playAll 12 = .ok (.getfield 36, 3) := by decide +kernel
theorem dX11_playAll_15 : decode cX11_playAll 15 = .ok (.getfield 109, 3) := by decide +kernel
theorem dX11_playAll_18 : decode cX11_playAll 18 = .ok (.invokevirtual 238, 3) := by decide +kernel
theorem dX11_playAll_21 : decode cX11_playAll 21 = .ok (.iload_n 3, 1) := by decide +kernel
theorem dX11_playAll_22 : decode cX11_playAll 22 = .ok (.iconst 1, 1) := by decide +kernel
theorem dX11_playAll_23 : decode cX11_playAll 23 = .ok (.ishr, 1) := by decide +kernel
theorem dX11_playAll_24 : decode cX11_playAll 24 = .ok (.iconst 1, 1) := by decide +kernel
theorem dX11_playAll_25 : decode cX11_playAll 25 = .ok (.if_icmp .ne 14, 3) := by decide +kernel
theorem dX11_playAll_28 : decode cX11_playAll 28 = .ok (.aload_n 0, 1) := by decide +kernel
theorem dX11_playAll_29 : decode cX11_playAll 29 = .ok (.getfield 71, 3) := by decide +kernel
theorem dX11_playAll_32 : decode cX11_playAll 32 = .ok (.getfield 244, 3) := by decide +kernel
theorem dX11_playAll_35 : decode cX11_playAll 35 = .ok (.iload_n 1, 1) := by decide +kernel
theorem dX11_playAll_36 : decode cX11_playAll 36 = .ok (.invokevirtual 250, 3) := by decide +kernel
theorem dX11_playAll_39 : decode cX11_playAll 39 = .ok (.iload_n 3, 1) := by decide +kernel
theorem dX11_playAll_40 : decode cX11_playAll 40 = .ok (.iconst 1, 1) := by decide +kernel
theorem dX11_playAll_41 : decode cX11_playAll 41 = .ok (.iand, 1) := by decide +kernel
theorem dX11_playAll_42 : decode cX11_playAll 42 = .ok (.iconst 1, 1) := by decide +kernel
theorem dX11_playAll_43 : decode cX11_playAll 43 = .ok (.if_icmp .ne 14, 3) := by decide +kernel
theorem dX11_playAll_46 : decode cX11_playAll 46 = .ok (.aload_n 0, 1) := by decide +kernel
theorem dX11_playAll_47 : decode cX11_playAll 47 = .ok (.getfield 71, 3) := by decide +kernel
theorem dX11_playAll_50 : decode cX11_playAll 50 = .ok (.getfield 244, 3) := by decide +kernel
theorem dX11_playAll_53 : decode cX11_playAll 53 = .ok (.iload_n 2, 1) := by decide +kernel
theorem dX11_playAll_54 : decode cX11_playAll 54 = .ok (.invokevirtual 250, 3) := by decide +kernel
theorem dX11_playAll_57 : decode cX11_playAll 57 = .ok (.iconst 0, 1) := by decide +kernel
theorem dX11_playAll_58 : decode cX11_playAll 58 = .ok (.istore 4, 2) := by decide +kernel
theorem dX11_playAll_60 : decode cX11_playAll 60 = .ok (.iconst 0, 1) := by decide +kernel
theorem dX11_playAll_61 : decode cX11_playAll 61 = .ok (.istore 5, 2) := by decide +kernel
theorem dX11_playAll_63 : decode cX11_playAll 63 = .ok (.iload 5, 2) := by decide +kernel
theorem dX11_playAll_65 : decode cX11_playAll 65 = .ok (.bipush 9, 2) := by decide +kernel
theorem dX11_playAll_67 : decode cX11_playAll 67 = .ok (.if_icmp .ge 21, 3) := by decide +kernel
theorem dX11_playAll_70 : decode cX11_playAll 70 = .ok (.iload 4, 2) := by decide +kernel
theorem dX11_playAll_72 : decode cX11_playAll 72 = .ok (.aload_n 0, 1) := by decide +kernel
theorem dX11_playAll_73 : decode cX11_playAll 73 = .ok (.getfield 71, 3) := by decide +kernel
theorem dX11_playAll_76 : decode cX11_playAll 76 = .ok (.invokevirtual 241, 3) := by decide +kernel
theorem dX11_playAll_79 : decode cX11_playAll 79 = .ok (.ior, 1) := by decide +kernel
theorem dX11_playAll_80 : decode cX11_playAll 80 = .ok (.istore 4, 2) := by decide +kernel
theorem dX11_playAll_82 : decode cX11_playAll 82 = .ok (.iinc 5 1, 3) := by decide +kernel
theorem dX11_playAll_85 : decode cX11_playAll 85 = .ok (.goto (-22), 3) := by decide +kernel
theorem dX11_playAll_88 : decode cX11_playAll 88 = .ok (.aload_n 0, 1) := by decide +kernel
theorem dX11_playAll_89 : decode cX11_playAll 89 = .ok (.getfield 79, 3) := by decide +kernel
theorem dX11_playAll_92 : decode cX11_playAll 92 = .ok (.iload_n 3, 1) := by decide +kernel
theorem dX11_playAll_93 : decode cX11_playAll 93 = .ok (.aload_n 0, 1) := by decide +kernel
theorem dX11_playAll_94 : decode cX11_playAll 94 = .ok (.iload_n 1, 1) := by decide +kernel
theorem dX11_playAll_95 : decode cX11_playAll 95 = .ok (.iload 4, 2) := by decide +kernel
theorem dX11_playAll_97 : decode cX11_playAll 97 = .ok (.iload_n 3, 1) := by decide +kernel
theorem dX11_playAll_98 : decode cX11_playAll 98 = .ok (.iconst 1, 1) := by decide +kernel
theorem dX11_playAll_99 : decode cX11_playAll 99 = .ok (.ishr, 1) := by decide +kernel
theorem dX11_playAll_100 : decode cX11_playAll 100 = .ok (.invokevirtual 358, 3) := by decide +kernel
theorem dX11_playAll_103 : decode cX11_playAll 103 = .ok (.iastore, 1) := by decide +kernel
theorem dX11_playAll_104 : decode cX11_playAll 104 = .ok (.aload_n 0, 1) := by decide +kernel
theorem dX11_playAll_105 : decode cX11_playAll 105 = .ok (.getfield 79, 3) := by decide +kernel
theorem dX11_playAll_108 : decode cX11_playAll 108 = .ok (.iconst 4, 1) := by decide +kernel
theorem dX11_playAll_109 : decode cX11_playAll 109 = .ok (.iload_n 3, 1) := by decide +kernel
theorem dX11_playAll_110 : decode cX11_playAll 110 = .ok (.iadd, 1) := by decide +kernel
theorem dX11_playAll_111 : decode cX11_playAll 111 = .ok (.aload_n 0, 1) := by decide +kernel
theorem dX11_playAll_112 : decode cX11_playAll 112 = .ok (.iload_n 2, 1) := by decide +kernel
theorem dX11_playAll_113 : decode cX11_playAll 113 = .ok (.iload 4, 2) := by decide +kernel
theorem dX11_playAll_115 : decode cX11_playAll 115 = .ok (.iload_n 3, 1) := by decide +kernel
theorem dX11_playAll_116 : decode cX11_playAll 116 = .ok (.iconst 1, 1) := by decide +kernel
theorem dX11_playAll_117 : decode cX11_playAll 117 = .ok (.iand, 1) := by decide +kernel
theorem dX11_playAll_118 : decode cX11_playAll 118 = .ok (.invokevirtual 358, 3) := by decide +kernel
theorem dX11_playAll_121 : decode cX11_playAll 121 = .ok (.iastore, 1) := by decide +kernel
theorem dX11_playAll_122 : decode cX11_playAll 122 = .ok (.iinc 3 1, 3) := by decide +kernel
theorem dX11_playAll_125 : decode cX11_playAll 125 = .ok (.goto (-123), 3) := by decide +kernel
theorem dX11_playAll_128 : decode cX11_playAll 128 = .ok (.return_, 1) := by decide +kernel
set_option maxRecDepth 20000 in
theorem ggX11_gain_J6_bitCount_0f7a4 : GoodIn wsX11_gain wsJ6_bitCount_0f7a4 := goodIn_r _ [6, 7, 8, 9] (by decide +kernel) (by decide +kernel)
set_option maxRecDepth 20000 in
theorem gX11_gain_J6_bitCount_0f7a4 : GoodIn wsX11_gain (va_wsS RX11 274 yJ6_bitCount_0f7a4 wsJ6_bitCount_0f7a4) := goodIn_app (goodIn_of _ (by decide +kernel)) ggX11_gain_J6_bitCount_0f7a4
theorem dX11_gain_0 : decode cX11_gain 0 = .ok (.iload_n 2, 1) := by decide +kernel
theorem dX11_gain_1 : decode cX11_gain 1 = .ok (.iconst 1, 1) := by decide +kernel
theorem dX11_gain_2 : decode cX11_gain 2 = .ok (.iload_n 1, 1) := by decide +kernel
theorem dX11_gain_3 : decode cX11_gain 3 = .ok (.ishl, 1) := by decide +kernel
theorem dX11_gain_4 : decode cX11_gain 4 = .ok (.iconst (-1), 1) := by decide +kernel
theorem dX11_gain_5 : decode cX11_gain 5 = .ok (.ixor, 1) := by decide +kernel
theorem dX11_gain_6 : decode cX11_gain 6 = .ok (.iand, 1) := by decide +kernel
theorem dX11_gain_7 : decode cX11_gain 7 = .ok (.invokestatic 274, 3) := by decide +kernel
theorem dX11_gain_10 : decode cX11_gain 10 = .ok (.iconst 2, 1) := by decide +kernel
theorem dX11_gain_11 : decode cX11_gain 11 = .ok (.iload_n 3, 1) := by decide +kernel
theorem dX11_gain_12 : decode cX11_gain 12 = .ok (.imul, 1) := by decide +kernel
theorem dX11_gain_13 : decode cX11_gain 13 = .ok (.isub, 1) := by decide +kernel
theorem dX11_gain_14 : decode cX11_gain 14 = .ok (.aload_n 0, 1) := by decide +kernel
theorem dX11_gain_15 : decode cX11_gain 15 = .ok (.getfield 71, 3) := by decide +kernel
theorem dX11_gain_18 : decode cX11_gain 18 = .ok (.getfield 279, 3) := by decide +kernel
theorem dX11_gain_21 : decode cX11_gain 21 = .ok (.iload_n 1, 1) := by decide +kernel
theorem dX11_gain_22 : decode cX11_gain 22 = .ok (.iaload, 1) := by decide +kernel
theorem dX11_gain_23 : decode cX11_gain 23 = .ok (.isub, 1) := by decide +kernel
theorem dX11_gain_24 : decode cX11_gain 24 = .ok (.ireturn, 1) := by decide +kernel
set_option maxRecDepth 20000 in
theorem ggX11_years_X11_needWhat : GoodIn wsX11_years wsX11_needWhat := goodIn_ca (goodIn_r _ [14, 15, 16] (by decide +kernel) (by decide +kernel)) (goodIn_sub (fun _ h => List.mem_cons_of_mem _ (List.mem_append_left _ (List.mem_append_right _ h))) (by decide +kernel))
set_option maxRecDepth 20000 in
theorem gX11_years_X11_needWhat : GoodIn wsX11_years (va_wsS RX11 267 yX11_needWhat wsX11_needWhat) := goodIn_app (goodIn_of _ (by decide +kernel)) ggX11_years_X11_needWhat
set_option maxRecDepth 20000 in
theorem ggX11_years_X11_needWithin : GoodIn wsX11_years wsX11_needWithin := goodIn_ca (goodIn_r _ [19, 20, 21] (by decide +kernel) (by decide +kernel)) (goodIn_sub (fun _ h => List.mem_cons_of_mem _ (List.mem_append_right _ h)) (by decide +kernel))
set_option maxRecDepth 20000 in
theorem gX11_years_X11_needWithin : GoodIn wsX11_years (va_wsS RX11 263 yX11_needWithin wsX11_needWithin) := goodIn_app (goodIn_of _ (by decide +kernel)) ggX11_years_X11_needWithin
set_option maxRecDepth 20000 in
theorem ggX11_years_X2_start : GoodIn wsX11_years wsX2_start := goodIn_r _ [26, 27, 28, 29, 30, 31, 32, 33, 34, 35, 36, 37, 38, 39, 40, 13, 41, 42, 43, 44, 45, 184, 185, 186, 187, 188, 189, 190, 191, 192, 193, 194, 195] (by decide +kernel) (by decide +kernel)
set_option maxRecDepth 20000 in
theorem gX11_years_X2_start : GoodIn wsX11_years (wsV RX11 238 RX2 yX2_start wsX2_start) := goodIn_app (goodIn_of _ (by decide +kernel)) ggX11_years_X2_start
set_option maxRecDepth 20000 in
theorem ggX11_years_X6_build : GoodIn wsX11_years wsX6_build := goodIn_r _ [50, 51, 52, 53, 54, 55, 56, 49, 57, 58, 59, 60, 61, 62, 63, 64, 65, 66, 67, 68, 69, 70, 71, 72, 73, 74, 75, 76, 77, 78, 79, 80, 81, 82, 83, 207, 208, 209, 196, 197, 198, 199, 200, 201, 202, 203, 204, 205, 206] (by decide +kernel) (by decide +kernel)
set_option maxRecDepth 20000 in
theorem gX11_years_X6_build : GoodIn wsX11_years (wsV RX11 137 RX6 yX6_build wsX6_build) := goodIn_app (goodIn_of _ (by decide +kernel)) ggX11_years_X6_build
set_option maxRecDepth 20000 in
theorem ggX11_years_X11_happen : GoodIn wsX11_years wsX11_happen := goodIn_r _ [87, 1, 9, 10, 7, 6, 5, 88, 89, 90, 25, 91, 92, 93, 94, 95, 96, 32, 97, 36, 98, 99, 100, 101, 35, 102, 103, 104, 105, 46, 47, 48, 49, 50, 51, 52, 53, 54, 55, 56, 57, 58, 59, 60, 61, 62, 63, 64, 65, 66, 67, 68, 69, 70, 71, 72, 73, 74, 75, 76, 77, 78, 79, 80, 81, 82, 83, 167, 168, 169, 170, 171, 172, 173, 174, 175, 176, 177, 178, 179, 196, 197, 198, 199, 200, 201, 202, 203, 204, 205, 206, 184, 185, 186, 187, 188, 189, 190, 191, 192, 193, 194, 195, 207, 208, 209] (by decide +kernel) (by decide +kernel)
set_option maxRecDepth 20000 in
theorem gX11_years_X11_happen : GoodIn wsX11_years (wsV RX11 365 RX11 yX11_happen wsX11_happen) := goodIn_app (goodIn_of _ (by decide +kernel)) ggX11_years_X11_happen
set_option maxRecDepth 20000 in
theorem ggX11_years_X2_draw : GoodIn wsX11_years wsX2_draw := goodIn_r _ [91, 92, 93, 184, 185, 186, 187, 188, 189] (by decide +kernel) (by decide +kernel)
set_option maxRecDepth 20000 in
theorem gX11_years_X2_draw : GoodIn wsX11_years (wsV RX11 368 RX2 yX2_draw wsX2_draw) := goodIn_app (goodIn_of _ (by decide +kernel)) ggX11_years_X2_draw
set_option maxRecDepth 20000 in
theorem ggX11_years_X2_step : GoodIn wsX11_years wsX2_step := goodIn_r _ [109, 110, 111, 27, 112, 113, 114, 115, 116, 117, 25, 118, 119, 120, 121, 122, 123, 82, 124, 28, 125, 126, 127, 49, 128, 51, 129, 130, 131, 132, 133, 134, 135, 136, 137, 138, 139, 140, 141, 142, 143, 144, 145, 146, 147, 75, 76, 77, 78, 79, 80, 81, 83, 148, 149, 150, 151, 152, 153, 154, 155, 156, 157, 158, 159, 160, 161, 162, 163, 164, 165, 184, 185, 186, 187, 188, 189, 196, 197, 198, 199, 200, 201, 202, 203, 204, 205, 206, 190, 191, 192, 193, 194, 195, 207, 208, 209, 210, 211, 212] (by decide +kernel) (by decide +kernel)
set_option maxRecDepth 20000 in
theorem gX11_years_X2_step : GoodIn wsX11_years (wsV RX11 349 RX2 yX2_step wsX2_step) := goodIn_app (goodIn_of _ (by decide +kernel)) ggX11_years_X2_step
set_option maxRecDepth 20000 in
theorem ggX11_years_J6_bitCount_0f7a4 : GoodIn wsX11_years wsJ6_bitCount_0f7a4 := goodIn_r _ [151, 152, 153, 154] (by decide +kernel) (by decide +kernel)
set_option maxRecDepth 20000 in
theorem gX11_years_J6_bitCount_0f7a4 : GoodIn wsX11_years (va_wsS RX11 274 yJ6_bitCount_0f7a4 wsJ6_bitCount_0f7a4) := goodIn_app (goodIn_of _ (by decide +kernel)) ggX11_years_J6_bitCount_0f7a4
theorem dX11_years_0 : decode cX11_years 0 = .ok (.iload_n 3, 1) := by decide +kernel
theorem dX11_years_1 : decode cX11_years 1 = .ok (.iconst 2, 1) := by decide +kernel
theorem dX11_years_2 : decode cX11_years 2 = .ok (.invokestatic 267, 3) := by decide +kernel
theorem dX11_years_5 : decode cX11_years 5 = .ok (.iload_n 2, 1) := by decide +kernel
theorem dX11_years_6 : decode cX11_years 6 = .ok (.iconst 0, 1) := by decide +kernel
theorem dX11_years_7 : decode cX11_years 7 = .ok (.bipush 60, 2) := by decide +kernel
theorem dX11_years_9 : decode cX11_years 9 = .ok (.invokestatic 263, 3) := by decide +kernel
theorem dX11_years_12 : decode cX11_years 12 = .ok (.aload_n 0, 1) := by decide +kernel
theorem dX11_years_13 : decode cX11_years 13 = .ok (.getfield 71, 3) := by decide +kernel
theorem dX11_years_16 : decode cX11_years 16 = .ok (.aload_n 0, 1) := by decide +kernel
theorem dX11_years_17 : decode cX11_years 17 = .ok (.getfield 36, 3) := by decide +kernel
theorem dX11_years_20 : decode cX11_years 20 = .ok (.getfield 109, 3) := by decide +kernel
theorem dX11_years_23 : decode cX11_years 23 = .ok (.invokevirtual 238, 3) := by decide +kernel
theorem dX11_years_26 : decode cX11_years 26 = .ok (.aload_n 0, 1) := by decide +kernel
theorem dX11_years_27 : decode cX11_years 27 = .ok (.getfield 71, 3) := by decide +kernel
theorem dX11_years_30 : decode cX11_years 30 = .ok (.iload_n 1, 1) := by decide +kernel
theorem dX11_years_31 : decode cX11_years 31 = .ok (.putfield 362, 3) := by decide +kernel
theorem dX11_years_34 : decode cX11_years 34 = .ok (.aload_n 0, 1) := by decide +kernel
theorem dX11_years_35 : decode cX11_years 35 = .ok (.getfield 56, 3) := by decide +kernel
theorem dX11_years_38 : decode cX11_years 38 = .ok (.aload_n 0, 1) := by decide +kernel
theorem dX11_years_39 : decode cX11_years 39 = .ok (.getfield 36, 3) := by decide +kernel
theorem dX11_years_42 : decode cX11_years 42 = .ok (.getfield 109, 3) := by decide +kernel
theorem dX11_years_45 : decode cX11_years 45 = .ok (.getfield 134, 3) := by decide +kernel
theorem dX11_years_48 : decode cX11_years 48 = .ok (.invokevirtual 137, 3) := by decide +kernel
theorem dX11_years_51 : decode cX11_years 51 = .ok (.iconst 0, 1) := by decide +kernel
theorem dX11_years_52 : decode cX11_years 52 = .ok (.istore 4, 2) := by decide +kernel
theorem dX11_years_54 : decode cX11_years 54 = .ok (.iconst 0, 1) := by decide +kernel
theorem dX11_years_55 : decode cX11_years 55 = .ok (.istore 5, 2) := by decide +kernel
theorem dX11_years_57 : decode cX11_years 57 = .ok (.iconst 0, 1) := by decide +kernel
theorem dX11_years_58 : decode cX11_years 58 = .ok (.istore 6, 2) := by decide +kernel
theorem dX11_years_60 : decode cX11_years 60 = .ok (.iload 6, 2) := by decide +kernel
theorem dX11_years_62 : decode cX11_years 62 = .ok (.iload_n 2, 1) := by decide +kernel
theorem dX11_years_63 : decode cX11_years 63 = .ok (.if_icmp .ge 52, 3) := by decide +kernel
theorem dX11_years_66 : decode cX11_years 66 = .ok (.aload_n 0, 1) := by decide +kernel
theorem dX11_years_67 : decode cX11_years 67 = .ok (.invokevirtual 365, 3) := by decide +kernel
theorem dX11_years_70 : decode cX11_years 70 = .ok (.aload_n 0, 1) := by decide +kernel
theorem dX11_years_71 : decode cX11_years 71 = .ok (.getfield 71, 3) := by decide +kernel
theorem dX11_years_74 : decode cX11_years 74 = .ok (.aload_n 0, 1) := by decide +kernel
theorem dX11_years_75 : decode cX11_years 75 = .ok (.getfield 56, 3) := by decide +kernel
theorem dX11_years_78 : decode cX11_years 78 = .ok (.aload_n 0, 1) := by decide +kernel
theorem dX11_years_79 : decode cX11_years 79 = .ok (.getfield 71, 3) := by decide +kernel
theorem dX11_years_82 : decode cX11_years 82 = .ok (.bipush 10, 2) := by decide +kernel
theorem dX11_years_84 : decode cX11_years 84 = .ok (.invokevirtual 368, 3) := by decide +kernel
theorem dX11_years_87 : decode cX11_years 87 = .ok (.invokevirtual 349, 3) := by decide +kernel
theorem dX11_years_90 : decode cX11_years 90 = .ok (.istore 7, 2) := by decide +kernel
theorem dX11_years_92 : decode cX11_years 92 = .ok (.iload 4, 2) := by decide +kernel
theorem dX11_years_94 : decode cX11_years 94 = .ok (.iload 7, 2) := by decide +kernel
theorem dX11_years_96 : decode cX11_years 96 = .ok (.ior, 1) := by decide +kernel
theorem dX11_years_97 : decode cX11_years 97 = .ok (.istore 4, 2) := by decide +kernel
theorem dX11_years_99 : decode cX11_years 99 = .ok (.iload 5, 2) := by decide +kernel
theorem dX11_years_101 : decode cX11_years 101 = .ok (.iload 7, 2) := by decide +kernel
theorem dX11_years_103 : decode cX11_years 103 = .ok (.invokestatic 274, 3) := by decide +kernel
theorem dX11_years_106 : decode cX11_years 106 = .ok (.iadd, 1) := by decide +kernel
theorem dX11_years_107 : decode cX11_years 107 = .ok (.istore 5, 2) := by decide +kernel
theorem dX11_years_109 : decode cX11_years 109 = .ok (.iinc 6 1, 3) := by decide +kernel
theorem dX11_years_112 : decode cX11_years 112 = .ok (.goto (-52), 3) := by decide +kernel
theorem dX11_years_115 : decode cX11_years 115 = .ok (.iload_n 3, 1) := by decide +kernel
theorem dX11_years_116 : decode cX11_years 116 = .ok (.ifCond .ne 6, 3) := by decide +kernel
theorem dX11_years_119 : decode cX11_years 119 = .ok (.iload 5, 2) := by decide +kernel
theorem dX11_years_121 : decode cX11_years 121 = .ok (.ireturn, 1) := by decide +kernel
theorem dX11_years_122 : decode cX11_years 122 = .ok (.iload_n 3, 1) := by decide +kernel
theorem dX11_years_123 : decode cX11_years 123 = .ok (.iconst 1, 1) := by decide +kernel
theorem dX11_years_124 : decode cX11_years 124 = .ok (.if_icmp .ne 16, 3) := by decide +kernel
theorem dX11_years_127 : decode cX11_years 127 = .ok (.aload_n 0, 1) := by decide +kernel
theorem dX11_years_128 : decode cX11_years 128 = .ok (.getfield 71, 3) := by decide +kernel
theorem dX11_years_131 : decode cX11_years 131 = .ok (.getfield 244, 3) := by decide +kernel
theorem dX11_years_134 : decode cX11_years 134 = .ok (.getfield 159, 3) := by decide +kernel
theorem dX11_years_137 : decode cX11_years 137 = .ok (.goto 16, 3) := by decide +kernel
theorem dX11_years_140 : decode cX11_years 140 = .ok (.aload_n 0, 1) := by decide +kernel
theorem dX11_years_141 : decode cX11_years 141 = .ok (.getfield 29, 3) := by decide +kernel
theorem dX11_years_144 : decode cX11_years 144 = .ok (.getfield 144, 3) := by decide +kernel
theorem dX11_years_147 : decode cX11_years 147 = .ok (.iload 4, 2) := by decide +kernel
theorem dX11_years_149 : decode cX11_years 149 = .ok (.invokestatic 274, 3) := by decide +kernel
theorem dX11_years_152 : decode cX11_years 152 = .ok (.isub, 1) := by decide +kernel
theorem dX11_years_153 : decode cX11_years 153 = .ok (.ireturn, 1) := by decide +kernel
set_option maxRecDepth 20000 in
theorem ggX11_happen_X2_draw : GoodIn wsX11_happen wsX2_draw := goodIn_r _ [11, 12, 13, 91, 92, 93, 94, 95, 96] (by decide +kernel) (by decide +kernel)
set_option maxRecDepth 20000 in
theorem gX11_happen_X2_draw : GoodIn wsX11_happen (wsV RX11 368 RX2 yX2_draw wsX2_draw) := goodIn_app (goodIn_of _ (by decide +kernel)) ggX11_happen_X2_draw
set_option maxRecDepth 20000 in
theorem ggX11_happen_X7_startNod : GoodIn wsX11_happen wsX7_startNod := goodIn_r _ [18, 19, 20, 21, 22, 17, 23, 24, 97, 98, 99, 100, 101, 102] (by decide +kernel) (by decide +kernel)
set_option maxRecDepth 20000 in
theorem gX11_happen_X7_startNod : GoodIn wsX11_happen (wsV RX11 250 RX7 yX7_startNod wsX7_startNod) := goodIn_app (goodIn_of _ (by decide +kernel)) ggX11_happen_X7_startNod
set_option maxRecDepth 20000 in
theorem ggX11_happen_X7_turnSleep : GoodIn wsX11_happen wsX7_turnSleep := goodIn_r _ [28, 24, 19, 97, 98, 99, 100, 101, 102] (by decide +kernel) (by decide +kernel)
set_option maxRecDepth 20000 in
theorem gX11_happen_X7_turnSleep : GoodIn wsX11_happen (wsV RX11 253 RX7 yX7_turnSleep wsX7_turnSleep) := goodIn_app (goodIn_of _ (by decide +kernel)) ggX11_happen_X7_turnSleep
set_option maxRecDepth 20000 in
theorem ggX11_happen_X6_build : GoodIn wsX11_happen wsX6_build := goodIn_r _ [33, 34, 35, 36, 37, 38, 39, 32, 40, 41, 42, 43, 44, 45, 46, 47, 48, 49, 50, 51, 52, 53, 54, 55, 56, 57, 58, 59, 60, 61, 62, 63, 64, 65, 66, 103, 104, 105, 80, 81, 82, 83, 84, 85, 86, 87, 88, 89, 90] (by decide +kernel) (by decide +kernel)
set_option maxRecDepth 20000 in
theorem gX11_happen_X6_build : GoodIn wsX11_happen (wsV RX11 137 RX6 yX6_build wsX6_build) := goodIn_app (goodIn_of _ (by decide +kernel)) ggX11_happen_X6_build
theorem dX11_happen_0 : decode cX11_happen 0 = .ok (.aload_n 0, 1) := by decide +kernel
theorem dX11_happen_1 : decode cX11_happen 1 = .ok (.getfield 71, 3) := by decide +kernel
theorem dX11_happen_4 : decode cX11_happen 4 = .ok (.bipush 6, 2) := by decide +kernel
theorem dX11_happen_6 : decode cX11_happen 6 = .ok (.invokevirtual 368, 3) := by decide +kernel
theorem dX11_happen_9 : decode cX11_happen 9 = .ok (.istore_n 1, 1) := by decide +kernel
theorem dX11_happen_10 : decode cX11_happen 10 = .ok (.iload_n 1, 1) := by decide +kernel
theorem dX11_happen_11 : decode cX11_happen 11 = .ok (.iconst 2, 1) := by decide +kernel
theorem dX11_happen_12 : decode cX11_happen 12 = .ok (.if_icmp .gt 13, 3) := by decide +kernel
theorem dX11_happen_15 : decode cX11_happen 15 = .ok (.aload_n 0, 1) := by decide +kernel
theorem dX11_happen_16 : decode cX11_happen 16 = .ok (.getfield 29, 3) := by decide +kernel
theorem dX11_happen_19 : decode cX11_happen 19 = .ok (.getfield 144, 3) := by decide +kernel
theorem dX11_happen_22 : decode cX11_happen 22 = .ok (.ifCond .ne 4, 3) := by decide +kernel
theorem dX11_happen_25 : decode cX11_happen 25 = .ok (.return_, 1) := by decide +kernel
theorem dX11_happen_26 : decode cX11_happen 26 = .ok (.aload_n 0, 1) := by decide +kernel
theorem dX11_happen_27 : decode cX11_happen 27 = .ok (.getfield 71, 3) := by decide +kernel
theorem dX11_happen_30 : decode cX11_happen 30 = .ok (.aload_n 0, 1) := by decide +kernel
theorem dX11_happen_31 : decode cX11_happen 31 = .ok (.getfield 29, 3) := by decide +kernel
theorem dX11_happen_34 : decode cX11_happen 34 = .ok (.getfield 144, 3) := by decide +kernel
theorem dX11_happen_37 : decode cX11_happen 37 = .ok (.invokevirtual 368, 3) := by decide +kernel
theorem dX11_happen_40 : decode cX11_happen 40 = .ok (.istore_n 2, 1) := by decide +kernel
theorem dX11_happen_41 : decode cX11_happen 41 = .ok (.iload_n 2, 1) := by decide +kernel
theorem dX11_happen_42 : decode cX11_happen 42 = .ok (.bipush 9, 2) := by decide +kernel
theorem dX11_happen_44 : decode cX11_happen 44 = .ok (.if_icmp .lt 4, 3) := by decide +kernel
theorem dX11_happen_47 : decode cX11_happen 47 = .ok (.return_, 1) := by decide +kernel
theorem dX11_happen_48 : decode cX11_happen 48 = .ok (.iload_n 1, 1) := by decide +kernel
theorem dX11_happen_49 : decode cX11_happen 49 = .ok (.ifCond .ne 17, 3) := by decide +kernel
theorem dX11_happen_52 : decode cX11_happen 52 = .ok (.aload_n 0, 1) := by decide +kernel
theorem dX11_happen_53 : decode cX11_happen 53 = .ok (.getfield 71, 3) := by decide +kernel
theorem dX11_happen_56 : decode cX11_happen 56 = .ok (.getfield 244, 3) := by decide +kernel
theorem dX11_happen_59 : decode cX11_happen 59 = .ok (.iload_n 2, 1) := by decide +kernel
theorem dX11_happen_60 : decode cX11_happen 60 = .ok (.invokevirtual 250, 3) := by decide +kernel
theorem dX11_happen_63 : decode cX11_happen 63 = .ok (.goto 60, 3) := by decide +kernel
theorem dX11_happen_66 : decode cX11_happen 66 = .ok (.iload_n 1, 1) := by decide +kernel
theorem dX11_happen_67 : decode cX11_happen 67 = .ok (.iconst 1, 1) := by decide +kernel
theorem dX11_happen_68 : decode cX11_happen 68 = .ok (.if_icmp .ne 17, 3) := by decide +kernel
theorem dX11_happen_71 : decode cX11_happen 71 = .ok (.aload_n 0, 1) := by decide +kernel
theorem dX11_happen_72 : decode cX11_happen 72 = .ok (.getfield 71, 3) := by decide +kernel
theorem dX11_happen_75 : decode cX11_happen 75 = .ok (.getfield 244, 3) := by decide +kernel
theorem dX11_happen_78 : decode cX11_happen 78 = .ok (.iload_n 2, 1) := by decide +kernel
theorem dX11_happen_79 : decode cX11_happen 79 = .ok (.invokevirtual 253, 3) := by decide +kernel
theorem dX11_happen_82 : decode cX11_happen 82 = .ok (.goto 41, 3) := by decide +kernel
theorem dX11_happen_85 : decode cX11_happen 85 = .ok (.aload_n 0, 1) := by decide +kernel
theorem dX11_happen_86 : decode cX11_happen 86 = .ok (.getfield 71, 3) := by decide +kernel
theorem dX11_happen_89 : decode cX11_happen 89 = .ok (.getfield 244, 3) := by decide +kernel
theorem dX11_happen_92 : decode cX11_happen 92 = .ok (.getfield 134, 3) := by decide +kernel
theorem dX11_happen_95 : decode cX11_happen 95 = .ok (.iload_n 2, 1) := by decide +kernel
theorem dX11_happen_96 : decode cX11_happen 96 = .ok (.aload_n 0, 1) := by decide +kernel
theorem dX11_happen_97 : decode cX11_happen 97 = .ok (.getfield 71, 3) := by decide +kernel
theorem dX11_happen_100 : decode cX11_happen 100 = .ok (.bipush 21, 2) := by decide +kernel
theorem dX11_happen_102 : decode cX11_happen 102 = .ok (.invokevirtual 368, 3) := by decide +kernel
theorem dX11_happen_105 : decode cX11_happen 105 = .ok (.iastore, 1) := by decide +kernel
theorem dX11_happen_106 : decode cX11_happen 106 = .ok (.aload_n 0, 1) := by decide +kernel
theorem dX11_happen_107 : decode cX11_happen 107 = .ok (.getfield 56, 3) := by decide +kernel
theorem dX11_happen_110 : decode cX11_happen 110 = .ok (.aload_n 0, 1) := by decide +kernel
theorem dX11_happen_111 : decode cX11_happen 111 = .ok (.getfield 71, 3) := by decide +kernel
theorem dX11_happen_114 : decode cX11_happen 114 = .ok (.getfield 244, 3) := by decide +kernel
theorem dX11_happen_117 : decode cX11_happen 117 = .ok (.getfield 134, 3) := by decide +kernel
theorem dX11_happen_120 : decode cX11_happen 120 = .ok (.invokevirtual 137, 3) := by decide +kernel
theorem dX11_happen_123 : decode cX11_happen 123 = .ok (.return_, 1) := by decide +kernel
set_option maxRecDepth 20000 in
theorem ggX11_image_X1_copy : GoodIn wsX11_image wsX1_copy := goodIn_r _ [8, 9, 10, 11, 12, 13, 14, 15, 16, 17, 18, 19, 20, 21, 22, 23, 24, 25, 26, 27, 28, 29, 30, 31, 32, 33, 34, 35, 36, 37, 38, 39, 40, 41, 42, 43, 44, 45, 46, 47, 48, 49, 50, 64, 65, 66, 67, 68, 69, 70, 71, 72, 73, 74, 75, 76, 77, 78, 79, 80] (by decide +kernel) (by decide +kernel)
set_option maxRecDepth 20000 in
theorem gX11_image_X1_copy : GoodIn wsX11_image (wsV RX11 371 RX1 yX1_copy wsX1_copy) := goodIn_app (goodIn_of _ (by decide +kernel)) ggX11_image_X1_copy
theorem dX11_image_0 : decode cX11_image 0 = .ok (.aload_n 0, 1) := by decide +kernel
theorem dX11_image_1 : decode cX11_image 1 = .ok (.getfield 40, 3) := by decide +kernel
theorem dX11_image_4 : decode cX11_image 4 = .ok (.aload_n 0, 1) := by decide +kernel
theorem dX11_image_5 : decode cX11_image 5 = .ok (.getfield 36, 3) := by decide +kernel
theorem dX11_image_8 : decode cX11_image 8 = .ok (.invokevirtual 371, 3) := by decide +kernel
theorem dX11_image_11 : decode cX11_image 11 = .ok (.aload_n 0, 1) := by decide +kernel
theorem dX11_image_12 : decode cX11_image 12 = .ok (.iconst 1, 1) := by decide +kernel
theorem dX11_image_13 : decode cX11_image 13 = .ok (.putfield 43, 3) := by decide +kernel
theorem dX11_image_16 : decode cX11_image 16 = .ok (.return_, 1) := by decide +kernel
set_option maxRecDepth 20000 in
theorem ggX11_restore_X1_copy : GoodIn wsX11_restore wsX1_copy := goodIn_r _ [11, 12, 13, 14, 15, 16, 17, 18, 19, 20, 21, 22, 23, 24, 25, 26, 27, 28, 29, 30, 31, 32, 33, 34, 35, 36, 37, 38, 39, 40, 41, 42, 43, 44, 45, 46, 47, 48, 49, 50, 51, 52, 53, 105, 106, 107, 108, 109, 110, 111, 112, 113, 114, 115, 116, 117, 118, 119, 120, 121] (by decide +kernel) (by decide +kernel)
set_option maxRecDepth 20000 in
theorem gX11_restore_X1_copy : GoodIn wsX11_restore (wsV RX11 371 RX1 yX1_copy wsX1_copy) := goodIn_app (goodIn_of _ (by decide +kernel)) ggX11_restore_X1_copy
set_option maxRecDepth 20000 in
theorem ggX11_restore_X6_build : GoodIn wsX11_restore wsX6_build := goodIn_r _ [58, 59, 60, 61, 62, 63, 64, 57, 65, 66, 67, 68, 69, 70, 71, 72, 73, 74, 75, 76, 77, 78, 79, 80, 81, 82, 83, 84, 85, 86, 87, 88, 89, 90, 91, 122, 123, 124, 125, 126, 127, 128, 129, 130, 131, 132, 133, 134, 135] (by decide +kernel) (by decide +kernel)
set_option maxRecDepth 20000 in
theorem gX11_restore_X6_build : GoodIn wsX11_restore (wsV RX11 137 RX6 yX6_build wsX6_build) := goodIn_app (goodIn_of _ (by decide +kernel)) ggX11_restore_X6_build
theorem dX11_restore_0 : decode cX11_restore 0 = .ok (.aload_n 0, 1) := by decide +kernel
theorem dX11_restore_1 : decode cX11_restore 1 = .ok (.getfield 43, 3) := by decide +kernel
theorem dX11_restore_4 : decode cX11_restore 4 = .ok (.ifCond .ne 5, 3) := by decide +kernel
theorem dX11_restore_7 : decode cX11_restore 7 = .ok (.iconst 0, 1) := by decide +kernel
theorem dX11_restore_8 : decode cX11_restore 8 = .ok (.ireturn, 1) := by decide +kernel
theorem dX11_restore_9 : decode cX11_restore 9 = .ok (.aload_n 0, 1) := by decide +kernel
theorem dX11_restore_10 : decode cX11_restore 10 = .ok (.getfield 36, 3) := by decide +kernel
theorem dX11_restore_13 : decode cX11_restore 13 = .ok (.aload_n 0, 1) := by decide +kernel
theorem dX11_restore_14 : decode cX11_restore 14 = .ok (.getfield 40, 3) := by decide +kernel
theorem dX11_restore_17 : decode cX11_restore 17 = .ok (.invokevirtual 371, 3) := by decide +kernel
theorem dX11_restore_20 : decode cX11_restore 20 = .ok (.aload_n 0, 1) := by decide +kernel
theorem dX11_restore_21 : decode cX11_restore 21 = .ok (.getfield 52, 3) := by decide +kernel
theorem dX11_restore_24 : decode cX11_restore 24 = .ok (.aload_n 0, 1) := by decide +kernel
theorem dX11_restore_25 : decode cX11_restore 25 = .ok (.getfield 36, 3) := by decide +kernel
theorem dX11_restore_28 : decode cX11_restore 28 = .ok (.getfield 109, 3) := by decide +kernel
theorem dX11_restore_31 : decode cX11_restore 31 = .ok (.getfield 134, 3) := by decide +kernel
theorem dX11_restore_34 : decode cX11_restore 34 = .ok (.invokevirtual 137, 3) := by decide +kernel
theorem dX11_restore_37 : decode cX11_restore 37 = .ok (.iconst 1, 1) := by decide +kernel
theorem dX11_restore_38 : decode cX11_restore 38 = .ok (.ireturn, 1) := by decide +kernel
theorem dX11_copyFarms_0 : decode cX11_copyFarms 0 = .ok (.aload_n 0, 1) := by decide +kernel
theorem dX11_copyFarms_1 : decode cX11_copyFarms 1 = .ok (.iconst 0, 1) := by decide +kernel
theorem dX11_copyFarms_2 : decode cX11_copyFarms 2 = .ok (.aload_n 1, 1) := by decide +kernel
theorem dX11_copyFarms_3 : decode cX11_copyFarms 3 = .ok (.iconst 0, 1) := by decide +kernel
theorem dX11_copyFarms_4 : decode cX11_copyFarms 4 = .ok (.bipush 9, 2) := by decide +kernel
theorem dX11_copyFarms_6 : decode cX11_copyFarms 6 = .ok (.invokestatic 374, 3) := by decide +kernel
theorem dX11_copyFarms_9 : decode cX11_copyFarms 9 = .ok (.return_, 1) := by decide +kernel
theorem dX12_init_0 : decode cX12_init 0 = .ok (.aload_n 0, 1) := by decide +kernel
theorem dX12_init_1 : decode cX12_init 1 = .ok (.invokespecial 3, 3) := by decide +kernel
theorem dX12_init_4 : decode cX12_init 4 = .ok (.aload_n 0, 1) := by decide +kernel
theorem dX12_init_5 : decode cX12_init 5 = .ok (.iconst 2, 1) := by decide +kernel
theorem dX12_init_6 : decode cX12_init 6 = .ok (.anewarray 9, 3) := by decide +kernel
theorem dX12_init_9 : decode cX12_init 9 = .ok (.dup, 1) := by decide +kernel
theorem dX12_init_10 : decode cX12_init 10 = .ok (.iconst 0, 1) := by decide +kernel
theorem dX12_init_11 : decode cX12_init 11 = .ok (.ldc 11, 2) := by decide +kernel
theorem dX12_init_13 : decode cX12_init 13 = .ok (.aastore, 1) := by decide +kernel
theorem dX12_init_14 : decode cX12_init 14 = .ok (.dup, 1) := by decide +kernel
theorem dX12_init_15 : decode cX12_init 15 = .ok (.iconst 1, 1) := by decide +kernel
theorem dX12_init_16 : decode cX12_init 16 = .ok (.ldc 13, 2) := by decide +kernel
theorem dX12_init_18 : decode cX12_init 18 = .ok (.aastore, 1) := by decide +kernel
theorem dX12_init_19 : decode cX12_init 19 = .ok (.putfield 15, 3) := by decide +kernel
theorem dX12_init_22 : decode cX12_init 22 = .ok (.aload_n 0, 1) := by decide +kernel
theorem dX12_init_23 : decode cX12_init 23 = .ok (.bipush 6, 2) := by decide +kernel
theorem dX12_init_25 : decode cX12_init 25 = .ok (.anewarray 9, 3) := by decide +kernel
theorem dX12_init_28 : decode cX12_init 28 = .ok (.dup, 1) := by decide +kernel
theorem dX12_init_29 : decode cX12_init 29 = .ok (.iconst 0, 1) := by decide +kernel
theorem dX12_init_30 : decode cX12_init 30 = .ok (.ldc 19, 2) := by decide +kernel
theorem dX12_init_32 : decode cX12_init 32 = .ok (.aastore, 1) := by decide +kernel
theorem dX12_init_33 : decode cX12_init 33 = .ok (.dup, 1) := by decide +kernel
theorem dX12_init_34 : decode cX12_init 34 = .ok (.iconst 1, 1) := by decide +kernel
theorem dX12_init_35 : decode cX12_init 35 = .ok (.ldc 21, 2) := by decide +kernel
theorem dX12_init_37 : decode cX12_init 37 = .ok (.aastore, 1) := by decide +kernel
theorem dX12_init_38 : decode cX12_init 38 = .ok (.dup, 1) := by decide +kernel
theorem dX12_init_39 : decode cX12_init 39 = .ok (.iconst 2, 1) := by decide +kernel
theorem dX12_init_40 : decode cX12_init 40 = .ok (.ldc 23, 2) := by decide +kernel
theorem dX12_init_42 : decode cX12_init 42 = .ok (.aastore, 1) := by decide +kernel
theorem dX12_init_43 : decode cX12_init 43 = .ok (.dup, 1) := by decide +kernel
theorem dX12_init_44 : decode cX12_init 44 = .ok (.iconst 3, 1) := by decide +kernel
theorem dX12_init_45 : decode cX12_init 45 = .ok (.ldc 25, 2) := by decide +kernel
theorem dX12_init_47 : decode cX12_init 47 = .ok (.aastore, 1) := by decide +kernel
theorem dX12_init_48 : decode cX12_init 48 = .ok (.dup, 1) := by decide +kernel
theorem dX12_init_49 : decode cX12_init 49 = .ok (.iconst 4, 1) := by decide +kernel
theorem dX12_init_50 : decode cX12_init 50 = .ok (.ldc 27, 2) := by decide +kernel
theorem dX12_init_52 : decode cX12_init 52 = .ok (.aastore, 1) := by decide +kernel
theorem dX12_init_53 : decode cX12_init 53 = .ok (.dup, 1) := by decide +kernel
theorem dX12_init_54 : decode cX12_init 54 = .ok (.iconst 5, 1) := by decide +kernel
theorem dX12_init_55 : decode cX12_init 55 = .ok (.ldc 29, 2) := by decide +kernel
theorem dX12_init_57 : decode cX12_init 57 = .ok (.aastore, 1) := by decide +kernel
theorem dX12_init_58 : decode cX12_init 58 = .ok (.putfield 31, 3) := by decide +kernel
theorem dX12_init_61 : decode cX12_init 61 = .ok (.aload_n 0, 1) := by decide +kernel
