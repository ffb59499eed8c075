theorem dX7_init_0 : decode cX7_init 0 = .ok (.aload_n 0, 1) := by decide +kernel
theorem dX7_init_1 : decode cX7_init 1 = .ok (.invokespecial 3, 3) := by decide +kernel
theorem dX7_init_4 : decode cX7_init 4 = .ok (.aload_n 0, 1) := by decide +kernel
theorem dX7_init_5 : decode cX7_init 5 = .ok (.aload_n 1, 1) := by decide +kernel
theorem dX7_init_6 : decode cX7_init 6 = .ok (.putfield 9, 3) := by decide +kernel
theorem dX7_init_9 : decode cX7_init 9 = .ok (.aload_n 0, 1) := by decide +kernel
theorem dX7_init_10 : decode cX7_init 10 = .ok (.aload_n 2, 1) := by decide +kernel
theorem dX7_init_11 : decode cX7_init 11 = .ok (.putfield 15, 3) := by decide +kernel
theorem dX7_init_14 : decode cX7_init 14 = .ok (.aload_n 0, 1) := by decide +kernel
theorem dX7_init_15 : decode cX7_init 15 = .ok (.aload_n 3, 1) := by decide +kernel
theorem dX7_init_16 : decode cX7_init 16 = .ok (.putfield 19, 3) := by decide +kernel
theorem dX7_init_19 : decode cX7_init 19 = .ok (.aload_n 0, 1) := by decide +kernel
theorem dX7_init_20 : decode cX7_init 20 = .ok (.iconst 0, 1) := by decide +kernel
theorem dX7_init_21 : decode cX7_init 21 = .ok (.aload_n 1, 1) := by decide +kernel
theorem dX7_init_22 : decode cX7_init 22 = .ok (.getfield 23, 3) := by decide +kernel
theorem dX7_init_25 : decode cX7_init 25 = .ok (.invokestatic 29, 3) := by decide +kernel
theorem dX7_init_28 : decode cX7_init 28 = .ok (.newarray .long, 2) := by decide +kernel
theorem dX7_init_30 : decode cX7_init 30 = .ok (.putfield 35, 3) := by decide +kernel
theorem dX7_init_33 : decode cX7_init 33 = .ok (.aload_n 0, 1) := by decide +kernel
theorem dX7_init_34 : decode cX7_init 34 = .ok (.new 39, 3) := by decide +kernel
theorem dX7_init_37 : decode cX7_init 37 = .ok (.dup, 1) := by decide +kernel
theorem dX7_init_38 : decode cX7_init 38 = .ok (.iload 4, 2) := by decide +kernel
theorem dX7_init_40 : decode cX7_init 40 = .ok (.invokespecial 41, 3) := by decide +kernel
theorem dX7_init_43 : decode cX7_init 43 = .ok (.putfield 44, 3) := by decide +kernel
theorem dX7_init_46 : decode cX7_init 46 = .ok (.aload_n 0, 1) := by decide +kernel
theorem dX7_init_47 : decode cX7_init 47 = .ok (.new 39, 3) := by decide +kernel
theorem dX7_init_50 : decode cX7_init 50 = .ok (.dup, 1) := by decide +kernel
theorem dX7_init_51 : decode cX7_init 51 = .ok (.iload 4, 2) := by decide +kernel
theorem dX7_init_53 : decode cX7_init 53 = .ok (.invokespecial 41, 3) := by decide +kernel
theorem dX7_init_56 : decode cX7_init 56 = .ok (.putfield 48, 3) := by decide +kernel
theorem dX7_init_59 : decode cX7_init 59 = .ok (.return_, 1) := by decide +kernel
set_option maxRecDepth 20000 in
theorem ggX7_beginStep_X5_canSum : GoodIn wsX7_beginStep wsX5_canSum := goodIn_r _ [10, 11, 12, 13, 14, 15, 9, 16, 17, 47, 48, 49, 50, 51, 52, 53] (by decide +kernel) (by decide +kernel)
set_option maxRecDepth 20000 in
theorem gX7_beginStep_X5_canSum : GoodIn wsX7_beginStep (wsV RX7 55 RX5 yX5_canSum wsX5_canSum) := goodIn_app (goodIn_of _ (by decide +kernel)) ggX7_beginStep_X5_canSum
set_option maxRecDepth 20000 in
theorem ggX7_beginStep_X6_clear : GoodIn wsX7_beginStep wsX6_clear := goodIn_r _ [22, 23, 54, 55] (by decide +kernel) (by decide +kernel)
set_option maxRecDepth 20000 in
theorem gX7_beginStep_X6_clear : GoodIn wsX7_beginStep (wsV RX7 64 RX6 yX6_clear wsX6_clear) := goodIn_app (goodIn_of _ (by decide +kernel)) ggX7_beginStep_X6_clear
set_option maxRecDepth 20000 in
theorem ggX7_beginStep_X7_beginRun : GoodIn wsX7_beginStep wsX7_beginRun := goodIn_r _ [28, 29, 30, 31, 32, 33, 34, 35, 36, 37, 38, 39, 40, 41, 42, 43, 44, 45, 46] (by decide +kernel) (by decide +kernel)
set_option maxRecDepth 20000 in
theorem gX7_beginStep_X7_beginRun : GoodIn wsX7_beginStep (wsV RX7 67 RX7 yX7_beginRun wsX7_beginRun) := goodIn_app (goodIn_of _ (by decide +kernel)) ggX7_beginStep_X7_beginRun
theorem dX7_beginStep_0 : decode cX7_beginStep 0 = .ok (.aload_n 0, 1) := by decide +kernel
theorem dX7_beginStep_1 : decode cX7_beginStep 1 = .ok (.iload_n 1, 1) := by decide +kernel
theorem dX7_beginStep_2 : decode cX7_beginStep 2 = .ok (.ifCond .eq 7, 3) := by decide +kernel
theorem dX7_beginStep_5 : decode cX7_beginStep 5 = .ok (.iconst 1, 1) := by decide +kernel
theorem dX7_beginStep_6 : decode cX7_beginStep 6 = .ok (.goto 4, 3) := by decide +kernel
theorem dX7_beginStep_9 : decode cX7_beginStep 9 = .ok (.iconst 0, 1) := by decide +kernel
theorem dX7_beginStep_10 : decode cX7_beginStep 10 = .ok (.putfield 51, 3) := by decide +kernel
theorem dX7_beginStep_13 : decode cX7_beginStep 13 = .ok (.aload_n 0, 1) := by decide +kernel
theorem dX7_beginStep_14 : decode cX7_beginStep 14 = .ok (.iload_n 1, 1) := by decide +kernel
theorem dX7_beginStep_15 : decode cX7_beginStep 15 = .ok (.iconst 2, 1) := by decide +kernel
theorem dX7_beginStep_16 : decode cX7_beginStep 16 = .ok (.if_icmp .ne 17, 3) := by decide +kernel
theorem dX7_beginStep_19 : decode cX7_beginStep 19 = .ok (.aload_n 0, 1) := by decide +kernel
theorem dX7_beginStep_20 : decode cX7_beginStep 20 = .ok (.getfield 15, 3) := by decide +kernel
theorem dX7_beginStep_23 : decode cX7_beginStep 23 = .ok (.invokevirtual 55, 3) := by decide +kernel
theorem dX7_beginStep_26 : decode cX7_beginStep 26 = .ok (.ifCond .eq 7, 3) := by decide +kernel
theorem dX7_beginStep_29 : decode cX7_beginStep 29 = .ok (.iconst 1, 1) := by decide +kernel
theorem dX7_beginStep_30 : decode cX7_beginStep 30 = .ok (.goto 4, 3) := by decide +kernel
theorem dX7_beginStep_33 : decode cX7_beginStep 33 = .ok (.iconst 0, 1) := by decide +kernel
theorem dX7_beginStep_34 : decode cX7_beginStep 34 = .ok (.putfield 61, 3) := by decide +kernel
theorem dX7_beginStep_37 : decode cX7_beginStep 37 = .ok (.aload_n 0, 1) := by decide +kernel
theorem dX7_beginStep_38 : decode cX7_beginStep 38 = .ok (.getfield 44, 3) := by decide +kernel
theorem dX7_beginStep_41 : decode cX7_beginStep 41 = .ok (.invokevirtual 64, 3) := by decide +kernel
theorem dX7_beginStep_44 : decode cX7_beginStep 44 = .ok (.aload_n 0, 1) := by decide +kernel
theorem dX7_beginStep_45 : decode cX7_beginStep 45 = .ok (.getfield 48, 3) := by decide +kernel
theorem dX7_beginStep_48 : decode cX7_beginStep 48 = .ok (.invokevirtual 64, 3) := by decide +kernel
theorem dX7_beginStep_51 : decode cX7_beginStep 51 = .ok (.aload_n 0, 1) := by decide +kernel
theorem dX7_beginStep_52 : decode cX7_beginStep 52 = .ok (.invokevirtual 67, 3) := by decide +kernel
theorem dX7_beginStep_55 : decode cX7_beginStep 55 = .ok (.return_, 1) := by decide +kernel
set_option maxRecDepth 20000 in
theorem ggX7_undoStep_X6_size : GoodIn wsX7_undoStep wsX6_size := goodIn_r _ [8, 9, 38, 39] (by decide +kernel) (by decide +kernel)
set_option maxRecDepth 20000 in
theorem gX7_undoStep_X6_size : GoodIn wsX7_undoStep (wsV RX7 70 RX6 yX6_size wsX6_size) := goodIn_app (goodIn_of _ (by decide +kernel)) ggX7_undoStep_X6_size
set_option maxRecDepth 20000 in
theorem ggX7_undoStep_X6_get : GoodIn wsX7_undoStep wsX6_get := goodIn_r _ [13, 9, 14, 38, 39] (by decide +kernel) (by decide +kernel)
set_option maxRecDepth 20000 in
theorem gX7_undoStep_X6_get : GoodIn wsX7_undoStep (wsV RX7 73 RX6 yX6_get wsX6_get) := goodIn_app (goodIn_of _ (by decide +kernel)) ggX7_undoStep_X6_get
set_option maxRecDepth 20000 in
theorem ggX7_undoStep_X0_release : GoodIn wsX7_undoStep wsX0_release := goodIn_r _ [19, 20, 40, 41, 42, 43, 44, 45, 46, 47, 48] (by decide +kernel) (by decide +kernel)
set_option maxRecDepth 20000 in
theorem gX7_undoStep_X0_release : GoodIn wsX7_undoStep (wsV RX7 77 RX0 yX0_release wsX0_release) := goodIn_app (goodIn_of _ (by decide +kernel)) ggX7_undoStep_X0_release
set_option maxRecDepth 20000 in
theorem ggX7_undoStep_X6_clear : GoodIn wsX7_undoStep wsX6_clear := goodIn_r _ [24, 9, 38, 39] (by decide +kernel) (by decide +kernel)
set_option maxRecDepth 20000 in
theorem gX7_undoStep_X6_clear : GoodIn wsX7_undoStep (wsV RX7 64 RX6 yX6_clear wsX6_clear) := goodIn_app (goodIn_of _ (by decide +kernel)) ggX7_undoStep_X6_clear
theorem dX7_undoStep_0 : decode cX7_undoStep 0 = .ok (.iconst 0, 1) := by decide +kernel
theorem dX7_undoStep_1 : decode cX7_undoStep 1 = .ok (.istore_n 1, 1) := by decide +kernel
theorem dX7_undoStep_2 : decode cX7_undoStep 2 = .ok (.iload_n 1, 1) := by decide +kernel
theorem dX7_undoStep_3 : decode cX7_undoStep 3 = .ok (.aload_n 0, 1) := by decide +kernel
theorem dX7_undoStep_4 : decode cX7_undoStep 4 = .ok (.getfield 44, 3) := by decide +kernel
theorem dX7_undoStep_7 : decode cX7_undoStep 7 = .ok (.invokevirtual 70, 3) := by decide +kernel
theorem dX7_undoStep_10 : decode cX7_undoStep 10 = .ok (.if_icmp .ge 24, 3) := by decide +kernel
theorem dX7_undoStep_13 : decode cX7_undoStep 13 = .ok (.aload_n 0, 1) := by decide +kernel
theorem dX7_undoStep_14 : decode cX7_undoStep 14 = .ok (.getfield 9, 3) := by decide +kernel
theorem dX7_undoStep_17 : decode cX7_undoStep 17 = .ok (.aload_n 0, 1) := by decide +kernel
theorem dX7_undoStep_18 : decode cX7_undoStep 18 = .ok (.getfield 44, 3) := by decide +kernel
theorem dX7_undoStep_21 : decode cX7_undoStep 21 = .ok (.iload_n 1, 1) := by decide +kernel
theorem dX7_undoStep_22 : decode cX7_undoStep 22 = .ok (.invokevirtual 73, 3) := by decide +kernel
theorem dX7_undoStep_25 : decode cX7_undoStep 25 = .ok (.invokevirtual 77, 3) := by decide +kernel
theorem dX7_undoStep_28 : decode cX7_undoStep 28 = .ok (.iinc 1 1, 3) := by decide +kernel
theorem dX7_undoStep_31 : decode cX7_undoStep 31 = .ok (.goto (-29), 3) := by decide +kernel
theorem dX7_undoStep_34 : decode cX7_undoStep 34 = .ok (.aload_n 0, 1) := by decide +kernel
theorem dX7_undoStep_35 : decode cX7_undoStep 35 = .ok (.getfield 44, 3) := by decide +kernel
theorem dX7_undoStep_38 : decode cX7_undoStep 38 = .ok (.invokevirtual 64, 3) := by decide +kernel
theorem dX7_undoStep_41 : decode cX7_undoStep 41 = .ok (.aload_n 0, 1) := by decide +kernel
theorem dX7_undoStep_42 : decode cX7_undoStep 42 = .ok (.getfield 48, 3) := by decide +kernel
theorem dX7_undoStep_45 : decode cX7_undoStep 45 = .ok (.invokevirtual 64, 3) := by decide +kernel
theorem dX7_undoStep_48 : decode cX7_undoStep 48 = .ok (.return_, 1) := by decide +kernel
set_option maxRecDepth 20000 in
theorem ggX7_addNewRuns_X6_size : GoodIn wsX7_addNewRuns wsX6_size := goodIn_r _ [6, 7, 30, 31] (by decide +kernel) (by decide +kernel)
set_option maxRecDepth 20000 in
theorem gX7_addNewRuns_X6_size : GoodIn wsX7_addNewRuns (wsV RX7 70 RX6 yX6_size wsX6_size) := goodIn_app (goodIn_of _ (by decide +kernel)) ggX7_addNewRuns_X6_size
set_option maxRecDepth 20000 in
theorem ggX7_addNewRuns_X6_get : GoodIn wsX7_addNewRuns wsX6_get := goodIn_r _ [11, 7, 12, 30, 31] (by decide +kernel) (by decide +kernel)
set_option maxRecDepth 20000 in
theorem gX7_addNewRuns_X6_get : GoodIn wsX7_addNewRuns (wsV RX7 73 RX6 yX6_get wsX6_get) := goodIn_app (goodIn_of _ (by decide +kernel)) ggX7_addNewRuns_X6_get
set_option maxRecDepth 20000 in
theorem ggX7_addNewRuns_X6_add : GoodIn wsX7_addNewRuns wsX6_add := goodIn_r _ [16, 7, 12, 30, 31] (by decide +kernel) (by decide +kernel)
set_option maxRecDepth 20000 in
theorem gX7_addNewRuns_X6_add : GoodIn wsX7_addNewRuns (wsV RX7 80 RX6 yX6_add wsX6_add) := goodIn_app (goodIn_of _ (by decide +kernel)) ggX7_addNewRuns_X6_add
theorem dX7_addNewRuns_0 : decode cX7_addNewRuns 0 = .ok (.iconst 0, 1) := by decide +kernel
theorem dX7_addNewRuns_1 : decode cX7_addNewRuns 1 = .ok (.istore_n 2, 1) := by decide +kernel
theorem dX7_addNewRuns_2 : decode cX7_addNewRuns 2 = .ok (.iload_n 2, 1) := by decide +kernel
theorem dX7_addNewRuns_3 : decode cX7_addNewRuns 3 = .ok (.aload_n 0, 1) := by decide +kernel
theorem dX7_addNewRuns_4 : decode cX7_addNewRuns 4 = .ok (.getfield 48, 3) := by decide +kernel
theorem dX7_addNewRuns_7 : decode cX7_addNewRuns 7 = .ok (.invokevirtual 70, 3) := by decide +kernel
theorem dX7_addNewRuns_10 : decode cX7_addNewRuns 10 = .ok (.if_icmp .ge 21, 3) := by decide +kernel
theorem dX7_addNewRuns_13 : decode cX7_addNewRuns 13 = .ok (.aload_n 1, 1) := by decide +kernel
theorem dX7_addNewRuns_14 : decode cX7_addNewRuns 14 = .ok (.aload_n 0, 1) := by decide +kernel
theorem dX7_addNewRuns_15 : decode cX7_addNewRuns 15 = .ok (.getfield 48, 3) := by decide +kernel
theorem dX7_addNewRuns_18 : decode cX7_addNewRuns 18 = .ok (.iload_n 2, 1) := by decide +kernel
theorem dX7_addNewRuns_19 : decode cX7_addNewRuns 19 = .ok (.invokevirtual 73, 3) := by decide +kernel
theorem dX7_addNewRuns_22 : decode cX7_addNewRuns 22 = .ok (.invokevirtual 80, 3) := by decide +kernel
theorem dX7_addNewRuns_25 : decode cX7_addNewRuns 25 = .ok (.iinc 2 1, 3) := by decide +kernel
theorem dX7_addNewRuns_28 : decode cX7_addNewRuns 28 = .ok (.goto (-26), 3) := by decide +kernel
theorem dX7_addNewRuns_31 : decode cX7_addNewRuns 31 = .ok (.return_, 1) := by decide +kernel
set_option maxRecDepth 20000 in
theorem ggX7_goOut_X5_isAlike : GoodIn wsX7_goOut wsX5_isAlike := goodIn_r _ [12, 13, 14, 15, 11, 16, 17, 18, 19, 20, 21, 22, 23, 24, 25, 26, 27, 92, 93, 94, 95, 96, 97, 98, 99, 100, 101, 102, 103, 104, 105, 106, 107] (by decide +kernel) (by decide +kernel)
set_option maxRecDepth 20000 in
theorem gX7_goOut_X5_isAlike : GoodIn wsX7_goOut (wsV RX7 86 RX5 yX5_isAlike wsX5_isAlike) := goodIn_app (goodIn_of _ (by decide +kernel)) ggX7_goOut_X5_isAlike
set_option maxRecDepth 20000 in
theorem ggX7_goOut_X0_cell : GoodIn wsX7_goOut wsX0_cell := goodIn_r _ [26, 27, 99, 100, 101, 102, 103, 104, 105, 106, 107] (by decide +kernel) (by decide +kernel)
set_option maxRecDepth 20000 in
theorem gX7_goOut_X0_cell : GoodIn wsX7_goOut (wsV RX7 93 RX0 yX0_cell wsX0_cell) := goodIn_app (goodIn_of _ (by decide +kernel)) ggX7_goOut_X0_cell
set_option maxRecDepth 20000 in
theorem ggX7_goOut_X7_addToWaiting : GoodIn wsX7_goOut wsX7_addToWaiting := goodIn_r _ [33, 6, 3, 7, 79, 80, 81, 82, 83, 84, 85, 86, 87, 88, 89, 90, 91, 92, 93, 94, 95, 96, 97, 98] (by decide +kernel) (by decide +kernel)
set_option maxRecDepth 20000 in
theorem gX7_goOut_X7_addToWaiting : GoodIn wsX7_goOut (wsV RX7 97 RX7 yX7_addToWaiting wsX7_addToWaiting) := goodIn_app (goodIn_of _ (by decide +kernel)) ggX7_goOut_X7_addToWaiting
set_option maxRecDepth 20000 in
theorem ggX7_goOut_X7_settleWaiting : GoodIn wsX7_goOut wsX7_settleWaiting := goodIn_r _ [37, 2, 6, 38, 3, 39, 40, 41, 32, 42, 5, 7, 43, 44, 45, 46, 47, 48, 49, 25, 50, 51, 52, 53, 54, 55, 27, 56, 57, 58, 59, 60, 61, 62, 63, 64, 65, 66, 67, 68, 69, 70, 71, 72, 73, 74, 75, 76, 77, 78, 79, 80, 81, 82, 83, 84, 85, 86, 87, 88, 89, 90, 91, 92, 93, 94, 95, 96, 97, 98, 99, 100, 101, 102, 103, 104, 105, 106, 107, 108, 109, 110, 111, 112] (by decide +kernel) (by decide +kernel)
set_option maxRecDepth 20000 in
theorem gX7_goOut_X7_settleWaiting : GoodIn wsX7_goOut (wsV RX7 101 RX7 yX7_settleWaiting wsX7_settleWaiting) := goodIn_app (goodIn_of _ (by decide +kernel)) ggX7_goOut_X7_settleWaiting
theorem dX7_goOut_0 : decode cX7_goOut 0 = .ok (.aload_n 0, 1) := by decide +kernel
theorem dX7_goOut_1 : decode cX7_goOut 1 = .ok (.getfield 51, 3) := by decide +kernel
theorem dX7_goOut_4 : decode cX7_goOut 4 = .ok (.ifCond .eq 57, 3) := by decide +kernel
theorem dX7_goOut_7 : decode cX7_goOut 7 = .ok (.aload_n 0, 1) := by decide +kernel
theorem dX7_goOut_8 : decode cX7_goOut 8 = .ok (.getfield 83, 3) := by decide +kernel
theorem dX7_goOut_11 : decode cX7_goOut 11 = .ok (.iconst (-1), 1) := by decide +kernel
theorem dX7_goOut_12 : decode cX7_goOut 12 = .ok (.if_icmp .eq 49, 3) := by decide +kernel
theorem dX7_goOut_15 : decode cX7_goOut 15 = .ok (.aload_n 0, 1) := by decide +kernel
theorem dX7_goOut_16 : decode cX7_goOut 16 = .ok (.getfield 15, 3) := by decide +kernel
theorem dX7_goOut_19 : decode cX7_goOut 19 = .ok (.aload_n 0, 1) := by decide +kernel
theorem dX7_goOut_20 : decode cX7_goOut 20 = .ok (.getfield 83, 3) := by decide +kernel
theorem dX7_goOut_23 : decode cX7_goOut 23 = .ok (.iload_n 1, 1) := by decide +kernel
theorem dX7_goOut_24 : decode cX7_goOut 24 = .ok (.invokevirtual 86, 3) := by decide +kernel
theorem dX7_goOut_27 : decode cX7_goOut 27 = .ok (.ifCond .eq 34, 3) := by decide +kernel
theorem dX7_goOut_30 : decode cX7_goOut 30 = .ok (.aload_n 0, 1) := by decide +kernel
theorem dX7_goOut_31 : decode cX7_goOut 31 = .ok (.getfield 61, 3) := by decide +kernel
theorem dX7_goOut_34 : decode cX7_goOut 34 = .ok (.ifCond .eq 25, 3) := by decide +kernel
theorem dX7_goOut_37 : decode cX7_goOut 37 = .ok (.aload_n 0, 1) := by decide +kernel
theorem dX7_goOut_38 : decode cX7_goOut 38 = .ok (.aload_n 0, 1) := by decide +kernel
theorem dX7_goOut_39 : decode cX7_goOut 39 = .ok (.getfield 9, 3) := by decide +kernel
theorem dX7_goOut_42 : decode cX7_goOut 42 = .ok (.iload_n 1, 1) := by decide +kernel
theorem dX7_goOut_43 : decode cX7_goOut 43 = .ok (.aload_n 0, 1) := by decide +kernel
theorem dX7_goOut_44 : decode cX7_goOut 44 = .ok (.getfield 15, 3) := by decide +kernel
theorem dX7_goOut_47 : decode cX7_goOut 47 = .ok (.getfield 90, 3) := by decide +kernel
theorem dX7_goOut_50 : decode cX7_goOut 50 = .ok (.iadd, 1) := by decide +kernel
theorem dX7_goOut_51 : decode cX7_goOut 51 = .ok (.iconst 1, 1) := by decide +kernel
theorem dX7_goOut_52 : decode cX7_goOut 52 = .ok (.isub, 1) := by decide +kernel
theorem dX7_goOut_53 : decode cX7_goOut 53 = .ok (.invokevirtual 93, 3) := by decide +kernel
theorem dX7_goOut_56 : decode cX7_goOut 56 = .ok (.invokevirtual 97, 3) := by decide +kernel
theorem dX7_goOut_59 : decode cX7_goOut 59 = .ok (.iconst 1, 1) := by decide +kernel
theorem dX7_goOut_60 : decode cX7_goOut 60 = .ok (.ireturn, 1) := by decide +kernel
theorem dX7_goOut_61 : decode cX7_goOut 61 = .ok (.aload_n 0, 1) := by decide +kernel
theorem dX7_goOut_62 : decode cX7_goOut 62 = .ok (.invokevirtual 101, 3) := by decide +kernel
theorem dX7_goOut_65 : decode cX7_goOut 65 = .ok (.ifCond .ne 5, 3) := by decide +kernel
theorem dX7_goOut_68 : decode cX7_goOut 68 = .ok (.iconst 0, 1) := by decide +kernel
theorem dX7_goOut_69 : decode cX7_goOut 69 = .ok (.ireturn, 1) := by decide +kernel
theorem dX7_goOut_70 : decode cX7_goOut 70 = .ok (.aload_n 0, 1) := by decide +kernel
theorem dX7_goOut_71 : decode cX7_goOut 71 = .ok (.getfield 104, 3) := by decide +kernel
theorem dX7_goOut_74 : decode cX7_goOut 74 = .ok (.aload_n 0, 1) := by decide +kernel
theorem dX7_goOut_75 : decode cX7_goOut 75 = .ok (.getfield 15, 3) := by decide +kernel
theorem dX7_goOut_78 : decode cX7_goOut 78 = .ok (.getfield 107, 3) := by decide +kernel
theorem dX7_goOut_81 : decode cX7_goOut 81 = .ok (.imul, 1) := by decide +kernel
theorem dX7_goOut_82 : decode cX7_goOut 82 = .ok (.istore_n 2, 1) := by decide +kernel
theorem dX7_goOut_83 : decode cX7_goOut 83 = .ok (.iconst 0, 1) := by decide +kernel
theorem dX7_goOut_84 : decode cX7_goOut 84 = .ok (.istore_n 3, 1) := by decide +kernel
theorem dX7_goOut_85 : decode cX7_goOut 85 = .ok (.iload_n 3, 1) := by decide +kernel
theorem dX7_goOut_86 : decode cX7_goOut 86 = .ok (.aload_n 0, 1) := by decide +kernel
theorem dX7_goOut_87 : decode cX7_goOut 87 = .ok (.getfield 15, 3) := by decide +kernel
theorem dX7_goOut_90 : decode cX7_goOut 90 = .ok (.getfield 107, 3) := by decide +kernel
theorem dX7_goOut_93 : decode cX7_goOut 93 = .ok (.if_icmp .ge 42, 3) := by decide +kernel
theorem dX7_goOut_96 : decode cX7_goOut 96 = .ok (.iload_n 2, 1) := by decide +kernel
theorem dX7_goOut_97 : decode cX7_goOut 97 = .ok (.ifCond .lt 38, 3) := by decide +kernel
theorem dX7_goOut_100 : decode cX7_goOut 100 = .ok (.iload_n 2, 1) := by decide +kernel
theorem dX7_goOut_101 : decode cX7_goOut 101 = .ok (.iload_n 3, 1) := by decide +kernel
theorem dX7_goOut_102 : decode cX7_goOut 102 = .ok (.iadd, 1) := by decide +kernel
theorem dX7_goOut_103 : decode cX7_goOut 103 = .ok (.aload_n 0, 1) := by decide +kernel
theorem dX7_goOut_104 : decode cX7_goOut 104 = .ok (.getfield 35, 3) := by decide +kernel
theorem dX7_goOut_107 : decode cX7_goOut 107 = .ok (.arraylength, 1) := by decide +kernel
theorem dX7_goOut_108 : decode cX7_goOut 108 = .ok (.if_icmp .ge 27, 3) := by decide +kernel
theorem dX7_goOut_111 : decode cX7_goOut 111 = .ok (.aload_n 0, 1) := by decide +kernel
theorem dX7_goOut_112 : decode cX7_goOut 112 = .ok (.getfield 35, 3) := by decide +kernel
theorem dX7_goOut_115 : decode cX7_goOut 115 = .ok (.iload_n 2, 1) := by decide +kernel
theorem dX7_goOut_116 : decode cX7_goOut 116 = .ok (.iload_n 3, 1) := by decide +kernel
theorem dX7_goOut_117 : decode cX7_goOut 117 = .ok (.iadd, 1) := by decide +kernel
theorem dX7_goOut_118 : decode cX7_goOut 118 = .ok (.aload_n 0, 1) := by decide +kernel
theorem dX7_goOut_119 : decode cX7_goOut 119 = .ok (.getfield 9, 3) := by decide +kernel
theorem dX7_goOut_122 : decode cX7_goOut 122 = .ok (.iload_n 1, 1) := by decide +kernel
theorem dX7_goOut_123 : decode cX7_goOut 123 = .ok (.iload_n 3, 1) := by decide +kernel
theorem dX7_goOut_124 : decode cX7_goOut 124 = .ok (.iadd, 1) := by decide +kernel
theorem dX7_goOut_125 : decode cX7_goOut 125 = .ok (.invokevirtual 93, 3) := by decide +kernel
theorem dX7_goOut_128 : decode cX7_goOut 128 = .ok (.lastore, 1) := by decide +kernel
theorem dX7_goOut_129 : decode cX7_goOut 129 = .ok (.iinc 3 1, 3) := by decide +kernel
theorem dX7_goOut_132 : decode cX7_goOut 132 = .ok (.goto (-47), 3) := by decide +kernel
theorem dX7_goOut_135 : decode cX7_goOut 135 = .ok (.aload_n 0, 1) := by decide +kernel
theorem dX7_goOut_136 : decode cX7_goOut 136 = .ok (.iload_n 1, 1) := by decide +kernel
theorem dX7_goOut_137 : decode cX7_goOut 137 = .ok (.putfield 83, 3) := by decide +kernel
theorem dX7_goOut_140 : decode cX7_goOut 140 = .ok (.aload_n 0, 1) := by decide +kernel
theorem dX7_goOut_141 : decode cX7_goOut 141 = .ok (.getfield 51, 3) := by decide +kernel
theorem dX7_goOut_144 : decode cX7_goOut 144 = .ok (.ifCond .ne 10, 3) := by decide +kernel
theorem dX7_goOut_147 : decode cX7_goOut 147 = .ok (.aload_n 0, 1) := by decide +kernel
theorem dX7_goOut_148 : decode cX7_goOut 148 = .ok (.invokevirtual 101, 3) := by decide +kernel
theorem dX7_goOut_151 : decode cX7_goOut 151 = .ok (.ifCond .eq 7, 3) := by decide +kernel
theorem dX7_goOut_154 : decode cX7_goOut 154 = .ok (.iconst 1, 1) := by decide +kernel
theorem dX7_goOut_155 : decode cX7_goOut 155 = .ok (.goto 4, 3) := by decide +kernel
theorem dX7_goOut_158 : decode cX7_goOut 158 = .ok (.iconst 0, 1) := by decide +kernel
theorem dX7_goOut_159 : decode cX7_goOut 159 = .ok (.ireturn, 1) := by decide +kernel
set_option maxRecDepth 20000 in
theorem ggX7_endRun_X7_settleWaiting : GoodIn wsX7_endRun wsX7_settleWaiting := goodIn_r _ [10, 11, 1, 4, 12, 13, 14, 15, 9, 16, 17, 18, 19, 3, 20, 2, 21, 22, 23, 24, 25, 26, 27, 28, 29, 30, 31, 32, 33, 34, 35, 36, 37, 38, 39, 40, 41, 42, 43, 44, 45, 46, 47, 48, 49, 50, 51, 52, 53, 54, 64, 65, 66, 67, 68, 69, 70, 71, 72, 73, 74, 75, 76, 77, 78, 79, 80, 81, 82, 83, 84, 85, 86, 87, 88, 89, 90, 91, 92, 93, 94, 95, 96, 97] (by decide +kernel) (by decide +kernel)
set_option maxRecDepth 20000 in
theorem gX7_endRun_X7_settleWaiting : GoodIn wsX7_endRun (wsV RX7 101 RX7 yX7_settleWaiting wsX7_settleWaiting) := goodIn_app (goodIn_of _ (by decide +kernel)) ggX7_endRun_X7_settleWaiting
set_option maxRecDepth 20000 in
theorem ggX7_endRun_X7_writePage : GoodIn wsX7_endRun wsX7_writePage := goodIn_r _ [16, 17, 18, 1, 12, 19, 3, 20, 2, 21, 22, 23, 24, 25, 26, 27, 28, 29, 30, 31, 32, 33, 34, 35, 36, 37, 38, 39, 40, 41, 42, 43, 44, 45, 46, 47, 48, 49, 50, 51, 52, 53, 54, 64, 65, 66, 67, 68, 69, 70, 71, 72, 73, 74, 75, 76, 77, 78, 79, 80, 81, 82, 83, 84, 85, 86, 87, 88, 89, 90, 91, 92, 93, 94, 95, 96, 97] (by decide +kernel) (by decide +kernel)
set_option maxRecDepth 20000 in
theorem gX7_endRun_X7_writePage : GoodIn wsX7_endRun (wsV RX7 110 RX7 yX7_writePage wsX7_writePage) := goodIn_app (goodIn_of _ (by decide +kernel)) ggX7_endRun_X7_writePage
set_option maxRecDepth 20000 in
theorem ggX7_endRun_X1_setHeld : GoodIn wsX7_endRun wsX1_setHeld := goodIn_r _ [58, 59, 95, 96, 97] (by decide +kernel) (by decide +kernel)
set_option maxRecDepth 20000 in
theorem gX7_endRun_X1_setHeld : GoodIn wsX7_endRun (wsV RX7 119 RX1 yX1_setHeld wsX1_setHeld) := goodIn_app (goodIn_of _ (by decide +kernel)) ggX7_endRun_X1_setHeld
set_option maxRecDepth 20000 in
theorem ggX7_endRun_X6_add : GoodIn wsX7_endRun wsX6_add := goodIn_r _ [46, 47, 48, 93, 94] (by decide +kernel) (by decide +kernel)
set_option maxRecDepth 20000 in
theorem gX7_endRun_X6_add : GoodIn wsX7_endRun (wsV RX7 80 RX6 yX6_add wsX6_add) := goodIn_app (goodIn_of _ (by decide +kernel)) ggX7_endRun_X6_add
set_option maxRecDepth 20000 in
theorem ggX7_endRun_X7_beginRun : GoodIn wsX7_endRun wsX7_beginRun := goodIn_r _ [63, 1, 11, 2, 20, 4, 64, 65, 66, 67, 68, 69, 70, 71, 72, 73, 74, 75, 76] (by decide +kernel) (by decide +kernel)
set_option maxRecDepth 20000 in
theorem gX7_endRun_X7_beginRun : GoodIn wsX7_endRun (wsV RX7 67 RX7 yX7_beginRun wsX7_beginRun) := goodIn_app (goodIn_of _ (by decide +kernel)) ggX7_endRun_X7_beginRun
theorem dX7_endRun_0 : decode cX7_endRun 0 = .ok (.aload_n 0, 1) := by decide +kernel
theorem dX7_endRun_1 : decode cX7_endRun 1 = .ok (.invokevirtual 101, 3) := by decide +kernel
theorem dX7_endRun_4 : decode cX7_endRun 4 = .ok (.ifCond .eq 17, 3) := by decide +kernel
theorem dX7_endRun_7 : decode cX7_endRun 7 = .ok (.aload_n 0, 1) := by decide +kernel
theorem dX7_endRun_8 : decode cX7_endRun 8 = .ok (.getfield 104, 3) := by decide +kernel
theorem dX7_endRun_11 : decode cX7_endRun 11 = .ok (.ifCond .le 12, 3) := by decide +kernel
theorem dX7_endRun_14 : decode cX7_endRun 14 = .ok (.aload_n 0, 1) := by decide +kernel
theorem dX7_endRun_15 : decode cX7_endRun 15 = .ok (.invokevirtual 110, 3) := by decide +kernel
theorem dX7_endRun_18 : decode cX7_endRun 18 = .ok (.ifCond .ne 5, 3) := by decide +kernel
theorem dX7_endRun_21 : decode cX7_endRun 21 = .ok (.iconst 0, 1) := by decide +kernel
theorem dX7_endRun_22 : decode cX7_endRun 22 = .ok (.ireturn, 1) := by decide +kernel
theorem dX7_endRun_23 : decode cX7_endRun 23 = .ok (.aload_n 0, 1) := by decide +kernel
theorem dX7_endRun_24 : decode cX7_endRun 24 = .ok (.getfield 113, 3) := by decide +kernel
theorem dX7_endRun_27 : decode cX7_endRun 27 = .ok (.iconst (-1), 1) := by decide +kernel
theorem dX7_endRun_28 : decode cX7_endRun 28 = .ok (.if_icmp .eq 29, 3) := by decide +kernel
theorem dX7_endRun_31 : decode cX7_endRun 31 = .ok (.aload_n 0, 1) := by decide +kernel
theorem dX7_endRun_32 : decode cX7_endRun 32 = .ok (.getfield 19, 3) := by decide +kernel
theorem dX7_endRun_35 : decode cX7_endRun 35 = .ok (.aload_n 0, 1) := by decide +kernel
theorem dX7_endRun_36 : decode cX7_endRun 36 = .ok (.getfield 113, 3) := by decide +kernel
theorem dX7_endRun_39 : decode cX7_endRun 39 = .ok (.aload_n 0, 1) := by decide +kernel
theorem dX7_endRun_40 : decode cX7_endRun 40 = .ok (.getfield 116, 3) := by decide +kernel
theorem dX7_endRun_43 : decode cX7_endRun 43 = .ok (.invokevirtual 119, 3) := by decide +kernel
theorem dX7_endRun_46 : decode cX7_endRun 46 = .ok (.aload_n 0, 1) := by decide +kernel
theorem dX7_endRun_47 : decode cX7_endRun 47 = .ok (.getfield 48, 3) := by decide +kernel
theorem dX7_endRun_50 : decode cX7_endRun 50 = .ok (.aload_n 0, 1) := by decide +kernel
theorem dX7_endRun_51 : decode cX7_endRun 51 = .ok (.getfield 113, 3) := by decide +kernel
theorem dX7_endRun_54 : decode cX7_endRun 54 = .ok (.invokevirtual 80, 3) := by decide +kernel
theorem dX7_endRun_57 : decode cX7_endRun 57 = .ok (.aload_n 0, 1) := by decide +kernel
theorem dX7_endRun_58 : decode cX7_endRun 58 = .ok (.invokevirtual 67, 3) := by decide +kernel
theorem dX7_endRun_61 : decode cX7_endRun 61 = .ok (.iconst 1, 1) := by decide +kernel
theorem dX7_endRun_62 : decode cX7_endRun 62 = .ok (.ireturn, 1) := by decide +kernel
theorem dX7_beginRun_0 : decode cX7_beginRun 0 = .ok (.aload_n 0, 1) := by decide +kernel
theorem dX7_beginRun_1 : decode cX7_beginRun 1 = .ok (.iconst 0, 1) := by decide +kernel
theorem dX7_beginRun_2 : decode cX7_beginRun 2 = .ok (.putfield 104, 3) := by decide +kernel
theorem dX7_beginRun_5 : decode cX7_beginRun 5 = .ok (.aload_n 0, 1) := by decide +kernel
theorem dX7_beginRun_6 : decode cX7_beginRun 6 = .ok (.iconst (-1), 1) := by decide +kernel
theorem dX7_beginRun_7 : decode cX7_beginRun 7 = .ok (.putfield 83, 3) := by decide +kernel
theorem dX7_beginRun_10 : decode cX7_beginRun 10 = .ok (.aload_n 0, 1) := by decide +kernel
theorem dX7_beginRun_11 : decode cX7_beginRun 11 = .ok (.iconst (-1), 1) := by decide +kernel
theorem dX7_beginRun_12 : decode cX7_beginRun 12 = .ok (.putfield 113, 3) := by decide +kernel
theorem dX7_beginRun_15 : decode cX7_beginRun 15 = .ok (.aload_n 0, 1) := by decide +kernel
theorem dX7_beginRun_16 : decode cX7_beginRun 16 = .ok (.iconst (-1), 1) := by decide +kernel
theorem dX7_beginRun_17 : decode cX7_beginRun 17 = .ok (.putfield 125, 3) := by decide +kernel
theorem dX7_beginRun_20 : decode cX7_beginRun 20 = .ok (.aload_n 0, 1) := by decide +kernel
theorem dX7_beginRun_21 : decode cX7_beginRun 21 = .ok (.iconst 0, 1) := by decide +kernel
theorem dX7_beginRun_22 : decode cX7_beginRun 22 = .ok (.putfield 116, 3) := by decide +kernel
theorem dX7_beginRun_25 : decode cX7_beginRun 25 = .ok (.return_, 1) := by decide +kernel
theorem dX7_addToWaiting_0 : decode cX7_addToWaiting 0 = .ok (.aload_n 0, 1) := by decide +kernel
theorem dX7_addToWaiting_1 : decode cX7_addToWaiting 1 = .ok (.getfield 104, 3) := by decide +kernel
theorem dX7_addToWaiting_4 : decode cX7_addToWaiting 4 = .ok (.aload_n 0, 1) := by decide +kernel
theorem dX7_addToWaiting_5 : decode cX7_addToWaiting 5 = .ok (.getfield 15, 3) := by decide +kernel
theorem dX7_addToWaiting_8 : decode cX7_addToWaiting 8 = .ok (.getfield 107, 3) := by decide +kernel
theorem dX7_addToWaiting_11 : decode cX7_addToWaiting 11 = .ok (.imul, 1) := by decide +kernel
theorem dX7_addToWaiting_12 : decode cX7_addToWaiting 12 = .ok (.aload_n 0, 1) := by decide +kernel
theorem dX7_addToWaiting_13 : decode cX7_addToWaiting 13 = .ok (.getfield 15, 3) := by decide +kernel
theorem dX7_addToWaiting_16 : decode cX7_addToWaiting 16 = .ok (.getfield 90, 3) := by decide +kernel
theorem dX7_addToWaiting_19 : decode cX7_addToWaiting 19 = .ok (.iadd, 1) := by decide +kernel
theorem dX7_addToWaiting_20 : decode cX7_addToWaiting 20 = .ok (.iconst 1, 1) := by decide +kernel
theorem dX7_addToWaiting_21 : decode cX7_addToWaiting 21 = .ok (.isub, 1) := by decide +kernel
theorem dX7_addToWaiting_22 : decode cX7_addToWaiting 22 = .ok (.istore_n 3, 1) := by decide +kernel
theorem dX7_addToWaiting_23 : decode cX7_addToWaiting 23 = .ok (.iload_n 3, 1) := by decide +kernel
theorem dX7_addToWaiting_24 : decode cX7_addToWaiting 24 = .ok (.ifCond .lt 22, 3) := by decide +kernel
theorem dX7_addToWaiting_27 : decode cX7_addToWaiting 27 = .ok (.iload_n 3, 1) := by decide +kernel
theorem dX7_addToWaiting_28 : decode cX7_addToWaiting 28 = .ok (.aload_n 0, 1) := by decide +kernel
theorem dX7_addToWaiting_29 : decode cX7_addToWaiting 29 = .ok (.getfield 35, 3) := by decide +kernel
theorem dX7_addToWaiting_32 : decode cX7_addToWaiting 32 = .ok (.arraylength, 1) := by decide +kernel
theorem dX7_addToWaiting_33 : decode cX7_addToWaiting 33 = .ok (.if_icmp .ge 13, 3) := by decide +kernel
theorem dX7_addToWaiting_36 : decode cX7_addToWaiting 36 = .ok (.aload_n 0, 1) := by decide +kernel
theorem dX7_addToWaiting_37 : decode cX7_addToWaiting 37 = .ok (.getfield 35, 3) := by decide +kernel
theorem dX7_addToWaiting_40 : decode cX7_addToWaiting 40 = .ok (.iload_n 3, 1) := by decide +kernel
theorem dX7_addToWaiting_41 : decode cX7_addToWaiting 41 = .ok (.dup2, 1) := by decide +kernel
theorem dX7_addToWaiting_42 : decode cX7_addToWaiting 42 = .ok (.laload, 1) := by decide +kernel
theorem dX7_addToWaiting_43 : decode cX7_addToWaiting 43 = .ok (.lload_n 1, 1) := by decide +kernel
theorem dX7_addToWaiting_44 : decode cX7_addToWaiting 44 = .ok (.ladd, 1) := by decide +kernel
theorem dX7_addToWaiting_45 : decode cX7_addToWaiting 45 = .ok (.lastore, 1) := by decide +kernel
theorem dX7_addToWaiting_46 : decode cX7_addToWaiting 46 = .ok (.return_, 1) := by decide +kernel
set_option maxRecDepth 20000 in
theorem ggX7_settleWaiting_X7_writePage : GoodIn wsX7_settleWaiting wsX7_writePage := goodIn_r _ [9, 10, 11, 2, 4, 12, 13, 14, 15, 16, 17, 18, 19, 20, 21, 22, 23, 24, 25, 26, 27, 28, 29, 30, 31, 32, 33, 34, 35, 36, 37, 38, 39, 40, 41, 42, 43, 44, 45, 46, 47, 48, 49, 50, 51, 52, 53, 54, 55, 56, 57, 58, 59, 60, 61, 62, 63, 64, 65, 66, 67, 68, 69, 70, 71, 72, 73, 74, 75, 76, 77, 78, 79, 80, 81, 82, 83] (by decide +kernel) (by decide +kernel)
set_option maxRecDepth 20000 in
theorem gX7_settleWaiting_X7_writePage : GoodIn wsX7_settleWaiting (wsV RX7 110 RX7 yX7_writePage wsX7_writePage) := goodIn_app (goodIn_of _ (by decide +kernel)) ggX7_settleWaiting_X7_writePage
theorem dX7_settleWaiting_0 : decode cX7_settleWaiting 0 = .ok (.aload_n 0, 1) := by decide +kernel
theorem dX7_settleWaiting_1 : decode cX7_settleWaiting 1 = .ok (.getfield 83, 3) := by decide +kernel
theorem dX7_settleWaiting_4 : decode cX7_settleWaiting 4 = .ok (.iconst (-1), 1) := by decide +kernel
theorem dX7_settleWaiting_5 : decode cX7_settleWaiting 5 = .ok (.if_icmp .ne 5, 3) := by decide +kernel
theorem dX7_settleWaiting_8 : decode cX7_settleWaiting 8 = .ok (.iconst 1, 1) := by decide +kernel
theorem dX7_settleWaiting_9 : decode cX7_settleWaiting 9 = .ok (.ireturn, 1) := by decide +kernel
theorem dX7_settleWaiting_10 : decode cX7_settleWaiting 10 = .ok (.aload_n 0, 1) := by decide +kernel
theorem dX7_settleWaiting_11 : decode cX7_settleWaiting 11 = .ok (.iconst (-1), 1) := by decide +kernel
theorem dX7_settleWaiting_12 : decode cX7_settleWaiting 12 = .ok (.putfield 83, 3) := by decide +kernel
theorem dX7_settleWaiting_15 : decode cX7_settleWaiting 15 = .ok (.aload_n 0, 1) := by decide +kernel
theorem dX7_settleWaiting_16 : decode cX7_settleWaiting 16 = .ok (.dup, 1) := by decide +kernel
theorem dX7_settleWaiting_17 : decode cX7_settleWaiting 17 = .ok (.getfield 104, 3) := by decide +kernel
theorem dX7_settleWaiting_20 : decode cX7_settleWaiting 20 = .ok (.iconst 1, 1) := by decide +kernel
theorem dX7_settleWaiting_21 : decode cX7_settleWaiting 21 = .ok (.iadd, 1) := by decide +kernel
theorem dX7_settleWaiting_22 : decode cX7_settleWaiting 22 = .ok (.putfield 104, 3) := by decide +kernel
theorem dX7_settleWaiting_25 : decode cX7_settleWaiting 25 = .ok (.aload_n 0, 1) := by decide +kernel
theorem dX7_settleWaiting_26 : decode cX7_settleWaiting 26 = .ok (.dup, 1) := by decide +kernel
theorem dX7_settleWaiting_27 : decode cX7_settleWaiting 27 = .ok (.getfield 116, 3) := by decide +kernel
theorem dX7_settleWaiting_30 : decode cX7_settleWaiting 30 = .ok (.iconst 1, 1) := by decide +kernel
theorem dX7_settleWaiting_31 : decode cX7_settleWaiting 31 = .ok (.iadd, 1) := by decide +kernel
theorem dX7_settleWaiting_32 : decode cX7_settleWaiting 32 = .ok (.putfield 116, 3) := by decide +kernel
theorem dX7_settleWaiting_35 : decode cX7_settleWaiting 35 = .ok (.aload_n 0, 1) := by decide +kernel
theorem dX7_settleWaiting_36 : decode cX7_settleWaiting 36 = .ok (.getfield 104, 3) := by decide +kernel
theorem dX7_settleWaiting_39 : decode cX7_settleWaiting 39 = .ok (.aload_n 0, 1) := by decide +kernel
theorem dX7_settleWaiting_40 : decode cX7_settleWaiting 40 = .ok (.getfield 15, 3) := by decide +kernel
theorem dX7_settleWaiting_43 : decode cX7_settleWaiting 43 = .ok (.getfield 128, 3) := by decide +kernel
theorem dX7_settleWaiting_46 : decode cX7_settleWaiting 46 = .ok (.if_icmp .lt 10, 3) := by decide +kernel
theorem dX7_settleWaiting_49 : decode cX7_settleWaiting 49 = .ok (.aload_n 0, 1) := by decide +kernel
theorem dX7_settleWaiting_50 : decode cX7_settleWaiting 50 = .ok (.invokevirtual 110, 3) := by decide +kernel
theorem dX7_settleWaiting_53 : decode cX7_settleWaiting 53 = .ok (.ifCond .eq 7, 3) := by decide +kernel
theorem dX7_settleWaiting_56 : decode cX7_settleWaiting 56 = .ok (.iconst 1, 1) := by decide +kernel
theorem dX7_settleWaiting_57 : decode cX7_settleWaiting 57 = .ok (.goto 4, 3) := by decide +kernel
theorem dX7_settleWaiting_60 : decode cX7_settleWaiting 60 = .ok (.iconst 0, 1) := by decide +kernel
theorem dX7_settleWaiting_61 : decode cX7_settleWaiting 61 = .ok (.ireturn, 1) := by decide +kernel
set_option maxRecDepth 20000 in
theorem ggX7_writePage_X0_store : GoodIn wsX7_writePage wsX0_store := goodIn_r _ [13, 14, 15, 16, 17, 18, 19, 20, 21, 22, 12, 23, 24, 25, 26, 27, 28, 29, 63, 64, 65, 66, 67, 68, 69, 70, 71] (by decide +kernel) (by decide +kernel)
set_option maxRecDepth 20000 in
theorem gX7_writePage_X0_store : GoodIn wsX7_writePage (wsV RX7 131 RX0 yX0_store wsX0_store) := goodIn_app (goodIn_of _ (by decide +kernel)) ggX7_writePage_X0_store
set_option maxRecDepth 20000 in
theorem ggX7_writePage_X6_add : GoodIn wsX7_writePage wsX6_add := goodIn_r _ [34, 35, 36, 72, 73] (by decide +kernel) (by decide +kernel)
set_option maxRecDepth 20000 in
theorem gX7_writePage_X6_add : GoodIn wsX7_writePage (wsV RX7 80 RX6 yX6_add wsX6_add) := goodIn_app (goodIn_of _ (by decide +kernel)) ggX7_writePage_X6_add
set_option maxRecDepth 20000 in
theorem ggX7_writePage_X1_join : GoodIn wsX7_writePage wsX1_join := goodIn_r _ [41, 42, 74, 75, 76] (by decide +kernel) (by decide +kernel)
set_option maxRecDepth 20000 in
theorem gX7_writePage_X1_join : GoodIn wsX7_writePage (wsV RX7 135 RX1 yX1_join wsX1_join) := goodIn_app (goodIn_of _ (by decide +kernel)) ggX7_writePage_X1_join
theorem dX7_writePage_0 : decode cX7_writePage 0 = .ok (.aload_n 0, 1) := by decide +kernel
theorem dX7_writePage_1 : decode cX7_writePage 1 = .ok (.getfield 9, 3) := by decide +kernel
theorem dX7_writePage_4 : decode cX7_writePage 4 = .ok (.aload_n 0, 1) := by decide +kernel
theorem dX7_writePage_5 : decode cX7_writePage 5 = .ok (.getfield 35, 3) := by decide +kernel
theorem dX7_writePage_8 : decode cX7_writePage 8 = .ok (.aload_n 0, 1) := by decide +kernel
theorem dX7_writePage_9 : decode cX7_writePage 9 = .ok (.getfield 104, 3) := by decide +kernel
theorem dX7_writePage_12 : decode cX7_writePage 12 = .ok (.aload_n 0, 1) := by decide +kernel
theorem dX7_writePage_13 : decode cX7_writePage 13 = .ok (.getfield 15, 3) := by decide +kernel
theorem dX7_writePage_16 : decode cX7_writePage 16 = .ok (.getfield 107, 3) := by decide +kernel
theorem dX7_writePage_19 : decode cX7_writePage 19 = .ok (.imul, 1) := by decide +kernel
theorem dX7_writePage_20 : decode cX7_writePage 20 = .ok (.invokevirtual 131, 3) := by decide +kernel
theorem dX7_writePage_23 : decode cX7_writePage 23 = .ok (.istore_n 1, 1) := by decide +kernel
theorem dX7_writePage_24 : decode cX7_writePage 24 = .ok (.iload_n 1, 1) := by decide +kernel
theorem dX7_writePage_25 : decode cX7_writePage 25 = .ok (.iconst (-1), 1) := by decide +kernel
theorem dX7_writePage_26 : decode cX7_writePage 26 = .ok (.if_icmp .ne 5, 3) := by decide +kernel
theorem dX7_writePage_29 : decode cX7_writePage 29 = .ok (.iconst 0, 1) := by decide +kernel
theorem dX7_writePage_30 : decode cX7_writePage 30 = .ok (.ireturn, 1) := by decide +kernel
theorem dX7_writePage_31 : decode cX7_writePage 31 = .ok (.aload_n 0, 1) := by decide +kernel
theorem dX7_writePage_32 : decode cX7_writePage 32 = .ok (.getfield 44, 3) := by decide +kernel
theorem dX7_writePage_35 : decode cX7_writePage 35 = .ok (.iload_n 1, 1) := by decide +kernel
theorem dX7_writePage_36 : decode cX7_writePage 36 = .ok (.invokevirtual 80, 3) := by decide +kernel
theorem dX7_writePage_39 : decode cX7_writePage 39 = .ok (.aload_n 0, 1) := by decide +kernel
theorem dX7_writePage_40 : decode cX7_writePage 40 = .ok (.getfield 19, 3) := by decide +kernel
theorem dX7_writePage_43 : decode cX7_writePage 43 = .ok (.aload_n 0, 1) := by decide +kernel
theorem dX7_writePage_44 : decode cX7_writePage 44 = .ok (.getfield 125, 3) := by decide +kernel
theorem dX7_writePage_47 : decode cX7_writePage 47 = .ok (.iload_n 1, 1) := by decide +kernel
theorem dX7_writePage_48 : decode cX7_writePage 48 = .ok (.invokevirtual 135, 3) := by decide +kernel
theorem dX7_writePage_51 : decode cX7_writePage 51 = .ok (.aload_n 0, 1) := by decide +kernel
theorem dX7_writePage_52 : decode cX7_writePage 52 = .ok (.aload_n 0, 1) := by decide +kernel
theorem dX7_writePage_53 : decode cX7_writePage 53 = .ok (.getfield 113, 3) := by decide +kernel
theorem dX7_writePage_56 : decode cX7_writePage 56 = .ok (.iconst (-1), 1) := by decide +kernel
theorem dX7_writePage_57 : decode cX7_writePage 57 = .ok (.if_icmp .ne 7, 3) := by decide +kernel
theorem dX7_writePage_60 : decode cX7_writePage 60 = .ok (.iload_n 1, 1) := by decide +kernel
theorem dX7_writePage_61 : decode cX7_writePage 61 = .ok (.goto 7, 3) := by decide +kernel
theorem dX7_writePage_64 : decode cX7_writePage 64 = .ok (.aload_n 0, 1) := by decide +kernel
theorem dX7_writePage_65 : decode cX7_writePage 65 = .ok (.getfield 113, 3) := by decide +kernel
theorem dX7_writePage_68 : decode cX7_writePage 68 = .ok (.putfield 113, 3) := by decide +kernel
theorem dX7_writePage_71 : decode cX7_writePage 71 = .ok (.aload_n 0, 1) := by decide +kernel
theorem dX7_writePage_72 : decode cX7_writePage 72 = .ok (.iload_n 1, 1) := by decide +kernel
theorem dX7_writePage_73 : decode cX7_writePage 73 = .ok (.putfield 125, 3) := by decide +kernel
theorem dX7_writePage_76 : decode cX7_writePage 76 = .ok (.aload_n 0, 1) := by decide +kernel
theorem dX7_writePage_77 : decode cX7_writePage 77 = .ok (.iconst 0, 1) := by decide +kernel
theorem dX7_writePage_78 : decode cX7_writePage 78 = .ok (.putfield 104, 3) := by decide +kernel
theorem dX7_writePage_81 : decode cX7_writePage 81 = .ok (.iconst 1, 1) := by decide +kernel
theorem dX7_writePage_82 : decode cX7_writePage 82 = .ok (.ireturn, 1) := by decide +kernel
set_option maxRecDepth 20000 in
theorem ggX8_init_X6_init : GoodIn wsX8_init wsX6_init := goodIn_r _ [13, 14, 2, 3, 15, 16, 17, 18, 8, 19, 25, 26] (by decide +kernel) (by decide +kernel)
set_option maxRecDepth 20000 in
theorem gX8_init_X6_init : GoodIn wsX8_init (wsX6_init) := ggX8_init_X6_init
theorem dX8_init_0 : decode cX8_init 0 = .ok (.aload_n 0, 1) := by decide +kernel
theorem dX8_init_1 : decode cX8_init 1 = .ok (.invokespecial 3, 3) := by decide +kernel
theorem dX8_init_4 : decode cX8_init 4 = .ok (.aload_n 0, 1) := by decide +kernel
theorem dX8_init_5 : decode cX8_init 5 = .ok (.bipush 7, 2) := by decide +kernel
theorem dX8_init_7 : decode cX8_init 7 = .ok (.anewarray 9, 3) := by decide +kernel
theorem dX8_init_10 : decode cX8_init 10 = .ok (.putfield 11, 3) := by decide +kernel
theorem dX8_init_13 : decode cX8_init 13 = .ok (.iconst 0, 1) := by decide +kernel
theorem dX8_init_14 : decode cX8_init 14 = .ok (.istore_n 2, 1) := by decide +kernel
theorem dX8_init_15 : decode cX8_init 15 = .ok (.iload_n 2, 1) := by decide +kernel
theorem dX8_init_16 : decode cX8_init 16 = .ok (.aload_n 0, 1) := by decide +kernel
theorem dX8_init_17 : decode cX8_init 17 = .ok (.getfield 11, 3) := by decide +kernel
theorem dX8_init_20 : decode cX8_init 20 = .ok (.arraylength, 1) := by decide +kernel
theorem dX8_init_21 : decode cX8_init 21 = .ok (.if_icmp .ge 23, 3) := by decide +kernel
theorem dX8_init_24 : decode cX8_init 24 = .ok (.aload_n 0, 1) := by decide +kernel
theorem dX8_init_25 : decode cX8_init 25 = .ok (.getfield 11, 3) := by decide +kernel
theorem dX8_init_28 : decode cX8_init 28 = .ok (.iload_n 2, 1) := by decide +kernel
theorem dX8_init_29 : decode cX8_init 29 = .ok (.new 9, 3) := by decide +kernel
theorem dX8_init_32 : decode cX8_init 32 = .ok (.dup, 1) := by decide +kernel
theorem dX8_init_33 : decode cX8_init 33 = .ok (.iload_n 1, 1) := by decide +kernel
theorem dX8_init_34 : decode cX8_init 34 = .ok (.invokespecial 17, 3) := by decide +kernel
theorem dX8_init_37 : decode cX8_init 37 = .ok (.aastore, 1) := by decide +kernel
theorem dX8_init_38 : decode cX8_init 38 = .ok (.iinc 2 1, 3) := by decide +kernel
theorem dX8_init_41 : decode cX8_init 41 = .ok (.goto (-26), 3) := by decide +kernel
theorem dX8_init_44 : decode cX8_init 44 = .ok (.aload_n 0, 1) := by decide +kernel
theorem dX8_init_45 : decode cX8_init 45 = .ok (.bipush 7, 2) := by decide +kernel
theorem dX8_init_47 : decode cX8_init 47 = .ok (.newarray .int, 2) := by decide +kernel
theorem dX8_init_49 : decode cX8_init 49 = .ok (.putfield 20, 3) := by decide +kernel
theorem dX8_init_52 : decode cX8_init 52 = .ok (.aload_n 0, 1) := by decide +kernel
theorem dX8_init_53 : decode cX8_init 53 = .ok (.bipush 7, 2) := by decide +kernel
theorem dX8_init_55 : decode cX8_init 55 = .ok (.newarray .int, 2) := by decide +kernel
theorem dX8_init_57 : decode cX8_init 57 = .ok (.putfield 24, 3) := by decide +kernel
theorem dX8_init_60 : decode cX8_init 60 = .ok (.return_, 1) := by decide +kernel
set_option maxRecDepth 20000 in
theorem ggX8_lay_X9_within : GoodIn wsX8_lay wsX9_within := goodIn_r _ [8, 9, 10, 11, 12, 13, 14, 15] (by decide +kernel) (by decide +kernel)
set_option maxRecDepth 20000 in
theorem gX8_lay_X9_within_n27 : GoodIn wsX8_lay (wsX9_within) := ggX8_lay_X9_within
set_option maxRecDepth 20000 in
theorem ggX8_lay_X6_clear : GoodIn wsX8_lay wsX6_clear := goodIn_r _ [20, 21, 49, 50] (by decide +kernel) (by decide +kernel)
set_option maxRecDepth 20000 in
theorem gX8_lay_X6_clear : GoodIn wsX8_lay (wsV RX8 38 RX6 yX6_clear wsX6_clear) := goodIn_app (goodIn_of _ (by decide +kernel)) ggX8_lay_X6_clear
set_option maxRecDepth 20000 in
theorem ggX8_lay_X6_size : GoodIn wsX8_lay wsX6_size := goodIn_r _ [25, 21, 49, 50] (by decide +kernel) (by decide +kernel)
set_option maxRecDepth 20000 in
theorem gX8_lay_X6_size : GoodIn wsX8_lay (wsV RX8 41 RX6 yX6_size wsX6_size) := goodIn_app (goodIn_of _ (by decide +kernel)) ggX8_lay_X6_size
set_option maxRecDepth 20000 in
theorem ggX8_lay_X6_get : GoodIn wsX8_lay wsX6_get := goodIn_r _ [29, 21, 30, 49, 50] (by decide +kernel) (by decide +kernel)
set_option maxRecDepth 20000 in
theorem gX8_lay_X6_get : GoodIn wsX8_lay (wsV RX8 45 RX6 yX6_get wsX6_get) := goodIn_app (goodIn_of _ (by decide +kernel)) ggX8_lay_X6_get
set_option maxRecDepth 20000 in
theorem ggX8_lay_X6_add : GoodIn wsX8_lay wsX6_add := goodIn_r _ [34, 21, 30, 49, 50] (by decide +kernel) (by decide +kernel)
set_option maxRecDepth 20000 in
theorem gX8_lay_X6_add : GoodIn wsX8_lay (wsV RX8 49 RX6 yX6_add wsX6_add) := goodIn_app (goodIn_of _ (by decide +kernel)) ggX8_lay_X6_add
set_option maxRecDepth 20000 in
theorem ggX8_lay_X8_tapeBehind : GoodIn wsX8_lay wsX8_tapeBehind := goodIn_r _ [39, 5, 40, 41, 42, 38, 43, 2, 4, 1, 44, 45, 46, 47, 48] (by decide +kernel) (by decide +kernel)
set_option maxRecDepth 20000 in
theorem gX8_lay_X8_tapeBehind : GoodIn wsX8_lay (wsV RX8 52 RX8 yX8_tapeBehind wsX8_tapeBehind) := goodIn_app (goodIn_of _ (by decide +kernel)) ggX8_lay_X8_tapeBehind
theorem dX8_lay_0 : decode cX8_lay 0 = .ok (.aload_n 0, 1) := by decide +kernel
theorem dX8_lay_1 : decode cX8_lay 1 = .ok (.iload_n 2, 1) := by decide +kernel
theorem dX8_lay_2 : decode cX8_lay 2 = .ok (.iconst 3, 1) := by decide +kernel
theorem dX8_lay_3 : decode cX8_lay 3 = .ok (.bipush 6, 2) := by decide +kernel
theorem dX8_lay_5 : decode cX8_lay 5 = .ok (.invokestatic 27, 3) := by decide +kernel
theorem dX8_lay_8 : decode cX8_lay 8 = .ok (.putfield 31, 3) := by decide +kernel
theorem dX8_lay_11 : decode cX8_lay 11 = .ok (.aload_n 0, 1) := by decide +kernel
theorem dX8_lay_12 : decode cX8_lay 12 = .ok (.iconst 1, 1) := by decide +kernel
theorem dX8_lay_13 : decode cX8_lay 13 = .ok (.putfield 35, 3) := by decide +kernel
theorem dX8_lay_16 : decode cX8_lay 16 = .ok (.iconst 0, 1) := by decide +kernel
theorem dX8_lay_17 : decode cX8_lay 17 = .ok (.istore_n 3, 1) := by decide +kernel
theorem dX8_lay_18 : decode cX8_lay 18 = .ok (.iload_n 3, 1) := by decide +kernel
theorem dX8_lay_19 : decode cX8_lay 19 = .ok (.bipush 6, 2) := by decide +kernel
theorem dX8_lay_21 : decode cX8_lay 21 = .ok (.if_icmp .gt 53, 3) := by decide +kernel
theorem dX8_lay_24 : decode cX8_lay 24 = .ok (.aload_n 0, 1) := by decide +kernel
theorem dX8_lay_25 : decode cX8_lay 25 = .ok (.getfield 11, 3) := by decide +kernel
theorem dX8_lay_28 : decode cX8_lay 28 = .ok (.iload_n 3, 1) := by decide +kernel
theorem dX8_lay_29 : decode cX8_lay 29 = .ok (.aaload, 1) := by decide +kernel
theorem dX8_lay_30 : decode cX8_lay 30 = .ok (.invokevirtual 38, 3) := by decide +kernel
theorem dX8_lay_33 : decode cX8_lay 33 = .ok (.aload_n 0, 1) := by decide +kernel
theorem dX8_lay_34 : decode cX8_lay 34 = .ok (.getfield 20, 3) := by decide +kernel
theorem dX8_lay_37 : decode cX8_lay 37 = .ok (.iload_n 3, 1) := by decide +kernel
theorem dX8_lay_38 : decode cX8_lay 38 = .ok (.iload_n 3, 1) := by decide +kernel
theorem dX8_lay_39 : decode cX8_lay 39 = .ok (.ifCond .le 15, 3) := by decide +kernel
theorem dX8_lay_42 : decode cX8_lay 42 = .ok (.iload_n 3, 1) := by decide +kernel
theorem dX8_lay_43 : decode cX8_lay 43 = .ok (.aload_n 0, 1) := by decide +kernel
theorem dX8_lay_44 : decode cX8_lay 44 = .ok (.getfield 31, 3) := by decide +kernel
theorem dX8_lay_47 : decode cX8_lay 47 = .ok (.if_icmp .ge 7, 3) := by decide +kernel
theorem dX8_lay_50 : decode cX8_lay 50 = .ok (.iconst 1, 1) := by decide +kernel
theorem dX8_lay_51 : decode cX8_lay 51 = .ok (.goto 4, 3) := by decide +kernel
theorem dX8_lay_54 : decode cX8_lay 54 = .ok (.iconst 0, 1) := by decide +kernel
theorem dX8_lay_55 : decode cX8_lay 55 = .ok (.iastore, 1) := by decide +kernel
theorem dX8_lay_56 : decode cX8_lay 56 = .ok (.aload_n 0, 1) := by decide +kernel
theorem dX8_lay_57 : decode cX8_lay 57 = .ok (.getfield 24, 3) := by decide +kernel
theorem dX8_lay_60 : decode cX8_lay 60 = .ok (.iload_n 3, 1) := by decide +kernel
theorem dX8_lay_61 : decode cX8_lay 61 = .ok (.aload_n 0, 1) := by decide +kernel
theorem dX8_lay_62 : decode cX8_lay 62 = .ok (.getfield 20, 3) := by decide +kernel
theorem dX8_lay_65 : decode cX8_lay 65 = .ok (.iload_n 3, 1) := by decide +kernel
theorem dX8_lay_66 : decode cX8_lay 66 = .ok (.iaload, 1) := by decide +kernel
theorem dX8_lay_67 : decode cX8_lay 67 = .ok (.iastore, 1) := by decide +kernel
theorem dX8_lay_68 : decode cX8_lay 68 = .ok (.iinc 3 1, 3) := by decide +kernel
theorem dX8_lay_71 : decode cX8_lay 71 = .ok (.goto (-53), 3) := by decide +kernel
theorem dX8_lay_74 : decode cX8_lay 74 = .ok (.iconst 1, 1) := by decide +kernel
theorem dX8_lay_75 : decode cX8_lay 75 = .ok (.istore_n 3, 1) := by decide +kernel
theorem dX8_lay_76 : decode cX8_lay 76 = .ok (.iconst 0, 1) := by decide +kernel
theorem dX8_lay_77 : decode cX8_lay 77 = .ok (.istore 4, 2) := by decide +kernel
theorem dX8_lay_79 : decode cX8_lay 79 = .ok (.iload 4, 2) := by decide +kernel
theorem dX8_lay_81 : decode cX8_lay 81 = .ok (.aload_n 1, 1) := by decide +kernel
theorem dX8_lay_82 : decode cX8_lay 82 = .ok (.invokevirtual 41, 3) := by decide +kernel
theorem dX8_lay_85 : decode cX8_lay 85 = .ok (.if_icmp .ge 61, 3) := by decide +kernel
theorem dX8_lay_88 : decode cX8_lay 88 = .ok (.iload_n 3, 1) := by decide +kernel
theorem dX8_lay_89 : decode cX8_lay 89 = .ok (.ifCond .le 57, 3) := by decide +kernel
theorem dX8_lay_92 : decode cX8_lay 92 = .ok (.iload_n 3, 1) := by decide +kernel
theorem dX8_lay_93 : decode cX8_lay 93 = .ok (.bipush 6, 2) := by decide +kernel
theorem dX8_lay_95 : decode cX8_lay 95 = .ok (.if_icmp .ge 51, 3) := by decide +kernel
theorem dX8_lay_98 : decode cX8_lay 98 = .ok (.aload_n 0, 1) := by decide +kernel
theorem dX8_lay_99 : decode cX8_lay 99 = .ok (.getfield 11, 3) := by decide +kernel
theorem dX8_lay_102 : decode cX8_lay 102 = .ok (.iload_n 3, 1) := by decide +kernel
theorem dX8_lay_103 : decode cX8_lay 103 = .ok (.aaload, 1) := by decide +kernel
theorem dX8_lay_104 : decode cX8_lay 104 = .ok (.aload_n 1, 1) := by decide +kernel
theorem dX8_lay_105 : decode cX8_lay 105 = .ok (.iload 4, 2) := by decide +kernel
theorem dX8_lay_107 : decode cX8_lay 107 = .ok (.invokevirtual 45, 3) := by decide +kernel
theorem dX8_lay_110 : decode cX8_lay 110 = .ok (.invokevirtual 49, 3) := by decide +kernel
theorem dX8_lay_113 : decode cX8_lay 113 = .ok (.aload_n 0, 1) := by decide +kernel
theorem dX8_lay_114 : decode cX8_lay 114 = .ok (.getfield 24, 3) := by decide +kernel
theorem dX8_lay_117 : decode cX8_lay 117 = .ok (.iload_n 3, 1) := by decide +kernel
theorem dX8_lay_118 : decode cX8_lay 118 = .ok (.dup2, 1) := by decide +kernel
theorem dX8_lay_119 : decode cX8_lay 119 = .ok (.iaload, 1) := by decide +kernel
theorem dX8_lay_120 : decode cX8_lay 120 = .ok (.iconst 1, 1) := by decide +kernel
theorem dX8_lay_121 : decode cX8_lay 121 = .ok (.isub, 1) := by decide +kernel
theorem dX8_lay_122 : decode cX8_lay 122 = .ok (.iastore, 1) := by decide +kernel
theorem dX8_lay_123 : decode cX8_lay 123 = .ok (.iload 4, 2) := by decide +kernel
theorem dX8_lay_125 : decode cX8_lay 125 = .ok (.iconst 1, 1) := by decide +kernel
theorem dX8_lay_126 : decode cX8_lay 126 = .ok (.iadd, 1) := by decide +kernel
theorem dX8_lay_127 : decode cX8_lay 127 = .ok (.aload_n 1, 1) := by decide +kernel
theorem dX8_lay_128 : decode cX8_lay 128 = .ok (.invokevirtual 41, 3) := by decide +kernel
theorem dX8_lay_131 : decode cX8_lay 131 = .ok (.if_icmp .ge 9, 3) := by decide +kernel
theorem dX8_lay_134 : decode cX8_lay 134 = .ok (.aload_n 0, 1) := by decide +kernel
theorem dX8_lay_135 : decode cX8_lay 135 = .ok (.iload_n 3, 1) := by decide +kernel
theorem dX8_lay_136 : decode cX8_lay 136 = .ok (.invokevirtual 52, 3) := by decide +kernel
theorem dX8_lay_139 : decode cX8_lay 139 = .ok (.istore_n 3, 1) := by decide +kernel
theorem dX8_lay_140 : decode cX8_lay 140 = .ok (.iinc 4 1, 3) := by decide +kernel
theorem dX8_lay_143 : decode cX8_lay 143 = .ok (.goto (-64), 3) := by decide +kernel
theorem dX8_lay_146 : decode cX8_lay 146 = .ok (.return_, 1) := by decide +kernel
set_option maxRecDepth 20000 in
theorem ggX8_tapeBehind_X8_goUp : GoodIn wsX8_tapeBehind wsX8_goUp := goodIn_r _ [6, 7, 8, 9, 1, 10, 11, 12, 13, 14] (by decide +kernel) (by decide +kernel)
set_option maxRecDepth 20000 in
theorem gX8_tapeBehind_X8_goUp : GoodIn wsX8_tapeBehind (wsV RX8 55 RX8 yX8_goUp wsX8_goUp) := goodIn_app (goodIn_of _ (by decide +kernel)) ggX8_tapeBehind_X8_goUp
theorem dX8_tapeBehind_0 : decode cX8_tapeBehind 0 = .ok (.iload_n 1, 1) := by decide +kernel
theorem dX8_tapeBehind_1 : decode cX8_tapeBehind 1 = .ok (.iconst 1, 1) := by decide +kernel
theorem dX8_tapeBehind_2 : decode cX8_tapeBehind 2 = .ok (.if_icmp .lt 9, 3) := by decide +kernel
theorem dX8_tapeBehind_5 : decode cX8_tapeBehind 5 = .ok (.iload_n 1, 1) := by decide +kernel
theorem dX8_tapeBehind_6 : decode cX8_tapeBehind 6 = .ok (.bipush 6, 2) := by decide +kernel
theorem dX8_tapeBehind_8 : decode cX8_tapeBehind 8 = .ok (.if_icmp .lt 5, 3) := by decide +kernel
theorem dX8_tapeBehind_11 : decode cX8_tapeBehind 11 = .ok (.iconst 1, 1) := by decide +kernel
theorem dX8_tapeBehind_12 : decode cX8_tapeBehind 12 = .ok (.ireturn, 1) := by decide +kernel
theorem dX8_tapeBehind_13 : decode cX8_tapeBehind 13 = .ok (.aload_n 0, 1) := by decide +kernel
theorem dX8_tapeBehind_14 : decode cX8_tapeBehind 14 = .ok (.getfield 24, 3) := by decide +kernel
theorem dX8_tapeBehind_17 : decode cX8_tapeBehind 17 = .ok (.iload_n 1, 1) := by decide +kernel
theorem dX8_tapeBehind_18 : decode cX8_tapeBehind 18 = .ok (.iaload, 1) := by decide +kernel
theorem dX8_tapeBehind_19 : decode cX8_tapeBehind 19 = .ok (.aload_n 0, 1) := by decide +kernel
theorem dX8_tapeBehind_20 : decode cX8_tapeBehind 20 = .ok (.getfield 24, 3) := by decide +kernel
theorem dX8_tapeBehind_23 : decode cX8_tapeBehind 23 = .ok (.iload_n 1, 1) := by decide +kernel
theorem dX8_tapeBehind_24 : decode cX8_tapeBehind 24 = .ok (.iconst 1, 1) := by decide +kernel
theorem dX8_tapeBehind_25 : decode cX8_tapeBehind 25 = .ok (.iadd, 1) := by decide +kernel
theorem dX8_tapeBehind_26 : decode cX8_tapeBehind 26 = .ok (.iaload, 1) := by decide +kernel
theorem dX8_tapeBehind_27 : decode cX8_tapeBehind 27 = .ok (.if_icmp .ge 7, 3) := by decide +kernel
theorem dX8_tapeBehind_30 : decode cX8_tapeBehind 30 = .ok (.iload_n 1, 1) := by decide +kernel
theorem dX8_tapeBehind_31 : decode cX8_tapeBehind 31 = .ok (.iconst 1, 1) := by decide +kernel
theorem dX8_tapeBehind_32 : decode cX8_tapeBehind 32 = .ok (.iadd, 1) := by decide +kernel
theorem dX8_tapeBehind_33 : decode cX8_tapeBehind 33 = .ok (.ireturn, 1) := by decide +kernel
theorem dX8_tapeBehind_34 : decode cX8_tapeBehind 34 = .ok (.aload_n 0, 1) := by decide +kernel
theorem dX8_tapeBehind_35 : decode cX8_tapeBehind 35 = .ok (.getfield 24, 3) := by decide +kernel
theorem dX8_tapeBehind_38 : decode cX8_tapeBehind 38 = .ok (.iload_n 1, 1) := by decide +kernel
theorem dX8_tapeBehind_39 : decode cX8_tapeBehind 39 = .ok (.iaload, 1) := by decide +kernel
theorem dX8_tapeBehind_40 : decode cX8_tapeBehind 40 = .ok (.ifCond .ne 7, 3) := by decide +kernel
theorem dX8_tapeBehind_43 : decode cX8_tapeBehind 43 = .ok (.aload_n 0, 1) := by decide +kernel
theorem dX8_tapeBehind_44 : decode cX8_tapeBehind 44 = .ok (.invokevirtual 55, 3) := by decide +kernel
theorem dX8_tapeBehind_47 : decode cX8_tapeBehind 47 = .ok (.iconst 1, 1) := by decide +kernel
theorem dX8_tapeBehind_48 : decode cX8_tapeBehind 48 = .ok (.ireturn, 1) := by decide +kernel
theorem dX8_goUp_0 : decode cX8_goUp 0 = .ok (.aload_n 0, 1) := by decide +kernel
theorem dX8_goUp_1 : decode cX8_goUp 1 = .ok (.dup, 1) := by decide +kernel
theorem dX8_goUp_2 : decode cX8_goUp 2 = .ok (.getfield 35, 3) := by decide +kernel
theorem dX8_goUp_5 : decode cX8_goUp 5 = .ok (.iconst 1, 1) := by decide +kernel
theorem dX8_goUp_6 : decode cX8_goUp 6 = .ok (.iadd, 1) := by decide +kernel
theorem dX8_goUp_7 : decode cX8_goUp 7 = .ok (.putfield 35, 3) := by decide +kernel
theorem dX8_goUp_10 : decode cX8_goUp 10 = .ok (.aload_n 0, 1) := by decide +kernel
theorem dX8_goUp_11 : decode cX8_goUp 11 = .ok (.getfield 20, 3) := by decide +kernel
theorem dX8_goUp_14 : decode cX8_goUp 14 = .ok (.iconst 1, 1) := by decide +kernel
theorem dX8_goUp_15 : decode cX8_goUp 15 = .ok (.iaload, 1) := by decide +kernel
theorem dX8_goUp_16 : decode cX8_goUp 16 = .ok (.istore_n 1, 1) := by decide +kernel
theorem dX8_goUp_17 : decode cX8_goUp 17 = .ok (.iconst 1, 1) := by decide +kernel
theorem dX8_goUp_18 : decode cX8_goUp 18 = .ok (.istore_n 2, 1) := by decide +kernel
theorem dX8_goUp_19 : decode cX8_goUp 19 = .ok (.iload_n 2, 1) := by decide +kernel
theorem dX8_goUp_20 : decode cX8_goUp 20 = .ok (.aload_n 0, 1) := by decide +kernel
theorem dX8_goUp_21 : decode cX8_goUp 21 = .ok (.getfield 31, 3) := by decide +kernel
theorem dX8_goUp_24 : decode cX8_goUp 24 = .ok (.if_icmp .ge 54, 3) := by decide +kernel
theorem dX8_goUp_27 : decode cX8_goUp 27 = .ok (.iload_n 2, 1) := by decide +kernel
theorem dX8_goUp_28 : decode cX8_goUp 28 = .ok (.bipush 6, 2) := by decide +kernel
theorem dX8_goUp_30 : decode cX8_goUp 30 = .ok (.if_icmp .ge 48, 3) := by decide +kernel
theorem dX8_goUp_33 : decode cX8_goUp 33 = .ok (.aload_n 0, 1) := by decide +kernel
theorem dX8_goUp_34 : decode cX8_goUp 34 = .ok (.getfield 24, 3) := by decide +kernel
theorem dX8_goUp_37 : decode cX8_goUp 37 = .ok (.iload_n 2, 1) := by decide +kernel
theorem dX8_goUp_38 : decode cX8_goUp 38 = .ok (.iload_n 1, 1) := by decide +kernel
theorem dX8_goUp_39 : decode cX8_goUp 39 = .ok (.aload_n 0, 1) := by decide +kernel
theorem dX8_goUp_40 : decode cX8_goUp 40 = .ok (.getfield 20, 3) := by decide +kernel
theorem dX8_goUp_43 : decode cX8_goUp 43 = .ok (.iload_n 2, 1) := by decide +kernel
theorem dX8_goUp_44 : decode cX8_goUp 44 = .ok (.iconst 1, 1) := by decide +kernel
theorem dX8_goUp_45 : decode cX8_goUp 45 = .ok (.iadd, 1) := by decide +kernel
theorem dX8_goUp_46 : decode cX8_goUp 46 = .ok (.iaload, 1) := by decide +kernel
theorem dX8_goUp_47 : decode cX8_goUp 47 = .ok (.iadd, 1) := by decide +kernel
theorem dX8_goUp_48 : decode cX8_goUp 48 = .ok (.aload_n 0, 1) := by decide +kernel
theorem dX8_goUp_49 : decode cX8_goUp 49 = .ok (.getfield 20, 3) := by decide +kernel
theorem dX8_goUp_52 : decode cX8_goUp 52 = .ok (.iload_n 2, 1) := by decide +kernel
theorem dX8_goUp_53 : decode cX8_goUp 53 = .ok (.iaload, 1) := by decide +kernel
theorem dX8_goUp_54 : decode cX8_goUp 54 = .ok (.isub, 1) := by decide +kernel
theorem dX8_goUp_55 : decode cX8_goUp 55 = .ok (.iastore, 1) := by decide +kernel
theorem dX8_goUp_56 : decode cX8_goUp 56 = .ok (.aload_n 0, 1) := by decide +kernel
theorem dX8_goUp_57 : decode cX8_goUp 57 = .ok (.getfield 20, 3) := by decide +kernel
theorem dX8_goUp_60 : decode cX8_goUp 60 = .ok (.iload_n 2, 1) := by decide +kernel
theorem dX8_goUp_61 : decode cX8_goUp 61 = .ok (.iload_n 1, 1) := by decide +kernel
theorem dX8_goUp_62 : decode cX8_goUp 62 = .ok (.aload_n 0, 1) := by decide +kernel
theorem dX8_goUp_63 : decode cX8_goUp 63 = .ok (.getfield 20, 3) := by decide +kernel
theorem dX8_goUp_66 : decode cX8_goUp 66 = .ok (.iload_n 2, 1) := by decide +kernel
theorem dX8_goUp_67 : decode cX8_goUp 67 = .ok (.iconst 1, 1) := by decide +kernel
theorem dX8_goUp_68 : decode cX8_goUp 68 = .ok (.iadd, 1) := by decide +kernel
theorem dX8_goUp_69 : decode cX8_goUp 69 = .ok (.iaload, 1) := by decide +kernel
theorem dX8_goUp_70 : decode cX8_goUp 70 = .ok (.iadd, 1) := by decide +kernel
theorem dX8_goUp_71 : decode cX8_goUp 71 = .ok (.iastore, 1) := by decide +kernel
theorem dX8_goUp_72 : decode cX8_goUp 72 = .ok (.iinc 2 1, 3) := by decide +kernel
theorem dX8_goUp_75 : decode cX8_goUp 75 = .ok (.goto (-56), 3) := by decide +kernel
theorem dX8_goUp_78 : decode cX8_goUp 78 = .ok (.return_, 1) := by decide +kernel
theorem dX8_stepsOfLevel_0 : decode cX8_stepsOfLevel 0 = .ok (.aload_n 0, 1) := by decide +kernel
theorem dX8_stepsOfLevel_1 : decode cX8_stepsOfLevel 1 = .ok (.getfield 31, 3) := by decide +kernel
theorem dX8_stepsOfLevel_4 : decode cX8_stepsOfLevel 4 = .ok (.ifCond .le 26, 3) := by decide +kernel
theorem dX8_stepsOfLevel_7 : decode cX8_stepsOfLevel 7 = .ok (.aload_n 0, 1) := by decide +kernel
theorem dX8_stepsOfLevel_8 : decode cX8_stepsOfLevel 8 = .ok (.getfield 31, 3) := by decide +kernel
theorem dX8_stepsOfLevel_11 : decode cX8_stepsOfLevel 11 = .ok (.bipush 6, 2) := by decide +kernel
theorem dX8_stepsOfLevel_13 : decode cX8_stepsOfLevel 13 = .ok (.if_icmp .gt 17, 3) := by decide +kernel
theorem dX8_stepsOfLevel_16 : decode cX8_stepsOfLevel 16 = .ok (.aload_n 0, 1) := by decide +kernel
theorem dX8_stepsOfLevel_17 : decode cX8_stepsOfLevel 17 = .ok (.getfield 20, 3) := by decide +kernel
theorem dX8_stepsOfLevel_20 : decode cX8_stepsOfLevel 20 = .ok (.aload_n 0, 1) := by decide +kernel
theorem dX8_stepsOfLevel_21 : decode cX8_stepsOfLevel 21 = .ok (.getfield 31, 3) := by decide +kernel
theorem dX8_stepsOfLevel_24 : decode cX8_stepsOfLevel 24 = .ok (.iconst 1, 1) := by decide +kernel
theorem dX8_stepsOfLevel_25 : decode cX8_stepsOfLevel 25 = .ok (.isub, 1) := by decide +kernel
theorem dX8_stepsOfLevel_26 : decode cX8_stepsOfLevel 26 = .ok (.iaload, 1) := by decide +kernel
theorem dX8_stepsOfLevel_27 : decode cX8_stepsOfLevel 27 = .ok (.goto 4, 3) := by decide +kernel
theorem dX8_stepsOfLevel_30 : decode cX8_stepsOfLevel 30 = .ok (.iconst 0, 1) := by decide +kernel
theorem dX8_stepsOfLevel_31 : decode cX8_stepsOfLevel 31 = .ok (.ireturn, 1) := by decide +kernel
set_option maxRecDepth 20000 in
theorem ggX8_gatherFronts_X6_clear : GoodIn wsX8_gatherFronts wsX6_clear := goodIn_r _ [8, 9, 24, 25] (by decide +kernel) (by decide +kernel)
set_option maxRecDepth 20000 in
theorem gX8_gatherFronts_X6_clear : GoodIn wsX8_gatherFronts (wsV RX8 38 RX6 yX6_clear wsX6_clear) := goodIn_app (goodIn_of _ (by decide +kernel)) ggX8_gatherFronts_X6_clear
set_option maxRecDepth 20000 in
theorem ggX8_gatherFronts_X6_get : GoodIn wsX8_gatherFronts wsX6_get := goodIn_r _ [13, 9, 14, 24, 25] (by decide +kernel) (by decide +kernel)
set_option maxRecDepth 20000 in
theorem gX8_gatherFronts_X6_get : GoodIn wsX8_gatherFronts (wsV RX8 45 RX6 yX6_get wsX6_get) := goodIn_app (goodIn_of _ (by decide +kernel)) ggX8_gatherFronts_X6_get
set_option maxRecDepth 20000 in
theorem ggX8_gatherFronts_X6_add : GoodIn wsX8_gatherFronts wsX6_add := goodIn_r _ [18, 9, 14, 24, 25] (by decide +kernel) (by decide +kernel)
set_option maxRecDepth 20000 in
theorem gX8_gatherFronts_X6_add : GoodIn wsX8_gatherFronts (wsV RX8 49 RX6 yX6_add wsX6_add) := goodIn_app (goodIn_of _ (by decide +kernel)) ggX8_gatherFronts_X6_add
theorem dX8_gatherFronts_0 : decode cX8_gatherFronts 0 = .ok (.aload_n 1, 1) := by decide +kernel
theorem dX8_gatherFronts_1 : decode cX8_gatherFronts 1 = .ok (.invokevirtual 38, 3) := by decide +kernel
theorem dX8_gatherFronts_4 : decode cX8_gatherFronts 4 = .ok (.iconst 1, 1) := by decide +kernel
theorem dX8_gatherFronts_5 : decode cX8_gatherFronts 5 = .ok (.istore_n 2, 1) := by decide +kernel
theorem dX8_gatherFronts_6 : decode cX8_gatherFronts 6 = .ok (.iload_n 2, 1) := by decide +kernel
theorem dX8_gatherFronts_7 : decode cX8_gatherFronts 7 = .ok (.aload_n 0, 1) := by decide +kernel
theorem dX8_gatherFronts_8 : decode cX8_gatherFronts 8 = .ok (.getfield 31, 3) := by decide +kernel
theorem dX8_gatherFronts_11 : decode cX8_gatherFronts 11 = .ok (.if_icmp .ge 38, 3) := by decide +kernel
theorem dX8_gatherFronts_14 : decode cX8_gatherFronts 14 = .ok (.iload_n 2, 1) := by decide +kernel
theorem dX8_gatherFronts_15 : decode cX8_gatherFronts 15 = .ok (.bipush 6, 2) := by decide +kernel
theorem dX8_gatherFronts_17 : decode cX8_gatherFronts 17 = .ok (.if_icmp .ge 32, 3) := by decide +kernel
theorem dX8_gatherFronts_20 : decode cX8_gatherFronts 20 = .ok (.aload_n 0, 1) := by decide +kernel
theorem dX8_gatherFronts_21 : decode cX8_gatherFronts 21 = .ok (.getfield 24, 3) := by decide +kernel
theorem dX8_gatherFronts_24 : decode cX8_gatherFronts 24 = .ok (.iload_n 2, 1) := by decide +kernel
theorem dX8_gatherFronts_25 : decode cX8_gatherFronts 25 = .ok (.iaload, 1) := by decide +kernel
theorem dX8_gatherFronts_26 : decode cX8_gatherFronts 26 = .ok (.ifCond .ne 17, 3) := by decide +kernel
theorem dX8_gatherFronts_29 : decode cX8_gatherFronts 29 = .ok (.aload_n 1, 1) := by decide +kernel
theorem dX8_gatherFronts_30 : decode cX8_gatherFronts 30 = .ok (.aload_n 0, 1) := by decide +kernel
theorem dX8_gatherFronts_31 : decode cX8_gatherFronts 31 = .ok (.getfield 11, 3) := by decide +kernel
theorem dX8_gatherFronts_34 : decode cX8_gatherFronts 34 = .ok (.iload_n 2, 1) := by decide +kernel
theorem dX8_gatherFronts_35 : decode cX8_gatherFronts 35 = .ok (.aaload, 1) := by decide +kernel
theorem dX8_gatherFronts_36 : decode cX8_gatherFronts 36 = .ok (.iconst 0, 1) := by decide +kernel
theorem dX8_gatherFronts_37 : decode cX8_gatherFronts 37 = .ok (.invokevirtual 45, 3) := by decide +kernel
theorem dX8_gatherFronts_40 : decode cX8_gatherFronts 40 = .ok (.invokevirtual 49, 3) := by decide +kernel
theorem dX8_gatherFronts_43 : decode cX8_gatherFronts 43 = .ok (.iinc 2 1, 3) := by decide +kernel
theorem dX8_gatherFronts_46 : decode cX8_gatherFronts 46 = .ok (.goto (-40), 3) := by decide +kernel
theorem dX8_gatherFronts_49 : decode cX8_gatherFronts 49 = .ok (.return_, 1) := by decide +kernel
set_option maxRecDepth 20000 in
theorem ggX8_shift_X6_removeAt : GoodIn wsX8_shift wsX6_removeAt := goodIn_r _ [8, 9, 10, 20, 21] (by decide +kernel) (by decide +kernel)
set_option maxRecDepth 20000 in
theorem gX8_shift_X6_removeAt : GoodIn wsX8_shift (wsV RX8 58 RX6 yX6_removeAt wsX6_removeAt) := goodIn_app (goodIn_of _ (by decide +kernel)) ggX8_shift_X6_removeAt
set_option maxRecDepth 20000 in
theorem ggX8_shift_X6_add : GoodIn wsX8_shift wsX6_add := goodIn_r _ [14, 9, 10, 20, 21] (by decide +kernel) (by decide +kernel)
set_option maxRecDepth 20000 in
theorem gX8_shift_X6_add : GoodIn wsX8_shift (wsV RX8 49 RX6 yX6_add wsX6_add) := goodIn_app (goodIn_of _ (by decide +kernel)) ggX8_shift_X6_add
theorem dX8_shift_0 : decode cX8_shift 0 = .ok (.iconst 1, 1) := by decide +kernel
theorem dX8_shift_1 : decode cX8_shift 1 = .ok (.istore_n 2, 1) := by decide +kernel
theorem dX8_shift_2 : decode cX8_shift 2 = .ok (.iload_n 2, 1) := by decide +kernel
theorem dX8_shift_3 : decode cX8_shift 3 = .ok (.aload_n 0, 1) := by decide +kernel
theorem dX8_shift_4 : decode cX8_shift 4 = .ok (.getfield 31, 3) := by decide +kernel
theorem dX8_shift_7 : decode cX8_shift 7 = .ok (.if_icmp .ge 47, 3) := by decide +kernel
theorem dX8_shift_10 : decode cX8_shift 10 = .ok (.iload_n 2, 1) := by decide +kernel
theorem dX8_shift_11 : decode cX8_shift 11 = .ok (.bipush 6, 2) := by decide +kernel
theorem dX8_shift_13 : decode cX8_shift 13 = .ok (.if_icmp .ge 41, 3) := by decide +kernel
theorem dX8_shift_16 : decode cX8_shift 16 = .ok (.aload_n 0, 1) := by decide +kernel
theorem dX8_shift_17 : decode cX8_shift 17 = .ok (.getfield 24, 3) := by decide +kernel
theorem dX8_shift_20 : decode cX8_shift 20 = .ok (.iload_n 2, 1) := by decide +kernel
theorem dX8_shift_21 : decode cX8_shift 21 = .ok (.iaload, 1) := by decide +kernel
theorem dX8_shift_22 : decode cX8_shift 22 = .ok (.ifCond .le 16, 3) := by decide +kernel
theorem dX8_shift_25 : decode cX8_shift 25 = .ok (.aload_n 0, 1) := by decide +kernel
theorem dX8_shift_26 : decode cX8_shift 26 = .ok (.getfield 24, 3) := by decide +kernel
theorem dX8_shift_29 : decode cX8_shift 29 = .ok (.iload_n 2, 1) := by decide +kernel
theorem dX8_shift_30 : decode cX8_shift 30 = .ok (.dup2, 1) := by decide +kernel
theorem dX8_shift_31 : decode cX8_shift 31 = .ok (.iaload, 1) := by decide +kernel
theorem dX8_shift_32 : decode cX8_shift 32 = .ok (.iconst 1, 1) := by decide +kernel
theorem dX8_shift_33 : decode cX8_shift 33 = .ok (.isub, 1) := by decide +kernel
theorem dX8_shift_34 : decode cX8_shift 34 = .ok (.iastore, 1) := by decide +kernel
theorem dX8_shift_35 : decode cX8_shift 35 = .ok (.goto 13, 3) := by decide +kernel
theorem dX8_shift_38 : decode cX8_shift 38 = .ok (.aload_n 0, 1) := by decide +kernel
theorem dX8_shift_39 : decode cX8_shift 39 = .ok (.getfield 11, 3) := by decide +kernel
theorem dX8_shift_42 : decode cX8_shift 42 = .ok (.iload_n 2, 1) := by decide +kernel
theorem dX8_shift_43 : decode cX8_shift 43 = .ok (.aaload, 1) := by decide +kernel
theorem dX8_shift_44 : decode cX8_shift 44 = .ok (.iconst 0, 1) := by decide +kernel
theorem dX8_shift_45 : decode cX8_shift 45 = .ok (.invokevirtual 58, 3) := by decide +kernel
theorem dX8_shift_48 : decode cX8_shift 48 = .ok (.iinc 2 1, 3) := by decide +kernel
theorem dX8_shift_51 : decode cX8_shift 51 = .ok (.goto (-49), 3) := by decide +kernel
theorem dX8_shift_54 : decode cX8_shift 54 = .ok (.aload_n 0, 1) := by decide +kernel
theorem dX8_shift_55 : decode cX8_shift 55 = .ok (.getfield 31, 3) := by decide +kernel
theorem dX8_shift_58 : decode cX8_shift 58 = .ok (.iconst 1, 1) := by decide +kernel
theorem dX8_shift_59 : decode cX8_shift 59 = .ok (.if_icmp .lt 12, 3) := by decide +kernel
theorem dX8_shift_62 : decode cX8_shift 62 = .ok (.aload_n 0, 1) := by decide +kernel
theorem dX8_shift_63 : decode cX8_shift 63 = .ok (.getfield 31, 3) := by decide +kernel
theorem dX8_shift_66 : decode cX8_shift 66 = .ok (.bipush 6, 2) := by decide +kernel
theorem dX8_shift_68 : decode cX8_shift 68 = .ok (.if_icmp .le 4, 3) := by decide +kernel
theorem dX8_shift_71 : decode cX8_shift 71 = .ok (.return_, 1) := by decide +kernel
theorem dX8_shift_72 : decode cX8_shift 72 = .ok (.iload_n 1, 1) := by decide +kernel
theorem dX8_shift_73 : decode cX8_shift 73 = .ok (.iconst (-1), 1) := by decide +kernel
theorem dX8_shift_74 : decode cX8_shift 74 = .ok (.if_icmp .ne 19, 3) := by decide +kernel
theorem dX8_shift_77 : decode cX8_shift 77 = .ok (.aload_n 0, 1) := by decide +kernel
theorem dX8_shift_78 : decode cX8_shift 78 = .ok (.getfield 24, 3) := by decide +kernel
theorem dX8_shift_81 : decode cX8_shift 81 = .ok (.aload_n 0, 1) := by decide +kernel
theorem dX8_shift_82 : decode cX8_shift 82 = .ok (.getfield 31, 3) := by decide +kernel
theorem dX8_shift_85 : decode cX8_shift 85 = .ok (.dup2, 1) := by decide +kernel
theorem dX8_shift_86 : decode cX8_shift 86 = .ok (.iaload, 1) := by decide +kernel
theorem dX8_shift_87 : decode cX8_shift 87 = .ok (.iconst 1, 1) := by decide +kernel
theorem dX8_shift_88 : decode cX8_shift 88 = .ok (.iadd, 1) := by decide +kernel
theorem dX8_shift_89 : decode cX8_shift 89 = .ok (.iastore, 1) := by decide +kernel
theorem dX8_shift_90 : decode cX8_shift 90 = .ok (.goto 16, 3) := by decide +kernel
theorem dX8_shift_93 : decode cX8_shift 93 = .ok (.aload_n 0, 1) := by decide +kernel
theorem dX8_shift_94 : decode cX8_shift 94 = .ok (.getfield 11, 3) := by decide +kernel
theorem dX8_shift_97 : decode cX8_shift 97 = .ok (.aload_n 0, 1) := by decide +kernel
theorem dX8_shift_98 : decode cX8_shift 98 = .ok (.getfield 31, 3) := by decide +kernel
theorem dX8_shift_101 : decode cX8_shift 101 = .ok (.aaload, 1) := by decide +kernel
theorem dX8_shift_102 : decode cX8_shift 102 = .ok (.iload_n 1, 1) := by decide +kernel
theorem dX8_shift_103 : decode cX8_shift 103 = .ok (.invokevirtual 49, 3) := by decide +kernel
theorem dX8_shift_106 : decode cX8_shift 106 = .ok (.return_, 1) := by decide +kernel
theorem dX8_goDown_0 : decode cX8_goDown 0 = .ok (.aload_n 0, 1) := by decide +kernel
theorem dX8_goDown_1 : decode cX8_goDown 1 = .ok (.getfield 31, 3) := by decide +kernel
theorem dX8_goDown_4 : decode cX8_goDown 4 = .ok (.iconst 2, 1) := by decide +kernel
theorem dX8_goDown_5 : decode cX8_goDown 5 = .ok (.if_icmp .lt 12, 3) := by decide +kernel
theorem dX8_goDown_8 : decode cX8_goDown 8 = .ok (.aload_n 0, 1) := by decide +kernel
theorem dX8_goDown_9 : decode cX8_goDown 9 = .ok (.getfield 31, 3) := by decide +kernel
theorem dX8_goDown_12 : decode cX8_goDown 12 = .ok (.bipush 6, 2) := by decide +kernel
theorem dX8_goDown_14 : decode cX8_goDown 14 = .ok (.if_icmp .le 4, 3) := by decide +kernel
theorem dX8_goDown_17 : decode cX8_goDown 17 = .ok (.return_, 1) := by decide +kernel
theorem dX8_goDown_18 : decode cX8_goDown 18 = .ok (.aload_n 0, 1) := by decide +kernel
theorem dX8_goDown_19 : decode cX8_goDown 19 = .ok (.getfield 20, 3) := by decide +kernel
theorem dX8_goDown_22 : decode cX8_goDown 22 = .ok (.aload_n 0, 1) := by decide +kernel
theorem dX8_goDown_23 : decode cX8_goDown 23 = .ok (.getfield 31, 3) := by decide +kernel
theorem dX8_goDown_26 : decode cX8_goDown 26 = .ok (.iconst 1, 1) := by decide +kernel
theorem dX8_goDown_27 : decode cX8_goDown 27 = .ok (.isub, 1) := by decide +kernel
theorem dX8_goDown_28 : decode cX8_goDown 28 = .ok (.iaload, 1) := by decide +kernel
theorem dX8_goDown_29 : decode cX8_goDown 29 = .ok (.istore_n 1, 1) := by decide +kernel
theorem dX8_goDown_30 : decode cX8_goDown 30 = .ok (.aload_n 0, 1) := by decide +kernel
theorem dX8_goDown_31 : decode cX8_goDown 31 = .ok (.getfield 11, 3) := by decide +kernel
theorem dX8_goDown_34 : decode cX8_goDown 34 = .ok (.aload_n 0, 1) := by decide +kernel
theorem dX8_goDown_35 : decode cX8_goDown 35 = .ok (.getfield 31, 3) := by decide +kernel
theorem dX8_goDown_38 : decode cX8_goDown 38 = .ok (.aaload, 1) := by decide +kernel
theorem dX8_goDown_39 : decode cX8_goDown 39 = .ok (.astore_n 2, 1) := by decide +kernel
theorem dX8_goDown_40 : decode cX8_goDown 40 = .ok (.aload_n 0, 1) := by decide +kernel
theorem dX8_goDown_41 : decode cX8_goDown 41 = .ok (.getfield 24, 3) := by decide +kernel
theorem dX8_goDown_44 : decode cX8_goDown 44 = .ok (.aload_n 0, 1) := by decide +kernel
theorem dX8_goDown_45 : decode cX8_goDown 45 = .ok (.getfield 31, 3) := by decide +kernel
theorem dX8_goDown_48 : decode cX8_goDown 48 = .ok (.iaload, 1) := by decide +kernel
theorem dX8_goDown_49 : decode cX8_goDown 49 = .ok (.istore_n 3, 1) := by decide +kernel
theorem dX8_goDown_50 : decode cX8_goDown 50 = .ok (.aload_n 0, 1) := by decide +kernel
theorem dX8_goDown_51 : decode cX8_goDown 51 = .ok (.getfield 31, 3) := by decide +kernel
theorem dX8_goDown_54 : decode cX8_goDown 54 = .ok (.istore 4, 2) := by decide +kernel
theorem dX8_goDown_56 : decode cX8_goDown 56 = .ok (.iload 4, 2) := by decide +kernel
theorem dX8_goDown_58 : decode cX8_goDown 58 = .ok (.iconst 1, 1) := by decide +kernel
theorem dX8_goDown_59 : decode cX8_goDown 59 = .ok (.if_icmp .le 59, 3) := by decide +kernel
theorem dX8_goDown_62 : decode cX8_goDown 62 = .ok (.aload_n 0, 1) := by decide +kernel
theorem dX8_goDown_63 : decode cX8_goDown 63 = .ok (.getfield 11, 3) := by decide +kernel
theorem dX8_goDown_66 : decode cX8_goDown 66 = .ok (.iload 4, 2) := by decide +kernel
theorem dX8_goDown_68 : decode cX8_goDown 68 = .ok (.aload_n 0, 1) := by decide +kernel
theorem dX8_goDown_69 : decode cX8_goDown 69 = .ok (.getfield 11, 3) := by decide +kernel
theorem dX8_goDown_72 : decode cX8_goDown 72 = .ok (.iload 4, 2) := by decide +kernel
theorem dX8_goDown_74 : decode cX8_goDown 74 = .ok (.iconst 1, 1) := by decide +kernel
theorem dX8_goDown_75 : decode cX8_goDown 75 = .ok (.isub, 1) := by decide +kernel
theorem dX8_goDown_76 : decode cX8_goDown 76 = .ok (.aaload, 1) := by decide +kernel
theorem dX8_goDown_77 : decode cX8_goDown 77 = .ok (.aastore, 1) := by decide +kernel
theorem dX8_goDown_78 : decode cX8_goDown 78 = .ok (.aload_n 0, 1) := by decide +kernel
theorem dX8_goDown_79 : decode cX8_goDown 79 = .ok (.getfield 24, 3) := by decide +kernel
theorem dX8_goDown_82 : decode cX8_goDown 82 = .ok (.iload 4, 2) := by decide +kernel
theorem dX8_goDown_84 : decode cX8_goDown 84 = .ok (.aload_n 0, 1) := by decide +kernel
theorem dX8_goDown_85 : decode cX8_goDown 85 = .ok (.getfield 24, 3) := by decide +kernel
theorem dX8_goDown_88 : decode cX8_goDown 88 = .ok (.iload 4, 2) := by decide +kernel
theorem dX8_goDown_90 : decode cX8_goDown 90 = .ok (.iconst 1, 1) := by decide +kernel
theorem dX8_goDown_91 : decode cX8_goDown 91 = .ok (.isub, 1) := by decide +kernel
theorem dX8_goDown_92 : decode cX8_goDown 92 = .ok (.iaload, 1) := by decide +kernel
theorem dX8_goDown_93 : decode cX8_goDown 93 = .ok (.iastore, 1) := by decide +kernel
theorem dX8_goDown_94 : decode cX8_goDown 94 = .ok (.aload_n 0, 1) := by decide +kernel
theorem dX8_goDown_95 : decode cX8_goDown 95 = .ok (.getfield 20, 3) := by decide +kernel
theorem dX8_goDown_98 : decode cX8_goDown 98 = .ok (.iload 4, 2) := by decide +kernel
theorem dX8_goDown_100 : decode cX8_goDown 100 = .ok (.aload_n 0, 1) := by decide +kernel
theorem dX8_goDown_101 : decode cX8_goDown 101 = .ok (.getfield 20, 3) := by decide +kernel
theorem dX8_goDown_104 : decode cX8_goDown 104 = .ok (.iload 4, 2) := by decide +kernel
theorem dX8_goDown_106 : decode cX8_goDown 106 = .ok (.iconst 1, 1) := by decide +kernel
theorem dX8_goDown_107 : decode cX8_goDown 107 = .ok (.isub, 1) := by decide +kernel
theorem dX8_goDown_108 : decode cX8_goDown 108 = .ok (.iaload, 1) := by decide +kernel
theorem dX8_goDown_109 : decode cX8_goDown 109 = .ok (.iload_n 1, 1) := by decide +kernel
theorem dX8_goDown_110 : decode cX8_goDown 110 = .ok (.isub, 1) := by decide +kernel
theorem dX8_goDown_111 : decode cX8_goDown 111 = .ok (.iastore, 1) := by decide +kernel
theorem dX8_goDown_112 : decode cX8_goDown 112 = .ok (.iinc 4 (-1), 3) := by decide +kernel
theorem dX8_goDown_115 : decode cX8_goDown 115 = .ok (.goto (-59), 3) := by decide +kernel
theorem dX8_goDown_118 : decode cX8_goDown 118 = .ok (.aload_n 0, 1) := by decide +kernel
theorem dX8_goDown_119 : decode cX8_goDown 119 = .ok (.getfield 11, 3) := by decide +kernel
theorem dX8_goDown_122 : decode cX8_goDown 122 = .ok (.iconst 1, 1) := by decide +kernel
theorem dX8_goDown_123 : decode cX8_goDown 123 = .ok (.aload_n 2, 1) := by decide +kernel
theorem dX8_goDown_124 : decode cX8_goDown 124 = .ok (.aastore, 1) := by decide +kernel
theorem dX8_goDown_125 : decode cX8_goDown 125 = .ok (.aload_n 0, 1) := by decide +kernel
theorem dX8_goDown_126 : decode cX8_goDown 126 = .ok (.getfield 24, 3) := by decide +kernel
theorem dX8_goDown_129 : decode cX8_goDown 129 = .ok (.iconst 1, 1) := by decide +kernel
theorem dX8_goDown_130 : decode cX8_goDown 130 = .ok (.iload_n 3, 1) := by decide +kernel
theorem dX8_goDown_131 : decode cX8_goDown 131 = .ok (.iastore, 1) := by decide +kernel
theorem dX8_goDown_132 : decode cX8_goDown 132 = .ok (.aload_n 0, 1) := by decide +kernel
theorem dX8_goDown_133 : decode cX8_goDown 133 = .ok (.getfield 20, 3) := by decide +kernel
theorem dX8_goDown_136 : decode cX8_goDown 136 = .ok (.iconst 1, 1) := by decide +kernel
theorem dX8_goDown_137 : decode cX8_goDown 137 = .ok (.iload_n 1, 1) := by decide +kernel
theorem dX8_goDown_138 : decode cX8_goDown 138 = .ok (.iastore, 1) := by decide +kernel
theorem dX8_goDown_139 : decode cX8_goDown 139 = .ok (.return_, 1) := by decide +kernel
set_option maxRecDepth 20000 in
theorem ggX8_collect_X6_clear : GoodIn wsX8_collect wsX6_clear := goodIn_r _ [7, 8, 27, 28] (by decide +kernel) (by decide +kernel)
set_option maxRecDepth 20000 in
theorem gX8_collect_X6_clear : GoodIn wsX8_collect (wsV RX8 38 RX6 yX6_clear wsX6_clear) := goodIn_app (goodIn_of _ (by decide +kernel)) ggX8_collect_X6_clear
set_option maxRecDepth 20000 in
theorem ggX8_collect_X6_size : GoodIn wsX8_collect wsX6_size := goodIn_r _ [12, 8, 27, 28] (by decide +kernel) (by decide +kernel)
set_option maxRecDepth 20000 in
theorem gX8_collect_X6_size : GoodIn wsX8_collect (wsV RX8 41 RX6 yX6_size wsX6_size) := goodIn_app (goodIn_of _ (by decide +kernel)) ggX8_collect_X6_size
set_option maxRecDepth 20000 in
theorem ggX8_collect_X6_get : GoodIn wsX8_collect wsX6_get := goodIn_r _ [16, 8, 17, 27, 28] (by decide +kernel) (by decide +kernel)
set_option maxRecDepth 20000 in
theorem gX8_collect_X6_get : GoodIn wsX8_collect (wsV RX8 45 RX6 yX6_get wsX6_get) := goodIn_app (goodIn_of _ (by decide +kernel)) ggX8_collect_X6_get
set_option maxRecDepth 20000 in
theorem ggX8_collect_X6_add : GoodIn wsX8_collect wsX6_add := goodIn_r _ [21, 8, 17, 27, 28] (by decide +kernel) (by decide +kernel)
set_option maxRecDepth 20000 in
theorem gX8_collect_X6_add : GoodIn wsX8_collect (wsV RX8 49 RX6 yX6_add wsX6_add) := goodIn_app (goodIn_of _ (by decide +kernel)) ggX8_collect_X6_add
theorem dX8_collect_0 : decode cX8_collect 0 = .ok (.aload_n 1, 1) := by decide +kernel
theorem dX8_collect_1 : decode cX8_collect 1 = .ok (.invokevirtual 38, 3) := by decide +kernel
theorem dX8_collect_4 : decode cX8_collect 4 = .ok (.iconst 1, 1) := by decide +kernel
theorem dX8_collect_5 : decode cX8_collect 5 = .ok (.istore_n 2, 1) := by decide +kernel
theorem dX8_collect_6 : decode cX8_collect 6 = .ok (.iload_n 2, 1) := by decide +kernel
theorem dX8_collect_7 : decode cX8_collect 7 = .ok (.aload_n 0, 1) := by decide +kernel
theorem dX8_collect_8 : decode cX8_collect 8 = .ok (.getfield 31, 3) := by decide +kernel
theorem dX8_collect_11 : decode cX8_collect 11 = .ok (.if_icmp .gt 50, 3) := by decide +kernel
theorem dX8_collect_14 : decode cX8_collect 14 = .ok (.iload_n 2, 1) := by decide +kernel
theorem dX8_collect_15 : decode cX8_collect 15 = .ok (.bipush 6, 2) := by decide +kernel
theorem dX8_collect_17 : decode cX8_collect 17 = .ok (.if_icmp .gt 44, 3) := by decide +kernel
theorem dX8_collect_20 : decode cX8_collect 20 = .ok (.iconst 0, 1) := by decide +kernel
theorem dX8_collect_21 : decode cX8_collect 21 = .ok (.istore_n 3, 1) := by decide +kernel
theorem dX8_collect_22 : decode cX8_collect 22 = .ok (.iload_n 3, 1) := by decide +kernel
theorem dX8_collect_23 : decode cX8_collect 23 = .ok (.aload_n 0, 1) := by decide +kernel
theorem dX8_collect_24 : decode cX8_collect 24 = .ok (.getfield 11, 3) := by decide +kernel
theorem dX8_collect_27 : decode cX8_collect 27 = .ok (.iload_n 2, 1) := by decide +kernel
theorem dX8_collect_28 : decode cX8_collect 28 = .ok (.aaload, 1) := by decide +kernel
theorem dX8_collect_29 : decode cX8_collect 29 = .ok (.invokevirtual 41, 3) := by decide +kernel
theorem dX8_collect_32 : decode cX8_collect 32 = .ok (.if_icmp .ge 23, 3) := by decide +kernel
theorem dX8_collect_35 : decode cX8_collect 35 = .ok (.aload_n 1, 1) := by decide +kernel
theorem dX8_collect_36 : decode cX8_collect 36 = .ok (.aload_n 0, 1) := by decide +kernel
theorem dX8_collect_37 : decode cX8_collect 37 = .ok (.getfield 11, 3) := by decide +kernel
theorem dX8_collect_40 : decode cX8_collect 40 = .ok (.iload_n 2, 1) := by decide +kernel
theorem dX8_collect_41 : decode cX8_collect 41 = .ok (.aaload, 1) := by decide +kernel
theorem dX8_collect_42 : decode cX8_collect 42 = .ok (.iload_n 3, 1) := by decide +kernel
theorem dX8_collect_43 : decode cX8_collect 43 = .ok (.invokevirtual 45, 3) := by decide +kernel
theorem dX8_collect_46 : decode cX8_collect 46 = .ok (.invokevirtual 49, 3) := by decide +kernel
theorem dX8_collect_49 : decode cX8_collect 49 = .ok (.iinc 3 1, 3) := by decide +kernel
theorem dX8_collect_52 : decode cX8_collect 52 = .ok (.goto (-30), 3) := by decide +kernel
theorem dX8_collect_55 : decode cX8_collect 55 = .ok (.iinc 2 1, 3) := by decide +kernel
theorem dX8_collect_58 : decode cX8_collect 58 = .ok (.goto (-52), 3) := by decide +kernel
theorem dX8_collect_61 : decode cX8_collect 61 = .ok (.return_, 1) := by decide +kernel
set_option maxRecDepth 20000 in
theorem ggX9_init_X9_within : GoodIn wsX9_init wsX9_within := goodIn_r _ [49, 50, 51, 52, 53, 54, 55, 56] (by decide +kernel) (by decide +kernel)
set_option maxRecDepth 20000 in
theorem gX9_init_X9_within : GoodIn wsX9_init (va_wsS RX9 7 yX9_within wsX9_within) := goodIn_app (goodIn_of _ (by decide +kernel)) ggX9_init_X9_within
set_option maxRecDepth 20000 in
theorem ggX9_init_X0_init : GoodIn wsX9_init wsX0_init := goodIn_r _ [59, 60, 2, 3, 61, 62, 55, 52, 56, 40, 63, 42, 64, 65, 148, 149, 150, 151, 152, 153, 154, 155, 156] (by decide +kernel) (by decide +kernel)
set_option maxRecDepth 20000 in
theorem gX9_init_X0_init : GoodIn wsX9_init (wsX0_init) := ggX9_init_X0_init
set_option maxRecDepth 20000 in
theorem ggX9_init_X5_init : GoodIn wsX9_init wsX5_init := goodIn_r _ [68, 69, 2, 3, 70, 44, 71, 42, 72, 73, 74, 75, 55, 52, 56, 76, 170, 171, 172, 173, 174, 175, 176, 148, 149, 150, 151, 152, 153, 154, 155, 156] (by decide +kernel) (by decide +kernel)
set_option maxRecDepth 20000 in
theorem gX9_init_X5_init : GoodIn wsX9_init (wsX5_init) := ggX9_init_X5_init
set_option maxRecDepth 20000 in
theorem ggX9_init_X1_init : GoodIn wsX9_init wsX1_init := goodIn_r _ [79, 80, 2, 3, 81, 82, 55, 52, 56, 44, 83, 84, 177, 178, 179] (by decide +kernel) (by decide +kernel)
set_option maxRecDepth 20000 in
theorem gX9_init_X1_init : GoodIn wsX9_init (wsX1_init) := ggX9_init_X1_init
set_option maxRecDepth 20000 in
theorem ggX9_init_X2_init : GoodIn wsX9_init wsX2_init := goodIn_r _ [87, 88, 2, 3, 89, 90, 91, 37, 38, 92, 93, 55, 52, 56, 40, 94, 95, 96, 97, 98, 99, 100, 44, 101, 180, 181, 182, 183, 184, 185, 186, 187, 188, 220, 221, 148, 149, 150, 151, 152, 153, 154, 155, 156] (by decide +kernel) (by decide +kernel)
set_option maxRecDepth 20000 in
theorem gX9_init_X2_init : GoodIn wsX9_init (wsX2_init) := ggX9_init_X2_init
set_option maxRecDepth 20000 in
theorem ggX9_init_X7_init : GoodIn wsX9_init wsX7_init := goodIn_r _ [104, 105, 2, 3, 106, 107, 108, 109, 55, 52, 56, 40, 110, 111, 37, 38, 112, 113, 114, 97, 98, 99, 100, 44, 101, 189, 190, 191, 192, 193, 194, 195, 196, 197, 198, 199, 200, 201, 148, 149, 150, 151, 152, 153, 154, 155, 156, 220, 221] (by decide +kernel) (by decide +kernel)
set_option maxRecDepth 20000 in
theorem gX9_init_X7_init : GoodIn wsX9_init (wsX7_init) := ggX9_init_X7_init
set_option maxRecDepth 20000 in
theorem ggX9_init_X3_init : GoodIn wsX9_init wsX3_init := goodIn_r _ [117, 118, 2, 3, 119, 120, 121, 55, 52, 56, 44, 122, 123, 202, 203, 204, 205, 206] (by decide +kernel) (by decide +kernel)
set_option maxRecDepth 20000 in
theorem gX9_init_X3_init : GoodIn wsX9_init (wsX3_init) := ggX9_init_X3_init
set_option maxRecDepth 20000 in
theorem ggX9_init_X4_init : GoodIn wsX9_init wsX4_init := goodIn_r _ [126, 127, 2, 3, 128, 129, 130, 131, 132, 37, 38, 133, 44, 134, 135, 136, 137, 97, 98, 99, 100, 55, 52, 56, 101, 207, 208, 209, 210, 211, 212, 213, 214, 220, 221] (by decide +kernel) (by decide +kernel)
set_option maxRecDepth 20000 in
theorem gX9_init_X4_init : GoodIn wsX9_init (wsX4_init) := ggX9_init_X4_init
set_option maxRecDepth 20000 in
theorem ggX9_init_X8_init : GoodIn wsX9_init wsX8_init := goodIn_r _ [140, 141, 2, 3, 142, 143, 37, 38, 44, 144, 145, 146, 97, 98, 99, 100, 55, 52, 56, 101, 215, 216, 217, 218, 219, 220, 221] (by decide +kernel) (by decide +kernel)
set_option maxRecDepth 20000 in
theorem gX9_init_X8_init : GoodIn wsX9_init (wsX8_init) := ggX9_init_X8_init
set_option maxRecDepth 20000 in
theorem ggX9_init_X6_init : GoodIn wsX9_init wsX6_init := goodIn_r _ [98, 99, 2, 3, 100, 55, 52, 56, 44, 101, 220, 221] (by decide +kernel) (by decide +kernel)
set_option maxRecDepth 20000 in
theorem gX9_init_X6_init : GoodIn wsX9_init (wsX6_init) := ggX9_init_X6_init
theorem dX9_init_0 : decode cX9_init 0 = .ok (.aload_n 0, 1) := by decide +kernel
theorem dX9_init_1 : decode cX9_init 1 = .ok (.invokespecial 1, 3) := by decide +kernel
theorem dX9_init_4 : decode cX9_init 4 = .ok (.iload_n 1, 1) := by decide +kernel
theorem dX9_init_5 : decode cX9_init 5 = .ok (.iconst 2, 1) := by decide +kernel
theorem dX9_init_6 : decode cX9_init 6 = .ok (.sipush 200, 3) := by decide +kernel
theorem dX9_init_9 : decode cX9_init 9 = .ok (.invokestatic 7, 3) := by decide +kernel
theorem dX9_init_12 : decode cX9_init 12 = .ok (.istore 4, 2) := by decide +kernel
theorem dX9_init_14 : decode cX9_init 14 = .ok (.aload_n 0, 1) := by decide +kernel
theorem dX9_init_15 : decode cX9_init 15 = .ok (.new 13, 3) := by decide +kernel
theorem dX9_init_18 : decode cX9_init 18 = .ok (.dup, 1) := by decide +kernel
theorem dX9_init_19 : decode cX9_init 19 = .ok (.iload 4, 2) := by decide +kernel
theorem dX9_init_21 : decode cX9_init 21 = .ok (.iload_n 2, 1) := by decide +kernel
theorem dX9_init_22 : decode cX9_init 22 = .ok (.iconst 5, 1) := by decide +kernel
theorem dX9_init_23 : decode cX9_init 23 = .ok (.bipush 64, 2) := by decide +kernel
theorem dX9_init_25 : decode cX9_init 25 = .ok (.invokestatic 7, 3) := by decide +kernel
theorem dX9_init_28 : decode cX9_init 28 = .ok (.invokespecial 15, 3) := by decide +kernel
theorem dX9_init_31 : decode cX9_init 31 = .ok (.putfield 18, 3) := by decide +kernel
theorem dX9_init_34 : decode cX9_init 34 = .ok (.aload_n 0, 1) := by decide +kernel
theorem dX9_init_35 : decode cX9_init 35 = .ok (.new 22, 3) := by decide +kernel
theorem dX9_init_38 : decode cX9_init 38 = .ok (.dup, 1) := by decide +kernel
theorem dX9_init_39 : decode cX9_init 39 = .ok (.aload_n 0, 1) := by decide +kernel
theorem dX9_init_40 : decode cX9_init 40 = .ok (.getfield 18, 3) := by decide +kernel
theorem dX9_init_43 : decode cX9_init 43 = .ok (.invokespecial 24, 3) := by decide +kernel
theorem dX9_init_46 : decode cX9_init 46 = .ok (.putfield 27, 3) := by decide +kernel
theorem dX9_init_49 : decode cX9_init 49 = .ok (.aload_n 0, 1) := by decide +kernel
theorem dX9_init_50 : decode cX9_init 50 = .ok (.new 31, 3) := by decide +kernel
theorem dX9_init_53 : decode cX9_init 53 = .ok (.dup, 1) := by decide +kernel
theorem dX9_init_54 : decode cX9_init 54 = .ok (.aload_n 0, 1) := by decide +kernel
theorem dX9_init_55 : decode cX9_init 55 = .ok (.getfield 18, 3) := by decide +kernel
theorem dX9_init_58 : decode cX9_init 58 = .ok (.iload 4, 2) := by decide +kernel
theorem dX9_init_60 : decode cX9_init 60 = .ok (.invokespecial 33, 3) := by decide +kernel
theorem dX9_init_63 : decode cX9_init 63 = .ok (.putfield 36, 3) := by decide +kernel
theorem dX9_init_66 : decode cX9_init 66 = .ok (.aload_n 0, 1) := by decide +kernel
theorem dX9_init_67 : decode cX9_init 67 = .ok (.new 40, 3) := by decide +kernel
theorem dX9_init_70 : decode cX9_init 70 = .ok (.dup, 1) := by decide +kernel
theorem dX9_init_71 : decode cX9_init 71 = .ok (.aload_n 0, 1) := by decide +kernel
theorem dX9_init_72 : decode cX9_init 72 = .ok (.getfield 18, 3) := by decide +kernel
theorem dX9_init_75 : decode cX9_init 75 = .ok (.aload_n 0, 1) := by decide +kernel
theorem dX9_init_76 : decode cX9_init 76 = .ok (.getfield 27, 3) := by decide +kernel
theorem dX9_init_79 : decode cX9_init 79 = .ok (.iload 4, 2) := by decide +kernel
theorem dX9_init_81 : decode cX9_init 81 = .ok (.invokespecial 42, 3) := by decide +kernel
theorem dX9_init_84 : decode cX9_init 84 = .ok (.putfield 45, 3) := by decide +kernel
theorem dX9_init_87 : decode cX9_init 87 = .ok (.aload_n 0, 1) := by decide +kernel
theorem dX9_init_88 : decode cX9_init 88 = .ok (.new 49, 3) := by decide +kernel
theorem dX9_init_91 : decode cX9_init 91 = .ok (.dup, 1) := by decide +kernel
theorem dX9_init_92 : decode cX9_init 92 = .ok (.aload_n 0, 1) := by decide +kernel
theorem dX9_init_93 : decode cX9_init 93 = .ok (.getfield 18, 3) := by decide +kernel
theorem dX9_init_96 : decode cX9_init 96 = .ok (.aload_n 0, 1) := by decide +kernel
theorem dX9_init_97 : decode cX9_init 97 = .ok (.getfield 27, 3) := by decide +kernel
theorem dX9_init_100 : decode cX9_init 100 = .ok (.aload_n 0, 1) := by decide +kernel
theorem dX9_init_101 : decode cX9_init 101 = .ok (.getfield 36, 3) := by decide +kernel
theorem dX9_init_104 : decode cX9_init 104 = .ok (.iload 4, 2) := by decide +kernel
theorem dX9_init_106 : decode cX9_init 106 = .ok (.invokespecial 51, 3) := by decide +kernel
theorem dX9_init_109 : decode cX9_init 109 = .ok (.putfield 54, 3) := by decide +kernel
theorem dX9_init_112 : decode cX9_init 112 = .ok (.aload_n 0, 1) := by decide +kernel
theorem dX9_init_113 : decode cX9_init 113 = .ok (.new 58, 3) := by decide +kernel
theorem dX9_init_116 : decode cX9_init 116 = .ok (.dup, 1) := by decide +kernel
theorem dX9_init_117 : decode cX9_init 117 = .ok (.aload_n 0, 1) := by decide +kernel
theorem dX9_init_118 : decode cX9_init 118 = .ok (.getfield 27, 3) := by decide +kernel
theorem dX9_init_121 : decode cX9_init 121 = .ok (.iload_n 3, 1) := by decide +kernel
theorem dX9_init_122 : decode cX9_init 122 = .ok (.iconst 2, 1) := by decide +kernel
theorem dX9_init_123 : decode cX9_init 123 = .ok (.bipush 64, 2) := by decide +kernel
theorem dX9_init_125 : decode cX9_init 125 = .ok (.invokestatic 7, 3) := by decide +kernel
theorem dX9_init_128 : decode cX9_init 128 = .ok (.invokespecial 60, 3) := by decide +kernel
theorem dX9_init_131 : decode cX9_init 131 = .ok (.putfield 63, 3) := by decide +kernel
theorem dX9_init_134 : decode cX9_init 134 = .ok (.aload_n 0, 1) := by decide +kernel
theorem dX9_init_135 : decode cX9_init 135 = .ok (.new 67, 3) := by decide +kernel
theorem dX9_init_138 : decode cX9_init 138 = .ok (.dup, 1) := by decide +kernel
theorem dX9_init_139 : decode cX9_init 139 = .ok (.aload_n 0, 1) := by decide +kernel
theorem dX9_init_140 : decode cX9_init 140 = .ok (.getfield 18, 3) := by decide +kernel
theorem dX9_init_143 : decode cX9_init 143 = .ok (.aload_n 0, 1) := by decide +kernel
theorem dX9_init_144 : decode cX9_init 144 = .ok (.getfield 27, 3) := by decide +kernel
theorem dX9_init_147 : decode cX9_init 147 = .ok (.aload_n 0, 1) := by decide +kernel
theorem dX9_init_148 : decode cX9_init 148 = .ok (.getfield 36, 3) := by decide +kernel
theorem dX9_init_151 : decode cX9_init 151 = .ok (.aload_n 0, 1) := by decide +kernel
theorem dX9_init_152 : decode cX9_init 152 = .ok (.getfield 54, 3) := by decide +kernel
theorem dX9_init_155 : decode cX9_init 155 = .ok (.invokespecial 69, 3) := by decide +kernel
theorem dX9_init_158 : decode cX9_init 158 = .ok (.putfield 72, 3) := by decide +kernel
theorem dX9_init_161 : decode cX9_init 161 = .ok (.aload_n 0, 1) := by decide +kernel
theorem dX9_init_162 : decode cX9_init 162 = .ok (.new 76, 3) := by decide +kernel
theorem dX9_init_165 : decode cX9_init 165 = .ok (.dup, 1) := by decide +kernel
theorem dX9_init_166 : decode cX9_init 166 = .ok (.iload 4, 2) := by decide +kernel
theorem dX9_init_168 : decode cX9_init 168 = .ok (.invokespecial 78, 3) := by decide +kernel
theorem dX9_init_171 : decode cX9_init 171 = .ok (.putfield 81, 3) := by decide +kernel
theorem dX9_init_174 : decode cX9_init 174 = .ok (.aload_n 0, 1) := by decide +kernel
theorem dX9_init_175 : decode cX9_init 175 = .ok (.new 85, 3) := by decide +kernel
theorem dX9_init_178 : decode cX9_init 178 = .ok (.dup, 1) := by decide +kernel
theorem dX9_init_179 : decode cX9_init 179 = .ok (.iload 4, 2) := by decide +kernel
theorem dX9_init_181 : decode cX9_init 181 = .ok (.invokespecial 87, 3) := by decide +kernel
theorem dX9_init_184 : decode cX9_init 184 = .ok (.putfield 88, 3) := by decide +kernel
theorem dX9_init_187 : decode cX9_init 187 = .ok (.aload_n 0, 1) := by decide +kernel
theorem dX9_init_188 : decode cX9_init 188 = .ok (.iconst 4, 1) := by decide +kernel
theorem dX9_init_189 : decode cX9_init 189 = .ok (.newarray .long, 2) := by decide +kernel
theorem dX9_init_191 : decode cX9_init 191 = .ok (.putfield 92, 3) := by decide +kernel
theorem dX9_init_194 : decode cX9_init 194 = .ok (.aload_n 0, 1) := by decide +kernel
theorem dX9_init_195 : decode cX9_init 195 = .ok (.iload 4, 2) := by decide +kernel
theorem dX9_init_197 : decode cX9_init 197 = .ok (.newarray .boolean, 2) := by decide +kernel
theorem dX9_init_199 : decode cX9_init 199 = .ok (.putfield 96, 3) := by decide +kernel
theorem dX9_init_202 : decode cX9_init 202 = .ok (.aload_n 0, 1) := by decide +kernel
theorem dX9_init_203 : decode cX9_init 203 = .ok (.iload 4, 2) := by decide +kernel
theorem dX9_init_205 : decode cX9_init 205 = .ok (.newarray .int, 2) := by decide +kernel
theorem dX9_init_207 : decode cX9_init 207 = .ok (.putfield 100, 3) := by decide +kernel
theorem dX9_init_210 : decode cX9_init 210 = .ok (.return_, 1) := by decide +kernel
set_option maxRecDepth 20000 in
theorem ggX9_width_X9_needPower : GoodIn wsX9_width wsX9_needPower := goodIn_ca (goodIn_r _ [12, 3, 4, 13, 49, 50, 51, 52, 53, 54, 55, 56, 57, 58, 59, 60, 61, 62, 63, 64, 65, 66, 67, 68, 69, 70] (by decide +kernel) (by decide +kernel)) (goodIn_sub (fun _ h => List.mem_cons_of_mem _ (List.mem_append_right _ h)) (by decide +kernel))
set_option maxRecDepth 20000 in
theorem gX9_width_X9_needPower : GoodIn wsX9_width (wsV RX9 111 RX9 yX9_needPower wsX9_needPower) := goodIn_app (goodIn_of _ (by decide +kernel)) ggX9_width_X9_needPower
set_option maxRecDepth 20000 in
theorem ggX9_width_X6_size : GoodIn wsX9_width wsX6_size := goodIn_r _ [18, 19, 71, 72] (by decide +kernel) (by decide +kernel)
set_option maxRecDepth 20000 in
theorem gX9_width_X6_size : GoodIn wsX9_width (wsV RX9 114 RX6 yX6_size wsX6_size) := goodIn_app (goodIn_of _ (by decide +kernel)) ggX9_width_X6_size
set_option maxRecDepth 20000 in
theorem ggX9_width_X2_heldRecords : GoodIn wsX9_width wsX2_heldRecords := goodIn_r _ [24, 25, 26, 27, 28, 15, 16, 17, 18, 19, 73, 74, 75, 76, 77, 78, 79, 80, 81, 82, 83, 84, 85, 86, 87, 88, 71, 72] (by decide +kernel) (by decide +kernel)
set_option maxRecDepth 20000 in
theorem gX9_width_X2_heldRecords : GoodIn wsX9_width (wsV RX9 118 RX2 yX2_heldRecords wsX2_heldRecords) := goodIn_app (goodIn_of _ (by decide +kernel)) ggX9_width_X2_heldRecords
set_option maxRecDepth 20000 in
theorem ggX9_width_X5_restart : GoodIn wsX9_width wsX5_restart := goodIn_r _ [33, 34, 35, 36, 37, 38, 39, 40, 41, 42, 43, 11, 44, 45, 46, 47, 48, 82, 83, 84, 85, 86, 87, 88, 62, 63, 64, 65, 66, 67, 68, 69, 70] (by decide +kernel) (by decide +kernel)
set_option maxRecDepth 20000 in
theorem gX9_width_X5_restart : GoodIn wsX9_width (wsV RX9 126 RX5 yX5_restart wsX5_restart) := goodIn_app (goodIn_of _ (by decide +kernel)) ggX9_width_X5_restart
theorem dX9_width_0 : decode cX9_width 0 = .ok (.iload_n 1, 1) := by decide +kernel
theorem dX9_width_1 : decode cX9_width 1 = .ok (.iconst 1, 1) := by decide +kernel
theorem dX9_width_2 : decode cX9_width 2 = .ok (.if_icmp .lt 8, 3) := by decide +kernel
theorem dX9_width_5 : decode cX9_width 5 = .ok (.iload_n 1, 1) := by decide +kernel
theorem dX9_width_6 : decode cX9_width 6 = .ok (.iconst 4, 1) := by decide +kernel
theorem dX9_width_7 : decode cX9_width 7 = .ok (.if_icmp .le 13, 3) := by decide +kernel
theorem dX9_width_10 : decode cX9_width 10 = .ok (.new 104, 3) := by decide +kernel
theorem dX9_width_13 : decode cX9_width 13 = .ok (.dup, 1) := by decide +kernel
theorem dX9_width_14 : decode cX9_width 14 = .ok (.ldc 106, 2) := by decide +kernel
theorem dX9_width_16 : decode cX9_width 16 = .ok (.invokespecial 108, 3) := by decide +kernel
theorem dX9_width_19 : decode cX9_width 19 = .ok (.athrow, 1) := by decide +kernel
theorem dX9_width_20 : decode cX9_width 20 = .ok (.aload_n 0, 1) := by decide +kernel
theorem dX9_width_21 : decode cX9_width 21 = .ok (.invokevirtual 111, 3) := by decide +kernel
theorem dX9_width_24 : decode cX9_width 24 = .ok (.aload_n 0, 1) := by decide +kernel
theorem dX9_width_25 : decode cX9_width 25 = .ok (.getfield 88, 3) := by decide +kernel
theorem dX9_width_28 : decode cX9_width 28 = .ok (.invokevirtual 114, 3) := by decide +kernel
theorem dX9_width_31 : decode cX9_width 31 = .ok (.ifCond .gt 13, 3) := by decide +kernel
theorem dX9_width_34 : decode cX9_width 34 = .ok (.aload_n 0, 1) := by decide +kernel
theorem dX9_width_35 : decode cX9_width 35 = .ok (.getfield 45, 3) := by decide +kernel
theorem dX9_width_38 : decode cX9_width 38 = .ok (.invokevirtual 118, 3) := by decide +kernel
theorem dX9_width_41 : decode cX9_width 41 = .ok (.ifCond .le 13, 3) := by decide +kernel
theorem dX9_width_44 : decode cX9_width 44 = .ok (.new 121, 3) := by decide +kernel
theorem dX9_width_47 : decode cX9_width 47 = .ok (.dup, 1) := by decide +kernel
theorem dX9_width_48 : decode cX9_width 48 = .ok (.ldc 123, 2) := by decide +kernel
theorem dX9_width_50 : decode cX9_width 50 = .ok (.invokespecial 125, 3) := by decide +kernel
theorem dX9_width_53 : decode cX9_width 53 = .ok (.athrow, 1) := by decide +kernel
theorem dX9_width_54 : decode cX9_width 54 = .ok (.aload_n 0, 1) := by decide +kernel
theorem dX9_width_55 : decode cX9_width 55 = .ok (.getfield 27, 3) := by decide +kernel
theorem dX9_width_58 : decode cX9_width 58 = .ok (.iload_n 1, 1) := by decide +kernel
theorem dX9_width_59 : decode cX9_width 59 = .ok (.invokevirtual 126, 3) := by decide +kernel
theorem dX9_width_62 : decode cX9_width 62 = .ok (.return_, 1) := by decide +kernel
set_option maxRecDepth 20000 in
theorem ggX9_key_X5_hasKey : GoodIn wsX9_key wsX5_hasKey := goodIn_r _ [13, 14, 15, 46, 47, 48, 49, 50, 51, 52] (by decide +kernel) (by decide +kernel)
set_option maxRecDepth 20000 in
theorem gX9_key_X5_hasKey : GoodIn wsX9_key (wsV RX9 138 RX5 yX5_hasKey wsX5_hasKey) := goodIn_app (goodIn_of _ (by decide +kernel)) ggX9_key_X5_hasKey
set_option maxRecDepth 20000 in
theorem ggX9_key_X9_needPower : GoodIn wsX9_key wsX9_needPower := goodIn_ca (goodIn_r _ [20, 5, 6, 21, 33, 34, 35, 36, 37, 38, 39, 40, 41, 42, 43, 44, 45, 53, 54, 55, 56, 57, 58, 59, 60, 61] (by decide +kernel) (by decide +kernel)) (goodIn_sub (fun _ h => List.mem_cons_of_mem _ (List.mem_append_right _ h)) (by decide +kernel))
set_option maxRecDepth 20000 in
theorem gX9_key_X9_needPower : GoodIn wsX9_key (wsV RX9 111 RX9 yX9_needPower wsX9_needPower) := goodIn_app (goodIn_of _ (by decide +kernel)) ggX9_key_X9_needPower
set_option maxRecDepth 20000 in
theorem ggX9_key_X6_size : GoodIn wsX9_key wsX6_size := goodIn_r _ [26, 27, 62, 63] (by decide +kernel) (by decide +kernel)
set_option maxRecDepth 20000 in
theorem gX9_key_X6_size : GoodIn wsX9_key (wsV RX9 114 RX6 yX6_size wsX6_size) := goodIn_app (goodIn_of _ (by decide +kernel)) ggX9_key_X6_size
set_option maxRecDepth 20000 in
theorem ggX9_key_X5_addKey : GoodIn wsX9_key wsX5_addKey := goodIn_r _ [31, 14, 15, 32, 46, 47, 48, 49, 50, 51, 52] (by decide +kernel) (by decide +kernel)
set_option maxRecDepth 20000 in
theorem gX9_key_X5_addKey : GoodIn wsX9_key (wsV RX9 146 RX5 yX5_addKey wsX5_addKey) := goodIn_app (goodIn_of _ (by decide +kernel)) ggX9_key_X5_addKey
theorem dX9_key_0 : decode cX9_key 0 = .ok (.iload_n 1, 1) := by decide +kernel
theorem dX9_key_1 : decode cX9_key 1 = .ok (.ifCond .lt 14, 3) := by decide +kernel
theorem dX9_key_4 : decode cX9_key 4 = .ok (.iload_n 1, 1) := by decide +kernel
theorem dX9_key_5 : decode cX9_key 5 = .ok (.aload_n 0, 1) := by decide +kernel
theorem dX9_key_6 : decode cX9_key 6 = .ok (.getfield 27, 3) := by decide +kernel
theorem dX9_key_9 : decode cX9_key 9 = .ok (.getfield 129, 3) := by decide +kernel
theorem dX9_key_12 : decode cX9_key 12 = .ok (.if_icmp .lt 13, 3) := by decide +kernel
theorem dX9_key_15 : decode cX9_key 15 = .ok (.new 133, 3) := by decide +kernel
theorem dX9_key_18 : decode cX9_key 18 = .ok (.dup, 1) := by decide +kernel
theorem dX9_key_19 : decode cX9_key 19 = .ok (.ldc 135, 2) := by decide +kernel
theorem dX9_key_21 : decode cX9_key 21 = .ok (.invokespecial 137, 3) := by decide +kernel
theorem dX9_key_24 : decode cX9_key 24 = .ok (.athrow, 1) := by decide +kernel
theorem dX9_key_25 : decode cX9_key 25 = .ok (.aload_n 0, 1) := by decide +kernel
theorem dX9_key_26 : decode cX9_key 26 = .ok (.getfield 27, 3) := by decide +kernel
theorem dX9_key_29 : decode cX9_key 29 = .ok (.iload_n 1, 1) := by decide +kernel
theorem dX9_key_30 : decode cX9_key 30 = .ok (.invokevirtual 138, 3) := by decide +kernel
theorem dX9_key_33 : decode cX9_key 33 = .ok (.ifCond .eq 13, 3) := by decide +kernel
theorem dX9_key_36 : decode cX9_key 36 = .ok (.new 104, 3) := by decide +kernel
theorem dX9_key_39 : decode cX9_key 39 = .ok (.dup, 1) := by decide +kernel
theorem dX9_key_40 : decode cX9_key 40 = .ok (.ldc 142, 2) := by decide +kernel
theorem dX9_key_42 : decode cX9_key 42 = .ok (.invokespecial 108, 3) := by decide +kernel
theorem dX9_key_45 : decode cX9_key 45 = .ok (.athrow, 1) := by decide +kernel
theorem dX9_key_46 : decode cX9_key 46 = .ok (.aload_n 0, 1) := by decide +kernel
theorem dX9_key_47 : decode cX9_key 47 = .ok (.invokevirtual 111, 3) := by decide +kernel
theorem dX9_key_50 : decode cX9_key 50 = .ok (.aload_n 0, 1) := by decide +kernel
theorem dX9_key_51 : decode cX9_key 51 = .ok (.getfield 88, 3) := by decide +kernel
theorem dX9_key_54 : decode cX9_key 54 = .ok (.invokevirtual 114, 3) := by decide +kernel
theorem dX9_key_57 : decode cX9_key 57 = .ok (.ifCond .le 13, 3) := by decide +kernel
theorem dX9_key_60 : decode cX9_key 60 = .ok (.new 121, 3) := by decide +kernel
theorem dX9_key_63 : decode cX9_key 63 = .ok (.dup, 1) := by decide +kernel
theorem dX9_key_64 : decode cX9_key 64 = .ok (.ldc 144, 2) := by decide +kernel
theorem dX9_key_66 : decode cX9_key 66 = .ok (.invokespecial 125, 3) := by decide +kernel
theorem dX9_key_69 : decode cX9_key 69 = .ok (.athrow, 1) := by decide +kernel
theorem dX9_key_70 : decode cX9_key 70 = .ok (.aload_n 0, 1) := by decide +kernel
theorem dX9_key_71 : decode cX9_key 71 = .ok (.getfield 27, 3) := by decide +kernel
theorem dX9_key_74 : decode cX9_key 74 = .ok (.iload_n 1, 1) := by decide +kernel
theorem dX9_key_75 : decode cX9_key 75 = .ok (.iload_n 2, 1) := by decide +kernel
theorem dX9_key_76 : decode cX9_key 76 = .ok (.invokevirtual 146, 3) := by decide +kernel
theorem dX9_key_79 : decode cX9_key 79 = .ok (.ireturn, 1) := by decide +kernel
set_option maxRecDepth 20000 in
theorem ggX9_mode_X9_needPower : GoodIn wsX9_mode wsX9_needPower := goodIn_ca (goodIn_r _ [8, 9, 10, 11, 12, 13, 14, 15, 16, 17, 18, 19, 20, 21, 22, 23, 24, 25, 26, 27, 28, 29, 30, 31, 32, 33] (by decide +kernel) (by decide +kernel)) (goodIn_sub (fun _ h => List.mem_cons_of_mem _ (List.mem_append_right _ h)) (by decide +kernel))
set_option maxRecDepth 20000 in
theorem gX9_mode_X9_needPower : GoodIn wsX9_mode (wsV RX9 111 RX9 yX9_needPower wsX9_needPower) := goodIn_app (goodIn_of _ (by decide +kernel)) ggX9_mode_X9_needPower
theorem dX9_mode_0 : decode cX9_mode 0 = .ok (.iload_n 1, 1) := by decide +kernel
theorem dX9_mode_1 : decode cX9_mode 1 = .ok (.ifCond .lt 8, 3) := by decide +kernel
theorem dX9_mode_4 : decode cX9_mode 4 = .ok (.iload_n 1, 1) := by decide +kernel
theorem dX9_mode_5 : decode cX9_mode 5 = .ok (.iconst 2, 1) := by decide +kernel
theorem dX9_mode_6 : decode cX9_mode 6 = .ok (.if_icmp .le 13, 3) := by decide +kernel
theorem dX9_mode_9 : decode cX9_mode 9 = .ok (.new 104, 3) := by decide +kernel
theorem dX9_mode_12 : decode cX9_mode 12 = .ok (.dup, 1) := by decide +kernel
theorem dX9_mode_13 : decode cX9_mode 13 = .ok (.ldc 150, 2) := by decide +kernel
theorem dX9_mode_15 : decode cX9_mode 15 = .ok (.invokespecial 108, 3) := by decide +kernel
theorem dX9_mode_18 : decode cX9_mode 18 = .ok (.athrow, 1) := by decide +kernel
theorem dX9_mode_19 : decode cX9_mode 19 = .ok (.aload_n 0, 1) := by decide +kernel
theorem dX9_mode_20 : decode cX9_mode 20 = .ok (.invokevirtual 111, 3) := by decide +kernel
theorem dX9_mode_23 : decode cX9_mode 23 = .ok (.aload_n 0, 1) := by decide +kernel
theorem dX9_mode_24 : decode cX9_mode 24 = .ok (.getfield 152, 3) := by decide +kernel
theorem dX9_mode_27 : decode cX9_mode 27 = .ok (.istore_n 2, 1) := by decide +kernel
theorem dX9_mode_28 : decode cX9_mode 28 = .ok (.aload_n 0, 1) := by decide +kernel
theorem dX9_mode_29 : decode cX9_mode 29 = .ok (.iload_n 1, 1) := by decide +kernel
theorem dX9_mode_30 : decode cX9_mode 30 = .ok (.putfield 152, 3) := by decide +kernel
theorem dX9_mode_33 : decode cX9_mode 33 = .ok (.iload_n 2, 1) := by decide +kernel
theorem dX9_mode_34 : decode cX9_mode 34 = .ok (.ireturn, 1) := by decide +kernel
set_option maxRecDepth 20000 in
theorem ggX9_feed_X9_needPower : GoodIn wsX9_feed wsX9_needPower := goodIn_ca (goodIn_r _ [7, 8, 9, 10, 69, 70, 71, 72, 73, 74, 75, 76, 77, 78, 79, 80, 81, 82, 83, 84, 85, 86, 87, 88, 89, 90] (by decide +kernel) (by decide +kernel)) (goodIn_sub (fun _ h => List.mem_cons_of_mem _ (List.mem_append_left _ (List.mem_append_right _ h))) (by decide +kernel))
set_option maxRecDepth 20000 in
theorem gX9_feed_X9_needPower : GoodIn wsX9_feed (wsV RX9 111 RX9 yX9_needPower wsX9_needPower) := goodIn_app (goodIn_of _ (by decide +kernel)) ggX9_feed_X9_needPower
set_option maxRecDepth 20000 in
theorem ggX9_feed_X9_setComing : GoodIn wsX9_feed wsX9_setComing := goodIn_r _ [14, 2, 69, 70, 71, 72, 73, 74, 75, 76, 77, 78, 79, 80, 81] (by decide +kernel) (by decide +kernel)
set_option maxRecDepth 20000 in
theorem gX9_feed_X9_setComing : GoodIn wsX9_feed (wsV RX9 155 RX9 yX9_setComing wsX9_setComing) := goodIn_app (goodIn_of _ (by decide +kernel)) ggX9_feed_X9_setComing
set_option maxRecDepth 20000 in
theorem ggX9_feed_X2_bring : GoodIn wsX9_feed wsX2_bring := goodIn_r _ [19, 20, 21, 22, 23, 24, 25, 26, 27, 28, 18, 29, 30, 31, 32, 33, 34, 35, 36, 37, 38, 39, 40, 41, 42, 43, 44, 45, 46, 47, 48, 49, 50, 51, 52, 53, 54, 55, 56, 57, 91, 92, 93, 94, 95, 96, 97, 98, 99, 100, 101, 102, 103, 104, 105, 106, 82, 83, 84, 85, 86, 87, 88, 89, 90, 107, 108] (by decide +kernel) (by decide +kernel)
set_option maxRecDepth 20000 in
theorem gX9_feed_X2_bring : GoodIn wsX9_feed (wsV RX9 159 RX2 yX2_bring wsX2_bring) := goodIn_app (goodIn_of _ (by decide +kernel)) ggX9_feed_X2_bring
set_option maxRecDepth 20000 in
theorem ggX9_feed_X9_answerFor : GoodIn wsX9_feed wsX9_answerFor := goodIn_ca (goodIn_r _ [61, 62, 63, 10, 64, 65, 66, 67, 54, 68, 56, 69, 70, 71, 72, 73, 74, 75, 76, 77, 78, 79, 80, 81, 82, 83, 84, 85, 86, 87, 88, 89, 90, 107, 108] (by decide +kernel) (by decide +kernel)) (goodIn_sub (fun _ h => List.mem_cons_of_mem _ (List.mem_append_right _ h)) (by decide +kernel))
set_option maxRecDepth 20000 in
theorem gX9_feed_X9_answerFor : GoodIn wsX9_feed (wsV RX9 163 RX9 yX9_answerFor wsX9_answerFor) := goodIn_app (goodIn_of _ (by decide +kernel)) ggX9_feed_X9_answerFor
theorem dX9_feed_0 : decode cX9_feed 0 = .ok (.aload_n 0, 1) := by decide +kernel
theorem dX9_feed_1 : decode cX9_feed 1 = .ok (.invokevirtual 111, 3) := by decide +kernel
theorem dX9_feed_4 : decode cX9_feed 4 = .ok (.aload_n 0, 1) := by decide +kernel
theorem dX9_feed_5 : decode cX9_feed 5 = .ok (.iconst 0, 1) := by decide +kernel
theorem dX9_feed_6 : decode cX9_feed 6 = .ok (.lload_n 1, 1) := by decide +kernel
theorem dX9_feed_7 : decode cX9_feed 7 = .ok (.invokevirtual 155, 3) := by decide +kernel
theorem dX9_feed_10 : decode cX9_feed 10 = .ok (.aload_n 0, 1) := by decide +kernel
theorem dX9_feed_11 : decode cX9_feed 11 = .ok (.iconst 1, 1) := by decide +kernel
theorem dX9_feed_12 : decode cX9_feed 12 = .ok (.lload_n 3, 1) := by decide +kernel
theorem dX9_feed_13 : decode cX9_feed 13 = .ok (.invokevirtual 155, 3) := by decide +kernel
theorem dX9_feed_16 : decode cX9_feed 16 = .ok (.aload_n 0, 1) := by decide +kernel
theorem dX9_feed_17 : decode cX9_feed 17 = .ok (.iconst 2, 1) := by decide +kernel
theorem dX9_feed_18 : decode cX9_feed 18 = .ok (.lload 5, 2) := by decide +kernel
theorem dX9_feed_20 : decode cX9_feed 20 = .ok (.invokevirtual 155, 3) := by decide +kernel
theorem dX9_feed_23 : decode cX9_feed 23 = .ok (.aload_n 0, 1) := by decide +kernel
theorem dX9_feed_24 : decode cX9_feed 24 = .ok (.iconst 3, 1) := by decide +kernel
theorem dX9_feed_25 : decode cX9_feed 25 = .ok (.lload 7, 2) := by decide +kernel
theorem dX9_feed_27 : decode cX9_feed 27 = .ok (.invokevirtual 155, 3) := by decide +kernel
theorem dX9_feed_30 : decode cX9_feed 30 = .ok (.aload_n 0, 1) := by decide +kernel
theorem dX9_feed_31 : decode cX9_feed 31 = .ok (.getfield 45, 3) := by decide +kernel
theorem dX9_feed_34 : decode cX9_feed 34 = .ok (.aload_n 0, 1) := by decide +kernel
theorem dX9_feed_35 : decode cX9_feed 35 = .ok (.getfield 92, 3) := by decide +kernel
theorem dX9_feed_38 : decode cX9_feed 38 = .ok (.invokevirtual 159, 3) := by decide +kernel
theorem dX9_feed_41 : decode cX9_feed 41 = .ok (.istore 9, 2) := by decide +kernel
theorem dX9_feed_43 : decode cX9_feed 43 = .ok (.iload 9, 2) := by decide +kernel
theorem dX9_feed_45 : decode cX9_feed 45 = .ok (.iconst (-1), 1) := by decide +kernel
theorem dX9_feed_46 : decode cX9_feed 46 = .ok (.if_icmp .ne 11, 3) := by decide +kernel
theorem dX9_feed_49 : decode cX9_feed 49 = .ok (.aload_n 0, 1) := by decide +kernel
theorem dX9_feed_50 : decode cX9_feed 50 = .ok (.iconst 0, 1) := by decide +kernel
theorem dX9_feed_51 : decode cX9_feed 51 = .ok (.invokevirtual 163, 3) := by decide +kernel
theorem dX9_feed_54 : decode cX9_feed 54 = .ok (.goto 5, 3) := by decide +kernel
theorem dX9_feed_57 : decode cX9_feed 57 = .ok (.iload 9, 2) := by decide +kernel
theorem dX9_feed_59 : decode cX9_feed 59 = .ok (.ireturn, 1) := by decide +kernel
set_option maxRecDepth 20000 in
theorem ggX9_run_X9_needPower : GoodIn wsX9_run wsX9_needPower := goodIn_ca (goodIn_r _ [13, 14, 15, 16, 64, 65, 66, 67, 68, 69, 70, 71, 72, 73, 74, 75, 76, 84, 85, 86, 87, 88, 89, 90, 91, 92] (by decide +kernel) (by decide +kernel)) (goodIn_sub (fun _ h => List.mem_cons_of_mem _ (List.mem_append_right _ h)) (by decide +kernel))
set_option maxRecDepth 20000 in
theorem gX9_run_X9_needPower : GoodIn wsX9_run (wsV RX9 111 RX9 yX9_needPower wsX9_needPower) := goodIn_app (goodIn_of _ (by decide +kernel)) ggX9_run_X9_needPower
set_option maxRecDepth 20000 in
theorem ggX9_run_X9_setComing : GoodIn wsX9_run wsX9_setComing := goodIn_r _ [20, 8, 64, 65, 66, 67, 68, 69, 70, 71, 72, 73, 74, 75, 76] (by decide +kernel) (by decide +kernel)
set_option maxRecDepth 20000 in
theorem gX9_run_X9_setComing : GoodIn wsX9_run (wsV RX9 155 RX9 yX9_setComing wsX9_setComing) := goodIn_app (goodIn_of _ (by decide +kernel)) ggX9_run_X9_setComing
set_option maxRecDepth 20000 in
theorem ggX9_run_X2_bring : GoodIn wsX9_run wsX2_bring := goodIn_r _ [25, 26, 27, 28, 29, 30, 31, 32, 33, 34, 24, 35, 36, 37, 38, 39, 40, 41, 42, 43, 44, 45, 46, 47, 48, 49, 50, 51, 52, 53, 54, 55, 56, 57, 58, 59, 60, 61, 62, 63, 93, 94, 95, 96, 97, 98, 99, 100, 101, 77, 78, 79, 80, 81, 82, 83, 84, 85, 86, 87, 88, 89, 90, 91, 92, 102, 103] (by decide +kernel) (by decide +kernel)
set_option maxRecDepth 20000 in
theorem gX9_run_X2_bring : GoodIn wsX9_run (wsV RX9 159 RX2 yX2_bring wsX2_bring) := goodIn_app (goodIn_of _ (by decide +kernel)) ggX9_run_X2_bring
theorem dX9_run_0 : decode cX9_run 0 = .ok (.iload_n 3, 1) := by decide +kernel
theorem dX9_run_1 : decode cX9_run 1 = .ok (.iconst 1, 1) := by decide +kernel
theorem dX9_run_2 : decode cX9_run 2 = .ok (.if_icmp .lt 22, 3) := by decide +kernel
theorem dX9_run_5 : decode cX9_run 5 = .ok (.iload_n 3, 1) := by decide +kernel
theorem dX9_run_6 : decode cX9_run 6 = .ok (.ldc 167, 2) := by decide +kernel
theorem dX9_run_8 : decode cX9_run 8 = .ok (.if_icmp .gt 16, 3) := by decide +kernel
theorem dX9_run_11 : decode cX9_run 11 = .ok (.iload 4, 2) := by decide +kernel
theorem dX9_run_13 : decode cX9_run 13 = .ok (.ifCond .lt 11, 3) := by decide +kernel
theorem dX9_run_16 : decode cX9_run 16 = .ok (.iload 4, 2) := by decide +kernel
theorem dX9_run_18 : decode cX9_run 18 = .ok (.sipush 300, 3) := by decide +kernel
theorem dX9_run_21 : decode cX9_run 21 = .ok (.if_icmp .le 13, 3) := by decide +kernel
theorem dX9_run_24 : decode cX9_run 24 = .ok (.new 104, 3) := by decide +kernel
theorem dX9_run_27 : decode cX9_run 27 = .ok (.dup, 1) := by decide +kernel
theorem dX9_run_28 : decode cX9_run 28 = .ok (.ldc 168, 2) := by decide +kernel
theorem dX9_run_30 : decode cX9_run 30 = .ok (.invokespecial 108, 3) := by decide +kernel
theorem dX9_run_33 : decode cX9_run 33 = .ok (.athrow, 1) := by decide +kernel
theorem dX9_run_34 : decode cX9_run 34 = .ok (.aload_n 0, 1) := by decide +kernel
theorem dX9_run_35 : decode cX9_run 35 = .ok (.invokevirtual 111, 3) := by decide +kernel
theorem dX9_run_38 : decode cX9_run 38 = .ok (.lload_n 1, 1) := by decide +kernel
theorem dX9_run_39 : decode cX9_run 39 = .ok (.lstore 5, 2) := by decide +kernel
theorem dX9_run_41 : decode cX9_run 41 = .ok (.iconst 0, 1) := by decide +kernel
theorem dX9_run_42 : decode cX9_run 42 = .ok (.istore 7, 2) := by decide +kernel
theorem dX9_run_44 : decode cX9_run 44 = .ok (.iload 7, 2) := by decide +kernel
theorem dX9_run_46 : decode cX9_run 46 = .ok (.iload 4, 2) := by decide +kernel
theorem dX9_run_48 : decode cX9_run 48 = .ok (.if_icmp .ge 74, 3) := by decide +kernel
theorem dX9_run_51 : decode cX9_run 51 = .ok (.iconst 0, 1) := by decide +kernel
theorem dX9_run_52 : decode cX9_run 52 = .ok (.istore 8, 2) := by decide +kernel
theorem dX9_run_54 : decode cX9_run 54 = .ok (.iload 8, 2) := by decide +kernel
theorem dX9_run_56 : decode cX9_run 56 = .ok (.aload_n 0, 1) := by decide +kernel
theorem dX9_run_57 : decode cX9_run 57 = .ok (.getfield 27, 3) := by decide +kernel
theorem dX9_run_60 : decode cX9_run 60 = .ok (.getfield 129, 3) := by decide +kernel
theorem dX9_run_63 : decode cX9_run 63 = .ok (.if_icmp .ge 35, 3) := by decide +kernel
theorem dX9_run_66 : decode cX9_run 66 = .ok (.lload 5, 2) := by decide +kernel
theorem dX9_run_68 : decode cX9_run 68 = .ok (.ldc2_w 170, 3) := by decide +kernel
theorem dX9_run_71 : decode cX9_run 71 = .ok (.lmul, 1) := by decide +kernel
theorem dX9_run_72 : decode cX9_run 72 = .ok (.ldc2_w 172, 3) := by decide +kernel
theorem dX9_run_75 : decode cX9_run 75 = .ok (.ladd, 1) := by decide +kernel
theorem dX9_run_76 : decode cX9_run 76 = .ok (.lstore 5, 2) := by decide +kernel
theorem dX9_run_78 : decode cX9_run 78 = .ok (.aload_n 0, 1) := by decide +kernel
theorem dX9_run_79 : decode cX9_run 79 = .ok (.iload 8, 2) := by decide +kernel
theorem dX9_run_81 : decode cX9_run 81 = .ok (.lload 5, 2) := by decide +kernel
theorem dX9_run_83 : decode cX9_run 83 = .ok (.bipush 33, 2) := by decide +kernel
theorem dX9_run_85 : decode cX9_run 85 = .ok (.lushr, 1) := by decide +kernel
theorem dX9_run_86 : decode cX9_run 86 = .ok (.iload_n 3, 1) := by decide +kernel
theorem dX9_run_87 : decode cX9_run 87 = .ok (.i2l, 1) := by decide +kernel
theorem dX9_run_88 : decode cX9_run 88 = .ok (.lrem, 1) := by decide +kernel
theorem dX9_run_89 : decode cX9_run 89 = .ok (.invokevirtual 155, 3) := by decide +kernel
theorem dX9_run_92 : decode cX9_run 92 = .ok (.iinc 8 1, 3) := by decide +kernel
theorem dX9_run_95 : decode cX9_run 95 = .ok (.goto (-41), 3) := by decide +kernel
theorem dX9_run_98 : decode cX9_run 98 = .ok (.aload_n 0, 1) := by decide +kernel
theorem dX9_run_99 : decode cX9_run 99 = .ok (.getfield 45, 3) := by decide +kernel
theorem dX9_run_102 : decode cX9_run 102 = .ok (.aload_n 0, 1) := by decide +kernel
theorem dX9_run_103 : decode cX9_run 103 = .ok (.getfield 92, 3) := by decide +kernel
theorem dX9_run_106 : decode cX9_run 106 = .ok (.invokevirtual 159, 3) := by decide +kernel
theorem dX9_run_109 : decode cX9_run 109 = .ok (.iconst (-1), 1) := by decide +kernel
theorem dX9_run_110 : decode cX9_run 110 = .ok (.if_icmp .ne 6, 3) := by decide +kernel
theorem dX9_run_113 : decode cX9_run 113 = .ok (.iload 7, 2) := by decide +kernel
theorem dX9_run_115 : decode cX9_run 115 = .ok (.ireturn, 1) := by decide +kernel
theorem dX9_run_116 : decode cX9_run 116 = .ok (.iinc 7 1, 3) := by decide +kernel
theorem dX9_run_119 : decode cX9_run 119 = .ok (.goto (-75), 3) := by decide +kernel
theorem dX9_run_122 : decode cX9_run 122 = .ok (.iload 4, 2) := by decide +kernel
theorem dX9_run_124 : decode cX9_run 124 = .ok (.ireturn, 1) := by decide +kernel
set_option maxRecDepth 20000 in
theorem ggX9_form_X9_needPower : GoodIn wsX9_form wsX9_needPower := goodIn_ca (goodIn_r _ [11, 12, 13, 14, 258, 259, 260, 261, 262, 263, 264, 265, 266, 267, 268, 269, 270, 271, 272, 273, 274, 275, 276, 277, 278, 279] (by decide +kernel) (by decide +kernel)) (goodIn_sub (fun _ h => List.mem_cons_of_mem _ (List.mem_append_left _ (List.mem_append_right _ h))) (by decide +kernel))
set_option maxRecDepth 20000 in
theorem gX9_form_X9_needPower : GoodIn wsX9_form (wsV RX9 111 RX9 yX9_needPower wsX9_needPower) := goodIn_app (goodIn_of _ (by decide +kernel)) ggX9_form_X9_needPower
set_option maxRecDepth 20000 in
theorem ggX9_form_X7_beginStep : GoodIn wsX9_form wsX7_beginStep := goodIn_r _ [19, 20, 21, 22, 23, 24, 25, 26, 27, 28, 29, 30, 31, 32, 33, 34, 35, 36, 37, 38, 39, 40, 41, 42, 43, 44, 45, 18, 46, 47, 48, 49, 50, 51, 280, 281, 282, 283, 284, 285, 286, 287, 288, 289, 290, 291, 292, 293, 294, 295, 296, 297, 298, 299, 300, 301] (by decide +kernel) (by decide +kernel)
set_option maxRecDepth 20000 in
theorem gX9_form_X7_beginStep : GoodIn wsX9_form (wsV RX9 176 RX7 yX7_beginStep wsX7_beginStep) := goodIn_app (goodIn_of _ (by decide +kernel)) ggX9_form_X7_beginStep
set_option maxRecDepth 20000 in
theorem ggX9_form_X2_open : GoodIn wsX9_form wsX2_open := goodIn_r _ [56, 57, 58, 59, 60, 61, 62, 63, 64, 65, 66, 67, 55, 68, 69, 70, 71, 40, 72, 42, 73, 74, 75, 76, 77, 78, 79, 80, 81, 82, 83, 84, 85, 86, 87, 88, 89, 90, 91, 92, 93, 94, 95, 96, 97, 98, 302, 303, 304, 305, 306, 307, 308, 309, 310, 293, 294, 295, 296, 297, 298, 299, 300, 301, 271, 272, 273, 274, 275, 276, 277, 278, 279] (by decide +kernel) (by decide +kernel)
set_option maxRecDepth 20000 in
theorem gX9_form_X2_open : GoodIn wsX9_form (wsV RX9 179 RX2 yX2_open wsX2_open) := goodIn_app (goodIn_of _ (by decide +kernel)) ggX9_form_X2_open
set_option maxRecDepth 20000 in
theorem ggX9_form_X9_loadRuns : GoodIn wsX9_form wsX9_loadRuns := goodIn_r _ [102, 103, 5, 3, 104, 105, 106, 107, 108, 109, 110, 111, 112, 10, 113, 114, 115, 116, 55, 117, 63, 118, 119, 120, 121, 64, 57, 61, 58, 122, 123, 124, 40, 125, 42, 98, 126, 127, 128, 76, 129, 130, 88, 89, 90, 91, 92, 93, 131, 132, 133, 134, 135, 136, 137, 138, 139, 140, 141, 142, 143, 144, 28, 145, 146, 31, 147, 148, 149, 150, 30, 36, 151, 152, 153, 154, 155, 83, 156, 157, 158, 159, 160, 161, 162, 163, 164, 165, 166, 167, 168, 169, 170, 18, 171, 20, 48, 21, 22, 172, 47, 173, 174, 175, 176, 177, 178, 179, 180, 181, 182, 183, 184, 185, 186, 51, 187, 188, 189, 190, 23, 191, 50, 49, 192, 74, 75, 77, 78, 79, 80, 81, 82, 84, 85, 86, 87, 193, 95, 96, 97, 194, 195, 196, 197, 198, 199, 200, 201, 202, 203, 24, 204, 205, 206, 207, 208, 43, 44, 45, 46, 258, 259, 260, 261, 262, 263, 264, 265, 266, 267, 268, 269, 270, 302, 303, 304, 305, 306, 307, 308, 309, 310, 311, 312, 313, 314, 315, 293, 294, 295, 296, 297, 298, 299, 271, 272, 273, 274, 275, 276, 277, 278, 279, 300, 301, 280, 281, 282, 283, 284, 285, 286, 287, 288, 289, 290, 291, 292, 316, 317, 318] (by decide +kernel) (by decide +kernel)
set_option maxRecDepth 20000 in
theorem gX9_form_X9_loadRuns : GoodIn wsX9_form (wsV RX9 183 RX9 yX9_loadRuns wsX9_loadRuns) := goodIn_app (goodIn_of _ (by decide +kernel)) ggX9_form_X9_loadRuns
set_option maxRecDepth 20000 in
theorem ggX9_form_X9_chooseRuns : GoodIn wsX9_form wsX9_chooseRuns := goodIn_r _ [212, 103, 5, 3, 213, 104, 105, 106, 107, 108, 109, 110, 111, 112, 10, 113, 114, 115, 116, 55, 117, 63, 118, 119, 120, 121, 64, 57, 61, 58, 122, 123, 124, 40, 125, 42, 98, 126, 127, 128, 76, 129, 130, 88, 89, 90, 91, 92, 93, 131, 132, 133, 134, 135, 136, 137, 138, 139, 140, 141, 142, 143, 144, 28, 145, 146, 31, 147, 148, 149, 150, 30, 36, 151, 152, 153, 154, 155, 83, 156, 157, 158, 159, 160, 161, 162, 163, 214, 215, 216, 217, 200, 201, 202, 18, 203, 47, 49, 191, 51, 24, 183, 184, 185, 186, 48, 21, 187, 188, 189, 190, 172, 173, 23, 50, 192, 74, 75, 77, 78, 79, 80, 81, 82, 84, 85, 86, 87, 193, 95, 96, 97, 194, 195, 196, 197, 198, 199, 204, 205, 206, 207, 208, 43, 44, 45, 46, 164, 165, 166, 167, 168, 169, 170, 171, 20, 22, 174, 175, 176, 177, 178, 179, 180, 181, 182, 218, 258, 259, 260, 261, 262, 263, 264, 265, 266, 267, 268, 269, 270, 302, 303, 304, 305, 306, 307, 308, 309, 310, 311, 312, 313, 314, 315, 293, 294, 295, 296, 297, 298, 299, 271, 272, 273, 274, 275, 276, 277, 278, 279, 300, 301, 280, 281, 282, 283, 284, 285, 286, 287, 288, 289, 290, 291, 292, 316, 317, 318] (by decide +kernel) (by decide +kernel)
set_option maxRecDepth 20000 in
theorem gX9_form_X9_chooseRuns : GoodIn wsX9_form (wsV RX9 186 RX9 yX9_chooseRuns wsX9_chooseRuns) := goodIn_app (goodIn_of _ (by decide +kernel)) ggX9_form_X9_chooseRuns
set_option maxRecDepth 20000 in
theorem ggX9_form_X9_copyRuns : GoodIn wsX9_form wsX9_copyRuns := goodIn_r _ [222, 5, 213, 3, 114, 115, 116, 55, 117, 63, 118, 119, 120, 121, 64, 57, 61, 58, 122, 123, 124, 40, 125, 42, 98, 126, 127, 128, 76, 129, 130, 88, 89, 90, 91, 92, 93, 218, 143, 144, 28, 145, 146, 31, 147, 148, 149, 150, 30, 36, 151, 152, 153, 154, 155, 83, 200, 201, 202, 18, 203, 47, 49, 191, 51, 24, 183, 184, 185, 186, 48, 21, 187, 188, 189, 190, 172, 173, 23, 50, 192, 74, 75, 77, 78, 79, 80, 81, 82, 84, 85, 86, 87, 193, 95, 96, 97, 194, 195, 196, 197, 198, 199, 204, 205, 206, 207, 208, 43, 44, 45, 46, 168, 169, 170, 171, 20, 22, 174, 175, 176, 177, 178, 179, 180, 181, 182, 258, 259, 260, 261, 262, 263, 264, 265, 266, 267, 268, 269, 270, 302, 303, 304, 305, 306, 307, 308, 309, 310, 293, 294, 295, 296, 297, 298, 299, 271, 272, 273, 274, 275, 276, 277, 278, 279, 300, 301, 280, 281, 282, 283, 284, 285, 286, 287, 288, 289, 290, 291, 292, 316, 317, 318] (by decide +kernel) (by decide +kernel)
set_option maxRecDepth 20000 in
theorem gX9_form_X9_copyRuns : GoodIn wsX9_form (wsV RX9 189 RX9 yX9_copyRuns wsX9_copyRuns) := goodIn_app (goodIn_of _ (by decide +kernel)) ggX9_form_X9_copyRuns
set_option maxRecDepth 20000 in
theorem ggX9_form_X2_removeAll : GoodIn wsX9_form wsX2_removeAll := goodIn_r _ [226, 64, 61, 60, 59, 69, 70, 71, 40, 72, 42, 122, 123, 124, 125, 98, 227, 228, 229, 76, 230, 78, 231, 38, 39, 41, 302, 303, 304, 305, 306, 307, 308, 309, 310, 300, 301, 271, 272, 273, 274, 275, 276, 277, 278, 279] (by decide +kernel) (by decide +kernel)
set_option maxRecDepth 20000 in
theorem gX9_form_X2_removeAll : GoodIn wsX9_form (wsV RX9 192 RX2 yX2_removeAll wsX2_removeAll) := goodIn_app (goodIn_of _ (by decide +kernel)) ggX9_form_X2_removeAll
set_option maxRecDepth 20000 in
theorem ggX9_form_X7_addNewRuns : GoodIn wsX9_form wsX7_addNewRuns := goodIn_r _ [235, 24, 236, 70, 71, 40, 72, 42, 237, 123, 124, 125, 98, 193, 95, 96, 97, 280, 281, 282, 283, 284, 285, 286, 287, 288, 289, 290, 291, 292, 300, 301] (by decide +kernel) (by decide +kernel)
set_option maxRecDepth 20000 in
theorem gX9_form_X7_addNewRuns : GoodIn wsX9_form (wsV RX9 195 RX7 yX7_addNewRuns wsX7_addNewRuns) := goodIn_app (goodIn_of _ (by decide +kernel)) ggX9_form_X7_addNewRuns
set_option maxRecDepth 20000 in
theorem ggX9_form_X7_undoStep : GoodIn wsX9_form wsX7_undoStep := goodIn_r _ [241, 23, 172, 24, 236, 70, 71, 40, 72, 42, 237, 123, 124, 125, 98, 242, 228, 229, 76, 230, 78, 37, 38, 39, 41, 280, 281, 282, 283, 284, 285, 286, 287, 288, 289, 290, 291, 292, 300, 301, 271, 272, 273, 274, 275, 276, 277, 278, 279] (by decide +kernel) (by decide +kernel)
set_option maxRecDepth 20000 in
theorem gX9_form_X7_undoStep : GoodIn wsX9_form (wsV RX9 199 RX7 yX7_undoStep wsX7_undoStep) := goodIn_app (goodIn_of _ (by decide +kernel)) ggX9_form_X7_undoStep
set_option maxRecDepth 20000 in
theorem ggX9_form_X2_undoOpen : GoodIn wsX9_form wsX2_undoOpen := goodIn_r _ [246, 59, 64, 61, 69, 70, 71, 40, 72, 42, 247, 248, 249, 250, 98, 227, 228, 229, 76, 230, 78, 302, 303, 304, 305, 306, 307, 308, 309, 310, 300, 301, 271, 272, 273, 274, 275, 276, 277, 278, 279] (by decide +kernel) (by decide +kernel)
set_option maxRecDepth 20000 in
theorem gX9_form_X2_undoOpen : GoodIn wsX9_form (wsV RX9 202 RX2 yX2_undoOpen wsX2_undoOpen) := goodIn_app (goodIn_of _ (by decide +kernel)) ggX9_form_X2_undoOpen
set_option maxRecDepth 20000 in
theorem ggX9_form_X9_answerFor : GoodIn wsX9_form wsX9_answerFor := goodIn_ca (goodIn_r _ [254, 255, 256, 14, 6, 257, 70, 71, 40, 72, 42, 258, 259, 260, 261, 262, 263, 264, 265, 266, 267, 268, 269, 270, 271, 272, 273, 274, 275, 276, 277, 278, 279, 300, 301] (by decide +kernel) (by decide +kernel)) (goodIn_sub (fun _ h => List.mem_cons_of_mem _ (List.mem_append_right _ h)) (by decide +kernel))
set_option maxRecDepth 20000 in
theorem gX9_form_X9_answerFor : GoodIn wsX9_form (wsV RX9 163 RX9 yX9_answerFor wsX9_answerFor) := goodIn_app (goodIn_of _ (by decide +kernel)) ggX9_form_X9_answerFor
theorem dX9_form_0 : decode cX9_form 0 = .ok (.iload_n 1, 1) := by decide +kernel
theorem dX9_form_1 : decode cX9_form 1 = .ok (.ifCond .lt 8, 3) := by decide +kernel
theorem dX9_form_4 : decode cX9_form 4 = .ok (.iload_n 1, 1) := by decide +kernel
theorem dX9_form_5 : decode cX9_form 5 = .ok (.iconst 2, 1) := by decide +kernel
theorem dX9_form_6 : decode cX9_form 6 = .ok (.if_icmp .le 13, 3) := by decide +kernel
theorem dX9_form_9 : decode cX9_form 9 = .ok (.new 104, 3) := by decide +kernel
theorem dX9_form_12 : decode cX9_form 12 = .ok (.dup, 1) := by decide +kernel
theorem dX9_form_13 : decode cX9_form 13 = .ok (.ldc 174, 2) := by decide +kernel
theorem dX9_form_15 : decode cX9_form 15 = .ok (.invokespecial 108, 3) := by decide +kernel
theorem dX9_form_18 : decode cX9_form 18 = .ok (.athrow, 1) := by decide +kernel
theorem dX9_form_19 : decode cX9_form 19 = .ok (.aload_n 0, 1) := by decide +kernel
theorem dX9_form_20 : decode cX9_form 20 = .ok (.invokevirtual 111, 3) := by decide +kernel
theorem dX9_form_23 : decode cX9_form 23 = .ok (.aload_n 0, 1) := by decide +kernel
theorem dX9_form_24 : decode cX9_form 24 = .ok (.getfield 54, 3) := by decide +kernel
theorem dX9_form_27 : decode cX9_form 27 = .ok (.aload_n 0, 1) := by decide +kernel
theorem dX9_form_28 : decode cX9_form 28 = .ok (.getfield 152, 3) := by decide +kernel
theorem dX9_form_31 : decode cX9_form 31 = .ok (.invokevirtual 176, 3) := by decide +kernel
theorem dX9_form_34 : decode cX9_form 34 = .ok (.aload_n 0, 1) := by decide +kernel
theorem dX9_form_35 : decode cX9_form 35 = .ok (.getfield 45, 3) := by decide +kernel
theorem dX9_form_38 : decode cX9_form 38 = .ok (.invokevirtual 179, 3) := by decide +kernel
theorem dX9_form_41 : decode cX9_form 41 = .ok (.ifCond .eq 43, 3) := by decide +kernel
theorem dX9_form_44 : decode cX9_form 44 = .ok (.iload_n 1, 1) := by decide +kernel
theorem dX9_form_45 : decode cX9_form 45 = .ok (.ifCond .ne 13, 3) := by decide +kernel
theorem dX9_form_48 : decode cX9_form 48 = .ok (.aload_n 0, 1) := by decide +kernel
theorem dX9_form_49 : decode cX9_form 49 = .ok (.invokevirtual 183, 3) := by decide +kernel
theorem dX9_form_52 : decode cX9_form 52 = .ok (.ifCond .eq 32, 3) := by decide +kernel
theorem dX9_form_55 : decode cX9_form 55 = .ok (.goto 25, 3) := by decide +kernel
theorem dX9_form_58 : decode cX9_form 58 = .ok (.iload_n 1, 1) := by decide +kernel
theorem dX9_form_59 : decode cX9_form 59 = .ok (.iconst 1, 1) := by decide +kernel
theorem dX9_form_60 : decode cX9_form 60 = .ok (.if_icmp .ne 13, 3) := by decide +kernel
theorem dX9_form_63 : decode cX9_form 63 = .ok (.aload_n 0, 1) := by decide +kernel
theorem dX9_form_64 : decode cX9_form 64 = .ok (.invokevirtual 186, 3) := by decide +kernel
theorem dX9_form_67 : decode cX9_form 67 = .ok (.ifCond .eq 17, 3) := by decide +kernel
theorem dX9_form_70 : decode cX9_form 70 = .ok (.goto 10, 3) := by decide +kernel
theorem dX9_form_73 : decode cX9_form 73 = .ok (.aload_n 0, 1) := by decide +kernel
theorem dX9_form_74 : decode cX9_form 74 = .ok (.invokevirtual 189, 3) := by decide +kernel
theorem dX9_form_77 : decode cX9_form 77 = .ok (.ifCond .eq 7, 3) := by decide +kernel
theorem dX9_form_80 : decode cX9_form 80 = .ok (.iconst 1, 1) := by decide +kernel
theorem dX9_form_81 : decode cX9_form 81 = .ok (.goto 4, 3) := by decide +kernel
theorem dX9_form_84 : decode cX9_form 84 = .ok (.iconst 0, 1) := by decide +kernel
theorem dX9_form_85 : decode cX9_form 85 = .ok (.istore_n 2, 1) := by decide +kernel
theorem dX9_form_86 : decode cX9_form 86 = .ok (.iload_n 2, 1) := by decide +kernel
theorem dX9_form_87 : decode cX9_form 87 = .ok (.ifCond .eq 24, 3) := by decide +kernel
theorem dX9_form_90 : decode cX9_form 90 = .ok (.aload_n 0, 1) := by decide +kernel
theorem dX9_form_91 : decode cX9_form 91 = .ok (.getfield 45, 3) := by decide +kernel
theorem dX9_form_94 : decode cX9_form 94 = .ok (.invokevirtual 192, 3) := by decide +kernel
theorem dX9_form_97 : decode cX9_form 97 = .ok (.aload_n 0, 1) := by decide +kernel
theorem dX9_form_98 : decode cX9_form 98 = .ok (.getfield 54, 3) := by decide +kernel
theorem dX9_form_101 : decode cX9_form 101 = .ok (.aload_n 0, 1) := by decide +kernel
theorem dX9_form_102 : decode cX9_form 102 = .ok (.getfield 88, 3) := by decide +kernel
theorem dX9_form_105 : decode cX9_form 105 = .ok (.invokevirtual 195, 3) := by decide +kernel
theorem dX9_form_108 : decode cX9_form 108 = .ok (.goto 17, 3) := by decide +kernel
theorem dX9_form_111 : decode cX9_form 111 = .ok (.aload_n 0, 1) := by decide +kernel
theorem dX9_form_112 : decode cX9_form 112 = .ok (.getfield 54, 3) := by decide +kernel
theorem dX9_form_115 : decode cX9_form 115 = .ok (.invokevirtual 199, 3) := by decide +kernel
theorem dX9_form_118 : decode cX9_form 118 = .ok (.aload_n 0, 1) := by decide +kernel
theorem dX9_form_119 : decode cX9_form 119 = .ok (.getfield 45, 3) := by decide +kernel
theorem dX9_form_122 : decode cX9_form 122 = .ok (.invokevirtual 202, 3) := by decide +kernel
theorem dX9_form_125 : decode cX9_form 125 = .ok (.aload_n 0, 1) := by decide +kernel
theorem dX9_form_126 : decode cX9_form 126 = .ok (.iload_n 2, 1) := by decide +kernel
theorem dX9_form_127 : decode cX9_form 127 = .ok (.invokevirtual 163, 3) := by decide +kernel
theorem dX9_form_130 : decode cX9_form 130 = .ok (.ireturn, 1) := by decide +kernel
set_option maxRecDepth 20000 in
theorem ggX9_pass_X9_needFan : GoodIn wsX9_pass wsX9_needFan := goodIn_ca (goodIn_r _ [5, 6, 7] (by decide +kernel) (by decide +kernel)) (goodIn_sub (fun _ h => List.mem_cons_of_mem _ (List.mem_append_left _ (List.mem_append_left _ (List.mem_append_right _ h)))) (by decide +kernel))
set_option maxRecDepth 20000 in
theorem gX9_pass_X9_needFan : GoodIn wsX9_pass (wsV RX9 205 RX9 yX9_needFan wsX9_needFan) := goodIn_app (goodIn_of _ (by decide +kernel)) ggX9_pass_X9_needFan
set_option maxRecDepth 20000 in
theorem ggX9_pass_X9_needPower : GoodIn wsX9_pass wsX9_needPower := goodIn_ca (goodIn_r _ [11, 12, 13, 14, 226, 227, 228, 229, 230, 231, 232, 233, 234, 235, 236, 237, 238, 239, 240, 241, 242, 243, 244, 245, 246, 247] (by decide +kernel) (by decide +kernel)) (goodIn_sub (fun _ h => List.mem_cons_of_mem _ (List.mem_append_left _ (List.mem_append_right _ h))) (by decide +kernel))
set_option maxRecDepth 20000 in
theorem gX9_pass_X9_needPower : GoodIn wsX9_pass (wsV RX9 111 RX9 yX9_needPower wsX9_needPower) := goodIn_app (goodIn_of _ (by decide +kernel)) ggX9_pass_X9_needPower
set_option maxRecDepth 20000 in
theorem ggX9_pass_X9_mergeInGroups : GoodIn wsX9_pass wsX9_mergeInGroups := goodIn_r _ [18, 19, 20, 21, 22, 23, 24, 25, 26, 27, 28, 29, 30, 31, 32, 33, 34, 35, 36, 37, 38, 39, 40, 41, 42, 43, 44, 45, 46, 47, 48, 49, 50, 51, 52, 53, 54, 55, 56, 57, 58, 59, 60, 61, 62, 63, 64, 65, 66, 67, 68, 69, 70, 71, 72, 73, 74, 75, 76, 77, 78, 79, 80, 81, 82, 83, 84, 85, 86, 87, 88, 89, 90, 91, 92, 93, 94, 95, 96, 97, 98, 99, 100, 101, 102, 103, 104, 105, 106, 107, 108, 109, 110, 111, 112, 113, 114, 115, 116, 117, 118, 119, 120, 121, 122, 123, 124, 125, 126, 127, 128, 129, 130, 131, 132, 133, 134, 135, 136, 137, 138, 139, 140, 141, 142, 143, 144, 145, 146, 147, 148, 149, 150, 151, 152, 153, 154, 155, 156, 157, 158, 159, 160, 161, 162, 163, 164, 165, 166, 167, 168, 169, 170, 171, 172, 173, 174, 175, 176, 177, 178, 179, 180, 181, 182, 183, 184, 185, 186, 187, 188, 189, 190, 191, 192, 193, 194, 195, 196, 197, 198, 199, 200, 201, 202, 203, 204, 205, 206, 207, 208, 209, 210, 211, 212, 213, 214, 215, 216, 217, 218, 219, 226, 227, 228, 229, 230, 231, 232, 233, 234, 235, 236, 237, 238, 248, 249, 250, 251, 252, 253, 254, 255, 256, 257, 258, 259, 260, 261, 262, 263, 264, 265, 266, 267, 268, 269, 270, 271, 272, 273, 274, 275, 276, 277, 239, 240, 241, 242, 243, 244, 245, 246, 247, 278, 279, 280] (by decide +kernel) (by decide +kernel)
set_option maxRecDepth 20000 in
theorem gX9_pass_X9_mergeInGroups : GoodIn wsX9_pass (wsV RX9 208 RX9 yX9_mergeInGroups wsX9_mergeInGroups) := goodIn_app (goodIn_of _ (by decide +kernel)) ggX9_pass_X9_mergeInGroups
set_option maxRecDepth 20000 in
theorem ggX9_pass_X9_answerFor : GoodIn wsX9_pass wsX9_answerFor := goodIn_ca (goodIn_r _ [223, 224, 225, 14, 19, 26, 27, 28, 29, 30, 31, 226, 227, 228, 229, 230, 231, 232, 233, 234, 235, 236, 237, 238, 239, 240, 241, 242, 243, 244, 245, 246, 247, 256, 257] (by decide +kernel) (by decide +kernel)) (goodIn_sub (fun _ h => List.mem_cons_of_mem _ (List.mem_append_right _ h)) (by decide +kernel))
set_option maxRecDepth 20000 in
theorem gX9_pass_X9_answerFor : GoodIn wsX9_pass (wsV RX9 163 RX9 yX9_answerFor wsX9_answerFor) := goodIn_app (goodIn_of _ (by decide +kernel)) ggX9_pass_X9_answerFor
theorem dX9_pass_0 : decode cX9_pass 0 = .ok (.aload_n 0, 1) := by decide +kernel
theorem dX9_pass_1 : decode cX9_pass 1 = .ok (.iload_n 1, 1) := by decide +kernel
theorem dX9_pass_2 : decode cX9_pass 2 = .ok (.invokevirtual 205, 3) := by decide +kernel
theorem dX9_pass_5 : decode cX9_pass 5 = .ok (.aload_n 0, 1) := by decide +kernel
theorem dX9_pass_6 : decode cX9_pass 6 = .ok (.invokevirtual 111, 3) := by decide +kernel
theorem dX9_pass_9 : decode cX9_pass 9 = .ok (.aload_n 0, 1) := by decide +kernel
theorem dX9_pass_10 : decode cX9_pass 10 = .ok (.aload_n 0, 1) := by decide +kernel
theorem dX9_pass_11 : decode cX9_pass 11 = .ok (.iload_n 1, 1) := by decide +kernel
theorem dX9_pass_12 : decode cX9_pass 12 = .ok (.invokevirtual 208, 3) := by decide +kernel
theorem dX9_pass_15 : decode cX9_pass 15 = .ok (.invokevirtual 163, 3) := by decide +kernel
theorem dX9_pass_18 : decode cX9_pass 18 = .ok (.ireturn, 1) := by decide +kernel
set_option maxRecDepth 20000 in
theorem ggX9_best_X9_needFan : GoodIn wsX9_best wsX9_needFan := goodIn_ca (goodIn_r _ [5, 6, 7] (by decide +kernel) (by decide +kernel)) (goodIn_sub (fun _ h => List.mem_cons_of_mem _ (List.mem_append_left _ (List.mem_append_left _ (List.mem_append_right _ h)))) (by decide +kernel))
set_option maxRecDepth 20000 in
theorem gX9_best_X9_needFan : GoodIn wsX9_best (wsV RX9 205 RX9 yX9_needFan wsX9_needFan) := goodIn_app (goodIn_of _ (by decide +kernel)) ggX9_best_X9_needFan
set_option maxRecDepth 20000 in
theorem ggX9_best_X9_needPower : GoodIn wsX9_best wsX9_needPower := goodIn_ca (goodIn_r _ [11, 12, 13, 14, 229, 230, 231, 232, 233, 234, 235, 236, 237, 238, 239, 240, 241, 242, 243, 244, 245, 246, 247, 248, 249, 250] (by decide +kernel) (by decide +kernel)) (goodIn_sub (fun _ h => List.mem_cons_of_mem _ (List.mem_append_left _ (List.mem_append_right _ h))) (by decide +kernel))
set_option maxRecDepth 20000 in
theorem gX9_best_X9_needPower : GoodIn wsX9_best (wsV RX9 111 RX9 yX9_needPower wsX9_needPower) := goodIn_app (goodIn_of _ (by decide +kernel)) ggX9_best_X9_needPower
set_option maxRecDepth 20000 in
theorem ggX9_best_X9_mergeFewest : GoodIn wsX9_best wsX9_mergeFewest := goodIn_r _ [18, 19, 20, 21, 22, 23, 24, 25, 26, 27, 28, 29, 30, 31, 32, 33, 34, 35, 4, 36, 37, 38, 39, 40, 41, 42, 43, 44, 45, 46, 47, 48, 49, 50, 51, 52, 53, 54, 55, 56, 57, 58, 59, 60, 61, 62, 63, 64, 65, 66, 67, 68, 69, 70, 71, 72, 73, 74, 75, 76, 77, 78, 79, 80, 81, 82, 83, 84, 85, 86, 87, 88, 89, 90, 91, 92, 93, 94, 95, 96, 97, 98, 99, 100, 101, 102, 103, 104, 105, 106, 107, 108, 109, 110, 111, 112, 113, 114, 115, 116, 117, 118, 119, 120, 121, 122, 123, 124, 125, 126, 127, 128, 129, 130, 131, 132, 133, 134, 135, 136, 137, 138, 139, 140, 141, 142, 143, 144, 145, 146, 147, 148, 149, 150, 151, 152, 153, 154, 155, 156, 157, 158, 159, 160, 161, 162, 163, 164, 165, 166, 167, 168, 169, 170, 171, 172, 173, 174, 175, 176, 177, 178, 179, 180, 181, 182, 183, 184, 185, 186, 187, 188, 189, 190, 191, 192, 193, 194, 195, 196, 197, 198, 199, 200, 201, 202, 203, 204, 205, 206, 207, 208, 209, 210, 211, 212, 213, 214, 215, 216, 217, 218, 219, 220, 221, 222, 229, 230, 231, 232, 233, 234, 235, 236, 237, 238, 239, 240, 241, 251, 252, 253, 254, 255, 256, 257, 258, 259, 260, 261, 262, 263, 264, 265, 266, 267, 268, 269, 270, 271, 272, 273, 274, 275, 276, 277, 278, 279, 280, 281, 282, 283, 242, 243, 244, 245, 246, 247, 248, 249, 250] (by decide +kernel) (by decide +kernel)
set_option maxRecDepth 20000 in
theorem gX9_best_X9_mergeFewest : GoodIn wsX9_best (wsV RX9 211 RX9 yX9_mergeFewest wsX9_mergeFewest) := goodIn_app (goodIn_of _ (by decide +kernel)) ggX9_best_X9_mergeFewest
set_option maxRecDepth 20000 in
theorem ggX9_best_X9_answerFor : GoodIn wsX9_best wsX9_answerFor := goodIn_ca (goodIn_r _ [226, 227, 228, 14, 19, 27, 28, 29, 30, 31, 32, 229, 230, 231, 232, 233, 234, 235, 236, 237, 238, 239, 240, 241, 242, 243, 244, 245, 246, 247, 248, 249, 250, 251, 252] (by decide +kernel) (by decide +kernel)) (goodIn_sub (fun _ h => List.mem_cons_of_mem _ (List.mem_append_right _ h)) (by decide +kernel))
set_option maxRecDepth 20000 in
theorem gX9_best_X9_answerFor : GoodIn wsX9_best (wsV RX9 163 RX9 yX9_answerFor wsX9_answerFor) := goodIn_app (goodIn_of _ (by decide +kernel)) ggX9_best_X9_answerFor
theorem dX9_best_0 : decode cX9_best 0 = .ok (.aload_n 0, 1) := by decide +kernel
theorem dX9_best_1 : decode cX9_best 1 = .ok (.iload_n 1, 1) := by decide +kernel
theorem dX9_best_2 : decode cX9_best 2 = .ok (.invokevirtual 205, 3) := by decide +kernel
theorem dX9_best_5 : decode cX9_best 5 = .ok (.aload_n 0, 1) := by decide +kernel
theorem dX9_best_6 : decode cX9_best 6 = .ok (.invokevirtual 111, 3) := by decide +kernel
theorem dX9_best_9 : decode cX9_best 9 = .ok (.aload_n 0, 1) := by decide +kernel
theorem dX9_best_10 : decode cX9_best 10 = .ok (.aload_n 0, 1) := by decide +kernel
theorem dX9_best_11 : decode cX9_best 11 = .ok (.iload_n 1, 1) := by decide +kernel
theorem dX9_best_12 : decode cX9_best 12 = .ok (.invokevirtual 211, 3) := by decide +kernel
theorem dX9_best_15 : decode cX9_best 15 = .ok (.invokevirtual 163, 3) := by decide +kernel
theorem dX9_best_18 : decode cX9_best 18 = .ok (.ireturn, 1) := by decide +kernel
set_option maxRecDepth 20000 in
theorem ggX9_poly_X9_needPower : GoodIn wsX9_poly wsX9_needPower := goodIn_ca (goodIn_r _ [9, 10, 11, 12, 262, 263, 264, 265, 266, 267, 268, 269, 270, 271, 272, 273, 274, 280, 281, 282, 283, 284, 285, 286, 287, 288] (by decide +kernel) (by decide +kernel)) (goodIn_sub (fun _ h => List.mem_cons_of_mem _ (List.mem_append_left _ (List.mem_append_right _ h))) (by decide +kernel))
set_option maxRecDepth 20000 in
theorem gX9_poly_X9_needPower : GoodIn wsX9_poly (wsV RX9 111 RX9 yX9_needPower wsX9_needPower) := goodIn_app (goodIn_of _ (by decide +kernel)) ggX9_poly_X9_needPower
set_option maxRecDepth 20000 in
theorem ggX9_poly_X8_lay : GoodIn wsX9_poly wsX8_lay := goodIn_r _ [17, 18, 19, 20, 21, 22, 23, 8, 24, 25, 26, 27, 28, 29, 30, 31, 32, 33, 34, 35, 36, 37, 38, 39, 40, 41, 42, 43, 44, 45, 46, 47, 48, 49, 50, 51, 52, 53, 16, 54, 55, 56, 57, 58, 275, 276, 277, 278, 279, 289, 290] (by decide +kernel) (by decide +kernel)
set_option maxRecDepth 20000 in
theorem gX9_poly_X8_lay : GoodIn wsX9_poly (wsV RX9 216 RX8 yX8_lay wsX8_lay) := goodIn_app (goodIn_of _ (by decide +kernel)) ggX9_poly_X8_lay
set_option maxRecDepth 20000 in
theorem ggX9_poly_X9_mergeLevel : GoodIn wsX9_poly wsX9_mergeLevel := goodIn_r _ [62, 3, 63, 64, 65, 66, 67, 16, 68, 18, 21, 69, 70, 71, 72, 22, 20, 32, 33, 34, 35, 36, 37, 42, 43, 44, 45, 46, 47, 48, 49, 50, 73, 74, 39, 40, 41, 75, 76, 77, 78, 79, 80, 81, 82, 83, 84, 85, 86, 87, 88, 89, 90, 91, 92, 93, 94, 95, 96, 97, 98, 99, 100, 101, 102, 103, 104, 105, 106, 107, 108, 109, 110, 111, 112, 113, 114, 115, 116, 117, 118, 119, 120, 121, 122, 123, 124, 125, 126, 127, 128, 129, 130, 131, 132, 133, 134, 135, 136, 137, 138, 139, 140, 141, 142, 143, 144, 145, 146, 147, 148, 149, 150, 151, 152, 153, 154, 155, 156, 157, 158, 159, 160, 161, 162, 163, 164, 165, 166, 167, 168, 169, 170, 171, 172, 173, 174, 175, 176, 177, 178, 179, 180, 181, 182, 183, 184, 185, 186, 187, 188, 189, 190, 191, 192, 193, 194, 195, 196, 197, 198, 199, 200, 201, 202, 203, 204, 205, 206, 207, 208, 209, 210, 30, 27, 31, 211, 212, 213, 214, 215, 216, 217, 218, 219, 220, 221, 222, 223, 224, 225, 226, 227, 228, 229, 230, 231, 232, 233, 234, 235, 236, 237, 238, 239, 240, 241, 242, 243, 244, 245, 246, 247, 262, 263, 264, 265, 266, 267, 268, 269, 270, 271, 272, 273, 274, 291, 292, 293, 294, 295, 296, 297, 298, 275, 276, 277, 278, 279, 289, 290, 299, 300, 301, 302, 303, 304, 305, 306, 307, 308, 309, 310, 311, 312, 313, 314, 315, 316, 317, 318, 280, 281, 282, 283, 284, 285, 286, 287, 288, 319, 320, 321] (by decide +kernel) (by decide +kernel)
set_option maxRecDepth 20000 in
theorem gX9_poly_X9_mergeLevel : GoodIn wsX9_poly (wsV RX9 223 RX9 yX9_mergeLevel wsX9_mergeLevel) := goodIn_app (goodIn_of _ (by decide +kernel)) ggX9_poly_X9_mergeLevel
set_option maxRecDepth 20000 in
theorem ggX9_poly_X8_goDown : GoodIn wsX9_poly wsX8_goDown := goodIn_r _ [251, 18, 21, 20, 22, 275, 276, 277, 278, 279] (by decide +kernel) (by decide +kernel)
set_option maxRecDepth 20000 in
theorem gX9_poly_X8_goDown : GoodIn wsX9_poly (wsV RX9 226 RX8 yX8_goDown wsX8_goDown) := goodIn_app (goodIn_of _ (by decide +kernel)) ggX9_poly_X8_goDown
set_option maxRecDepth 20000 in
theorem ggX9_poly_X8_collect : GoodIn wsX9_poly wsX8_collect := goodIn_r _ [255, 18, 20, 32, 33, 34, 35, 36, 37, 38, 39, 40, 41, 42, 43, 44, 45, 46, 47, 48, 49, 50, 275, 276, 277, 278, 279, 289, 290] (by decide +kernel) (by decide +kernel)
set_option maxRecDepth 20000 in
theorem gX9_poly_X8_collect : GoodIn wsX9_poly (wsV RX9 229 RX8 yX8_collect wsX8_collect) := goodIn_app (goodIn_of _ (by decide +kernel)) ggX9_poly_X8_collect
set_option maxRecDepth 20000 in
theorem ggX9_poly_X9_answerFor : GoodIn wsX9_poly wsX9_answerFor := goodIn_ca (goodIn_r _ [259, 260, 261, 12, 4, 74, 39, 40, 35, 41, 37, 262, 263, 264, 265, 266, 267, 268, 269, 270, 271, 272, 273, 274, 280, 281, 282, 283, 284, 285, 286, 287, 288, 289, 290] (by decide +kernel) (by decide +kernel)) (goodIn_sub (fun _ h => List.mem_cons_of_mem _ (List.mem_append_right _ h)) (by decide +kernel))
set_option maxRecDepth 20000 in
theorem gX9_poly_X9_answerFor : GoodIn wsX9_poly (wsV RX9 163 RX9 yX9_answerFor wsX9_answerFor) := goodIn_app (goodIn_of _ (by decide +kernel)) ggX9_poly_X9_answerFor
theorem dX9_poly_0 : decode cX9_poly 0 = .ok (.iload_n 1, 1) := by decide +kernel
theorem dX9_poly_1 : decode cX9_poly 1 = .ok (.iconst 3, 1) := by decide +kernel
theorem dX9_poly_2 : decode cX9_poly 2 = .ok (.if_icmp .lt 9, 3) := by decide +kernel
theorem dX9_poly_5 : decode cX9_poly 5 = .ok (.iload_n 1, 1) := by decide +kernel
theorem dX9_poly_6 : decode cX9_poly 6 = .ok (.bipush 6, 2) := by decide +kernel
theorem dX9_poly_8 : decode cX9_poly 8 = .ok (.if_icmp .le 13, 3) := by decide +kernel
theorem dX9_poly_11 : decode cX9_poly 11 = .ok (.new 104, 3) := by decide +kernel
theorem dX9_poly_14 : decode cX9_poly 14 = .ok (.dup, 1) := by decide +kernel
theorem dX9_poly_15 : decode cX9_poly 15 = .ok (.ldc 214, 2) := by decide +kernel
theorem dX9_poly_17 : decode cX9_poly 17 = .ok (.invokespecial 108, 3) := by decide +kernel
theorem dX9_poly_20 : decode cX9_poly 20 = .ok (.athrow, 1) := by decide +kernel
theorem dX9_poly_21 : decode cX9_poly 21 = .ok (.aload_n 0, 1) := by decide +kernel
theorem dX9_poly_22 : decode cX9_poly 22 = .ok (.invokevirtual 111, 3) := by decide +kernel
theorem dX9_poly_25 : decode cX9_poly 25 = .ok (.aload_n 0, 1) := by decide +kernel
theorem dX9_poly_26 : decode cX9_poly 26 = .ok (.getfield 81, 3) := by decide +kernel
theorem dX9_poly_29 : decode cX9_poly 29 = .ok (.aload_n 0, 1) := by decide +kernel
theorem dX9_poly_30 : decode cX9_poly 30 = .ok (.getfield 88, 3) := by decide +kernel
theorem dX9_poly_33 : decode cX9_poly 33 = .ok (.iload_n 1, 1) := by decide +kernel
theorem dX9_poly_34 : decode cX9_poly 34 = .ok (.invokevirtual 216, 3) := by decide +kernel
theorem dX9_poly_37 : decode cX9_poly 37 = .ok (.iconst 1, 1) := by decide +kernel
theorem dX9_poly_38 : decode cX9_poly 38 = .ok (.istore_n 2, 1) := by decide +kernel
theorem dX9_poly_39 : decode cX9_poly 39 = .ok (.aload_n 0, 1) := by decide +kernel
theorem dX9_poly_40 : decode cX9_poly 40 = .ok (.getfield 81, 3) := by decide +kernel
theorem dX9_poly_43 : decode cX9_poly 43 = .ok (.getfield 220, 3) := by decide +kernel
theorem dX9_poly_46 : decode cX9_poly 46 = .ok (.istore_n 3, 1) := by decide +kernel
theorem dX9_poly_47 : decode cX9_poly 47 = .ok (.iload_n 3, 1) := by decide +kernel
theorem dX9_poly_48 : decode cX9_poly 48 = .ok (.ifCond .le 29, 3) := by decide +kernel
theorem dX9_poly_51 : decode cX9_poly 51 = .ok (.iload_n 2, 1) := by decide +kernel
theorem dX9_poly_52 : decode cX9_poly 52 = .ok (.ifCond .eq 25, 3) := by decide +kernel
theorem dX9_poly_55 : decode cX9_poly 55 = .ok (.aload_n 0, 1) := by decide +kernel
theorem dX9_poly_56 : decode cX9_poly 56 = .ok (.invokevirtual 223, 3) := by decide +kernel
theorem dX9_poly_59 : decode cX9_poly 59 = .ok (.istore_n 2, 1) := by decide +kernel
theorem dX9_poly_60 : decode cX9_poly 60 = .ok (.iload_n 2, 1) := by decide +kernel
theorem dX9_poly_61 : decode cX9_poly 61 = .ok (.ifCond .eq 10, 3) := by decide +kernel
theorem dX9_poly_64 : decode cX9_poly 64 = .ok (.aload_n 0, 1) := by decide +kernel
theorem dX9_poly_65 : decode cX9_poly 65 = .ok (.getfield 81, 3) := by decide +kernel
theorem dX9_poly_68 : decode cX9_poly 68 = .ok (.invokevirtual 226, 3) := by decide +kernel
theorem dX9_poly_71 : decode cX9_poly 71 = .ok (.iinc 3 (-1), 3) := by decide +kernel
theorem dX9_poly_74 : decode cX9_poly 74 = .ok (.goto (-27), 3) := by decide +kernel
theorem dX9_poly_77 : decode cX9_poly 77 = .ok (.aload_n 0, 1) := by decide +kernel
theorem dX9_poly_78 : decode cX9_poly 78 = .ok (.getfield 81, 3) := by decide +kernel
theorem dX9_poly_81 : decode cX9_poly 81 = .ok (.aload_n 0, 1) := by decide +kernel
theorem dX9_poly_82 : decode cX9_poly 82 = .ok (.getfield 88, 3) := by decide +kernel
theorem dX9_poly_85 : decode cX9_poly 85 = .ok (.invokevirtual 229, 3) := by decide +kernel
theorem dX9_poly_88 : decode cX9_poly 88 = .ok (.aload_n 0, 1) := by decide +kernel
theorem dX9_poly_89 : decode cX9_poly 89 = .ok (.iload_n 2, 1) := by decide +kernel
theorem dX9_poly_90 : decode cX9_poly 90 = .ok (.invokevirtual 163, 3) := by decide +kernel
theorem dX9_poly_93 : decode cX9_poly 93 = .ok (.ireturn, 1) := by decide +kernel
set_option maxRecDepth 20000 in
theorem ggX9_plan_X9_needFan : GoodIn wsX9_plan wsX9_needFan := goodIn_ca (goodIn_r _ [12, 13, 14] (by decide +kernel) (by decide +kernel)) (goodIn_sub (fun _ h => List.mem_cons_of_mem _ (List.mem_append_right _ h)) (by decide +kernel))
set_option maxRecDepth 20000 in
theorem gX9_plan_X9_needFan : GoodIn wsX9_plan (wsV RX9 205 RX9 yX9_needFan wsX9_needFan) := goodIn_app (goodIn_of _ (by decide +kernel)) ggX9_plan_X9_needFan
set_option maxRecDepth 20000 in
theorem ggX9_plan_X6_size : GoodIn wsX9_plan wsX6_size := goodIn_r _ [19, 20, 67, 68] (by decide +kernel) (by decide +kernel)
set_option maxRecDepth 20000 in
theorem gX9_plan_X6_size : GoodIn wsX9_plan (wsV RX9 114 RX6 yX6_size wsX6_size) := goodIn_app (goodIn_of _ (by decide +kernel)) ggX9_plan_X6_size
set_option maxRecDepth 20000 in
theorem ggX9_plan_X6_get : GoodIn wsX9_plan wsX6_get := goodIn_r _ [24, 20, 25, 67, 68] (by decide +kernel) (by decide +kernel)
set_option maxRecDepth 20000 in
theorem gX9_plan_X6_get : GoodIn wsX9_plan (wsV RX9 238 RX6 yX6_get wsX6_get) := goodIn_app (goodIn_of _ (by decide +kernel)) ggX9_plan_X6_get
set_option maxRecDepth 20000 in
theorem ggX9_plan_X1_heldBy : GoodIn wsX9_plan wsX1_heldBy := goodIn_r _ [30, 31, 69, 70, 71] (by decide +kernel) (by decide +kernel)
set_option maxRecDepth 20000 in
theorem gX9_plan_X1_heldBy : GoodIn wsX9_plan (wsV RX9 242 RX1 yX1_heldBy wsX1_heldBy) := goodIn_app (goodIn_of _ (by decide +kernel)) ggX9_plan_X1_heldBy
set_option maxRecDepth 20000 in
theorem ggX9_plan_X9_blocksBetween : GoodIn wsX9_plan wsX9_blocksBetween := goodIn_r _ [35, 2, 36, 37, 38, 39, 40, 41, 42, 43, 44, 5, 45, 54, 55, 56, 57, 58, 59, 60, 61, 62, 63, 64, 65, 66, 72, 73, 74, 75, 76, 77, 78] (by decide +kernel) (by decide +kernel)
set_option maxRecDepth 20000 in
theorem gX9_plan_X9_blocksBetween : GoodIn wsX9_plan (wsV RX9 245 RX9 yX9_blocksBetween wsX9_blocksBetween) := goodIn_app (goodIn_of _ (by decide +kernel)) ggX9_plan_X9_blocksBetween
set_option maxRecDepth 20000 in
theorem ggX9_plan_X9_lengthBetween : GoodIn wsX9_plan wsX9_lengthBetween := goodIn_r _ [49, 2, 54, 55, 56, 57, 58, 59, 60, 61, 62, 63, 64, 65, 66] (by decide +kernel) (by decide +kernel)
set_option maxRecDepth 20000 in
theorem gX9_plan_X9_lengthBetween : GoodIn wsX9_plan (wsV RX9 248 RX9 yX9_lengthBetween wsX9_lengthBetween) := goodIn_app (goodIn_of _ (by decide +kernel)) ggX9_plan_X9_lengthBetween
set_option maxRecDepth 20000 in
theorem ggX9_plan_X9_setLength : GoodIn wsX9_plan wsX9_setLength := goodIn_r _ [53, 2, 54, 55, 56, 57, 58, 59, 60, 61, 62, 63, 64, 65, 66] (by decide +kernel) (by decide +kernel)
set_option maxRecDepth 20000 in
theorem gX9_plan_X9_setLength : GoodIn wsX9_plan (wsV RX9 251 RX9 yX9_setLength wsX9_setLength) := goodIn_app (goodIn_of _ (by decide +kernel)) ggX9_plan_X9_setLength
theorem dX9_plan_0 : decode cX9_plan 0 = .ok (.aload_n 0, 1) := by decide +kernel
theorem dX9_plan_1 : decode cX9_plan 1 = .ok (.iload_n 1, 1) := by decide +kernel
theorem dX9_plan_2 : decode cX9_plan 2 = .ok (.invokevirtual 205, 3) := by decide +kernel
theorem dX9_plan_5 : decode cX9_plan 5 = .ok (.aload_n 0, 1) := by decide +kernel
theorem dX9_plan_6 : decode cX9_plan 6 = .ok (.getfield 88, 3) := by decide +kernel
theorem dX9_plan_9 : decode cX9_plan 9 = .ok (.invokevirtual 114, 3) := by decide +kernel
theorem dX9_plan_12 : decode cX9_plan 12 = .ok (.aload_n 0, 1) := by decide +kernel
theorem dX9_plan_13 : decode cX9_plan 13 = .ok (.getfield 100, 3) := by decide +kernel
theorem dX9_plan_16 : decode cX9_plan 16 = .ok (.arraylength, 1) := by decide +kernel
theorem dX9_plan_17 : decode cX9_plan 17 = .ok (.invokestatic 232, 3) := by decide +kernel
theorem dX9_plan_20 : decode cX9_plan 20 = .ok (.istore_n 2, 1) := by decide +kernel
theorem dX9_plan_21 : decode cX9_plan 21 = .ok (.iconst 0, 1) := by decide +kernel
theorem dX9_plan_22 : decode cX9_plan 22 = .ok (.istore_n 3, 1) := by decide +kernel
theorem dX9_plan_23 : decode cX9_plan 23 = .ok (.iload_n 3, 1) := by decide +kernel
theorem dX9_plan_24 : decode cX9_plan 24 = .ok (.iload_n 2, 1) := by decide +kernel
theorem dX9_plan_25 : decode cX9_plan 25 = .ok (.if_icmp .ge 30, 3) := by decide +kernel
theorem dX9_plan_28 : decode cX9_plan 28 = .ok (.aload_n 0, 1) := by decide +kernel
theorem dX9_plan_29 : decode cX9_plan 29 = .ok (.getfield 100, 3) := by decide +kernel
theorem dX9_plan_32 : decode cX9_plan 32 = .ok (.iload_n 3, 1) := by decide +kernel
theorem dX9_plan_33 : decode cX9_plan 33 = .ok (.aload_n 0, 1) := by decide +kernel
theorem dX9_plan_34 : decode cX9_plan 34 = .ok (.getfield 36, 3) := by decide +kernel
theorem dX9_plan_37 : decode cX9_plan 37 = .ok (.aload_n 0, 1) := by decide +kernel
theorem dX9_plan_38 : decode cX9_plan 38 = .ok (.getfield 88, 3) := by decide +kernel
theorem dX9_plan_41 : decode cX9_plan 41 = .ok (.iload_n 3, 1) := by decide +kernel
theorem dX9_plan_42 : decode cX9_plan 42 = .ok (.invokevirtual 238, 3) := by decide +kernel
theorem dX9_plan_45 : decode cX9_plan 45 = .ok (.invokevirtual 242, 3) := by decide +kernel
theorem dX9_plan_48 : decode cX9_plan 48 = .ok (.iastore, 1) := by decide +kernel
theorem dX9_plan_49 : decode cX9_plan 49 = .ok (.iinc 3 1, 3) := by decide +kernel
theorem dX9_plan_52 : decode cX9_plan 52 = .ok (.goto (-29), 3) := by decide +kernel
theorem dX9_plan_55 : decode cX9_plan 55 = .ok (.iconst 0, 1) := by decide +kernel
theorem dX9_plan_56 : decode cX9_plan 56 = .ok (.istore_n 3, 1) := by decide +kernel
theorem dX9_plan_57 : decode cX9_plan 57 = .ok (.iconst 0, 1) := by decide +kernel
theorem dX9_plan_58 : decode cX9_plan 58 = .ok (.istore 4, 2) := by decide +kernel
theorem dX9_plan_60 : decode cX9_plan 60 = .ok (.iload 4, 2) := by decide +kernel
theorem dX9_plan_62 : decode cX9_plan 62 = .ok (.aload_n 0, 1) := by decide +kernel
theorem dX9_plan_63 : decode cX9_plan 63 = .ok (.getfield 100, 3) := by decide +kernel
theorem dX9_plan_66 : decode cX9_plan 66 = .ok (.arraylength, 1) := by decide +kernel
theorem dX9_plan_67 : decode cX9_plan 67 = .ok (.if_icmp .ge 85, 3) := by decide +kernel
theorem dX9_plan_70 : decode cX9_plan 70 = .ok (.iload_n 2, 1) := by decide +kernel
theorem dX9_plan_71 : decode cX9_plan 71 = .ok (.iconst 1, 1) := by decide +kernel
theorem dX9_plan_72 : decode cX9_plan 72 = .ok (.if_icmp .le 80, 3) := by decide +kernel
theorem dX9_plan_75 : decode cX9_plan 75 = .ok (.iconst 0, 1) := by decide +kernel
theorem dX9_plan_76 : decode cX9_plan 76 = .ok (.istore 5, 2) := by decide +kernel
theorem dX9_plan_78 : decode cX9_plan 78 = .ok (.iconst 0, 1) := by decide +kernel
theorem dX9_plan_79 : decode cX9_plan 79 = .ok (.istore 6, 2) := by decide +kernel
theorem dX9_plan_81 : decode cX9_plan 81 = .ok (.iload 6, 2) := by decide +kernel
theorem dX9_plan_83 : decode cX9_plan 83 = .ok (.iload_n 2, 1) := by decide +kernel
theorem dX9_plan_84 : decode cX9_plan 84 = .ok (.if_icmp .ge 59, 3) := by decide +kernel
theorem dX9_plan_87 : decode cX9_plan 87 = .ok (.iload 6, 2) := by decide +kernel
theorem dX9_plan_89 : decode cX9_plan 89 = .ok (.iload_n 1, 1) := by decide +kernel
theorem dX9_plan_90 : decode cX9_plan 90 = .ok (.iadd, 1) := by decide +kernel
theorem dX9_plan_91 : decode cX9_plan 91 = .ok (.iload_n 2, 1) := by decide +kernel
theorem dX9_plan_92 : decode cX9_plan 92 = .ok (.invokestatic 232, 3) := by decide +kernel
theorem dX9_plan_95 : decode cX9_plan 95 = .ok (.istore 7, 2) := by decide +kernel
theorem dX9_plan_97 : decode cX9_plan 97 = .ok (.iload 7, 2) := by decide +kernel
theorem dX9_plan_99 : decode cX9_plan 99 = .ok (.iload 6, 2) := by decide +kernel
theorem dX9_plan_101 : decode cX9_plan 101 = .ok (.isub, 1) := by decide +kernel
theorem dX9_plan_102 : decode cX9_plan 102 = .ok (.iconst 1, 1) := by decide +kernel
theorem dX9_plan_103 : decode cX9_plan 103 = .ok (.if_icmp .le 14, 3) := by decide +kernel
theorem dX9_plan_106 : decode cX9_plan 106 = .ok (.iload_n 3, 1) := by decide +kernel
theorem dX9_plan_107 : decode cX9_plan 107 = .ok (.aload_n 0, 1) := by decide +kernel
theorem dX9_plan_108 : decode cX9_plan 108 = .ok (.iload 6, 2) := by decide +kernel
theorem dX9_plan_110 : decode cX9_plan 110 = .ok (.iload 7, 2) := by decide +kernel
theorem dX9_plan_112 : decode cX9_plan 112 = .ok (.invokevirtual 245, 3) := by decide +kernel
theorem dX9_plan_115 : decode cX9_plan 115 = .ok (.iadd, 1) := by decide +kernel
theorem dX9_plan_116 : decode cX9_plan 116 = .ok (.istore_n 3, 1) := by decide +kernel
theorem dX9_plan_117 : decode cX9_plan 117 = .ok (.aload_n 0, 1) := by decide +kernel
theorem dX9_plan_118 : decode cX9_plan 118 = .ok (.iload 5, 2) := by decide +kernel
theorem dX9_plan_120 : decode cX9_plan 120 = .ok (.aload_n 0, 1) := by decide +kernel
theorem dX9_plan_121 : decode cX9_plan 121 = .ok (.iload 6, 2) := by decide +kernel
theorem dX9_plan_123 : decode cX9_plan 123 = .ok (.iload 7, 2) := by decide +kernel
theorem dX9_plan_125 : decode cX9_plan 125 = .ok (.invokevirtual 248, 3) := by decide +kernel
theorem dX9_plan_128 : decode cX9_plan 128 = .ok (.invokevirtual 251, 3) := by decide +kernel
theorem dX9_plan_131 : decode cX9_plan 131 = .ok (.iinc 5 1, 3) := by decide +kernel
theorem dX9_plan_134 : decode cX9_plan 134 = .ok (.iload 6, 2) := by decide +kernel
theorem dX9_plan_136 : decode cX9_plan 136 = .ok (.iload_n 1, 1) := by decide +kernel
theorem dX9_plan_137 : decode cX9_plan 137 = .ok (.iadd, 1) := by decide +kernel
theorem dX9_plan_138 : decode cX9_plan 138 = .ok (.istore 6, 2) := by decide +kernel
theorem dX9_plan_140 : decode cX9_plan 140 = .ok (.goto (-59), 3) := by decide +kernel
theorem dX9_plan_143 : decode cX9_plan 143 = .ok (.iload 5, 2) := by decide +kernel
theorem dX9_plan_145 : decode cX9_plan 145 = .ok (.istore_n 2, 1) := by decide +kernel
theorem dX9_plan_146 : decode cX9_plan 146 = .ok (.iinc 4 1, 3) := by decide +kernel
theorem dX9_plan_149 : decode cX9_plan 149 = .ok (.goto (-89), 3) := by decide +kernel
theorem dX9_plan_152 : decode cX9_plan 152 = .ok (.iload_n 3, 1) := by decide +kernel
theorem dX9_plan_153 : decode cX9_plan 153 = .ok (.ireturn, 1) := by decide +kernel
set_option maxRecDepth 20000 in
theorem ggX9_runs_X6_size : GoodIn wsX9_runs wsX6_size := goodIn_r _ [6, 7, 21, 22] (by decide +kernel) (by decide +kernel)
set_option maxRecDepth 20000 in
theorem gX9_runs_X6_size : GoodIn wsX9_runs (wsV RX9 114 RX6 yX6_size wsX6_size) := goodIn_app (goodIn_of _ (by decide +kernel)) ggX9_runs_X6_size
theorem dX9_runs_0 : decode cX9_runs 0 = .ok (.aload_n 0, 1) := by decide +kernel
theorem dX9_runs_1 : decode cX9_runs 1 = .ok (.getfield 88, 3) := by decide +kernel
theorem dX9_runs_4 : decode cX9_runs 4 = .ok (.invokevirtual 114, 3) := by decide +kernel
theorem dX9_runs_7 : decode cX9_runs 7 = .ok (.ireturn, 1) := by decide +kernel
set_option maxRecDepth 20000 in
theorem ggX9_records_X2_heldRecords : GoodIn wsX9_records wsX2_heldRecords := goodIn_r _ [8, 9, 10, 11, 12, 13, 14, 15, 16, 17, 50, 51, 52, 53, 54, 55, 56, 57, 58, 59, 60, 61, 62, 63, 64, 65, 66, 67] (by decide +kernel) (by decide +kernel)
set_option maxRecDepth 20000 in
theorem gX9_records_X2_heldRecords : GoodIn wsX9_records (wsV RX9 118 RX2 yX2_heldRecords wsX2_heldRecords) := goodIn_app (goodIn_of _ (by decide +kernel)) ggX9_records_X2_heldRecords
set_option maxRecDepth 20000 in
theorem ggX9_records_X9_needRun : GoodIn wsX9_records wsX9_needRun := goodIn_ca (goodIn_r _ [22, 23, 24, 3, 25, 13, 14, 15, 16, 17, 37, 38, 39, 40, 41, 42, 43, 44, 45, 46, 47, 48, 49, 66, 67] (by decide +kernel) (by decide +kernel)) (goodIn_sub (fun _ h => List.mem_cons_of_mem _ (List.mem_append_right _ h)) (by decide +kernel))
set_option maxRecDepth 20000 in
theorem gX9_records_X9_needRun : GoodIn wsX9_records (wsV RX9 254 RX9 yX9_needRun wsX9_needRun) := goodIn_app (goodIn_of _ (by decide +kernel)) ggX9_records_X9_needRun
set_option maxRecDepth 20000 in
theorem ggX9_records_X6_get : GoodIn wsX9_records wsX6_get := goodIn_r _ [29, 17, 30, 66, 67] (by decide +kernel) (by decide +kernel)
set_option maxRecDepth 20000 in
theorem gX9_records_X6_get : GoodIn wsX9_records (wsV RX9 238 RX6 yX6_get wsX6_get) := goodIn_app (goodIn_of _ (by decide +kernel)) ggX9_records_X6_get
set_option maxRecDepth 20000 in
theorem ggX9_records_X1_heldBy : GoodIn wsX9_records wsX1_heldBy := goodIn_r _ [35, 36, 68, 69, 70] (by decide +kernel) (by decide +kernel)
set_option maxRecDepth 20000 in
theorem gX9_records_X1_heldBy : GoodIn wsX9_records (wsV RX9 242 RX1 yX1_heldBy wsX1_heldBy) := goodIn_app (goodIn_of _ (by decide +kernel)) ggX9_records_X1_heldBy
theorem dX9_records_0 : decode cX9_records 0 = .ok (.iload_n 1, 1) := by decide +kernel
theorem dX9_records_1 : decode cX9_records 1 = .ok (.iconst (-1), 1) := by decide +kernel
theorem dX9_records_2 : decode cX9_records 2 = .ok (.if_icmp .ne 11, 3) := by decide +kernel
theorem dX9_records_5 : decode cX9_records 5 = .ok (.aload_n 0, 1) := by decide +kernel
theorem dX9_records_6 : decode cX9_records 6 = .ok (.getfield 45, 3) := by decide +kernel
theorem dX9_records_9 : decode cX9_records 9 = .ok (.invokevirtual 118, 3) := by decide +kernel
theorem dX9_records_12 : decode cX9_records 12 = .ok (.ireturn, 1) := by decide +kernel
theorem dX9_records_13 : decode cX9_records 13 = .ok (.aload_n 0, 1) := by decide +kernel
theorem dX9_records_14 : decode cX9_records 14 = .ok (.iload_n 1, 1) := by decide +kernel
theorem dX9_records_15 : decode cX9_records 15 = .ok (.invokevirtual 254, 3) := by decide +kernel
theorem dX9_records_18 : decode cX9_records 18 = .ok (.aload_n 0, 1) := by decide +kernel
theorem dX9_records_19 : decode cX9_records 19 = .ok (.getfield 36, 3) := by decide +kernel
theorem dX9_records_22 : decode cX9_records 22 = .ok (.aload_n 0, 1) := by decide +kernel
theorem dX9_records_23 : decode cX9_records 23 = .ok (.getfield 88, 3) := by decide +kernel
theorem dX9_records_26 : decode cX9_records 26 = .ok (.iload_n 1, 1) := by decide +kernel
theorem dX9_records_27 : decode cX9_records 27 = .ok (.invokevirtual 238, 3) := by decide +kernel
theorem dX9_records_30 : decode cX9_records 30 = .ok (.invokevirtual 242, 3) := by decide +kernel
theorem dX9_records_33 : decode cX9_records 33 = .ok (.ireturn, 1) := by decide +kernel
set_option maxRecDepth 20000 in
theorem ggX9_block_X9_needRun : GoodIn wsX9_block wsX9_needRun := goodIn_ca (goodIn_r _ [10, 1, 2, 5, 11, 12, 13, 14, 15, 16, 32, 33, 34, 35, 36, 37, 38, 39, 40, 41, 42, 43, 44, 54, 55] (by decide +kernel) (by decide +kernel)) (goodIn_sub (fun _ h => List.mem_cons_of_mem _ (List.mem_append_right _ h)) (by decide +kernel))
set_option maxRecDepth 20000 in
theorem gX9_block_X9_needRun : GoodIn wsX9_block (wsV RX9 254 RX9 yX9_needRun wsX9_needRun) := goodIn_app (goodIn_of _ (by decide +kernel)) ggX9_block_X9_needRun
set_option maxRecDepth 20000 in
theorem ggX9_block_X6_get : GoodIn wsX9_block wsX6_get := goodIn_r _ [20, 16, 21, 54, 55] (by decide +kernel) (by decide +kernel)
set_option maxRecDepth 20000 in
theorem gX9_block_X6_get : GoodIn wsX9_block (wsV RX9 238 RX6 yX6_get wsX6_get) := goodIn_app (goodIn_of _ (by decide +kernel)) ggX9_block_X6_get
set_option maxRecDepth 20000 in
theorem ggX9_block_X1_blockAt : GoodIn wsX9_block wsX1_blockAt := goodIn_r _ [26, 27, 28, 29, 30, 25, 31, 56, 57, 58] (by decide +kernel) (by decide +kernel)
set_option maxRecDepth 20000 in
theorem gX9_block_X1_blockAt : GoodIn wsX9_block (wsV RX9 260 RX1 yX1_blockAt wsX1_blockAt) := goodIn_app (goodIn_of _ (by decide +kernel)) ggX9_block_X1_blockAt
theorem dX9_block_0 : decode cX9_block 0 = .ok (.iload_n 1, 1) := by decide +kernel
theorem dX9_block_1 : decode cX9_block 1 = .ok (.iconst (-1), 1) := by decide +kernel
theorem dX9_block_2 : decode cX9_block 2 = .ok (.if_icmp .eq 8, 3) := by decide +kernel
theorem dX9_block_5 : decode cX9_block 5 = .ok (.aload_n 0, 1) := by decide +kernel
theorem dX9_block_6 : decode cX9_block 6 = .ok (.iload_n 1, 1) := by decide +kernel
theorem dX9_block_7 : decode cX9_block 7 = .ok (.invokevirtual 254, 3) := by decide +kernel
theorem dX9_block_10 : decode cX9_block 10 = .ok (.iload_n 1, 1) := by decide +kernel
theorem dX9_block_11 : decode cX9_block 11 = .ok (.iconst (-1), 1) := by decide +kernel
theorem dX9_block_12 : decode cX9_block 12 = .ok (.if_icmp .ne 17, 3) := by decide +kernel
theorem dX9_block_15 : decode cX9_block 15 = .ok (.aload_n 0, 1) := by decide +kernel
theorem dX9_block_16 : decode cX9_block 16 = .ok (.getfield 45, 3) := by decide +kernel
theorem dX9_block_19 : decode cX9_block 19 = .ok (.getfield 257, 3) := by decide +kernel
theorem dX9_block_22 : decode cX9_block 22 = .ok (.iload_n 2, 1) := by decide +kernel
theorem dX9_block_23 : decode cX9_block 23 = .ok (.invokevirtual 238, 3) := by decide +kernel
theorem dX9_block_26 : decode cX9_block 26 = .ok (.goto 19, 3) := by decide +kernel
theorem dX9_block_29 : decode cX9_block 29 = .ok (.aload_n 0, 1) := by decide +kernel
theorem dX9_block_30 : decode cX9_block 30 = .ok (.getfield 36, 3) := by decide +kernel
theorem dX9_block_33 : decode cX9_block 33 = .ok (.aload_n 0, 1) := by decide +kernel
theorem dX9_block_34 : decode cX9_block 34 = .ok (.getfield 88, 3) := by decide +kernel
theorem dX9_block_37 : decode cX9_block 37 = .ok (.iload_n 1, 1) := by decide +kernel
theorem dX9_block_38 : decode cX9_block 38 = .ok (.invokevirtual 238, 3) := by decide +kernel
theorem dX9_block_41 : decode cX9_block 41 = .ok (.iload_n 2, 1) := by decide +kernel
theorem dX9_block_42 : decode cX9_block 42 = .ok (.invokevirtual 260, 3) := by decide +kernel
theorem dX9_block_45 : decode cX9_block 45 = .ok (.istore_n 3, 1) := by decide +kernel
theorem dX9_block_46 : decode cX9_block 46 = .ok (.iload_n 3, 1) := by decide +kernel
theorem dX9_block_47 : decode cX9_block 47 = .ok (.iconst (-1), 1) := by decide +kernel
theorem dX9_block_48 : decode cX9_block 48 = .ok (.if_icmp .ne 14, 3) := by decide +kernel
theorem dX9_block_51 : decode cX9_block 51 = .ok (.new 133, 3) := by decide +kernel
theorem dX9_block_54 : decode cX9_block 54 = .ok (.dup, 1) := by decide +kernel
theorem dX9_block_55 : decode cX9_block 55 = .ok (.ldc_w 263, 3) := by decide +kernel
theorem dX9_block_58 : decode cX9_block 58 = .ok (.invokespecial 137, 3) := by decide +kernel
theorem dX9_block_61 : decode cX9_block 61 = .ok (.athrow, 1) := by decide +kernel
theorem dX9_block_62 : decode cX9_block 62 = .ok (.iload_n 3, 1) := by decide +kernel
theorem dX9_block_63 : decode cX9_block 63 = .ok (.ireturn, 1) := by decide +kernel
set_option maxRecDepth 20000 in
theorem ggX9_told_X9_needRun : GoodIn wsX9_told wsX9_needRun := goodIn_ca (goodIn_r _ [10, 1, 2, 4, 11, 12, 13, 14, 15, 16, 69, 70, 71, 72, 73, 74, 75, 76, 77, 78, 79, 80, 81, 89, 90] (by decide +kernel) (by decide +kernel)) (goodIn_sub (fun _ h => List.mem_cons_of_mem _ (List.mem_append_left _ (List.mem_append_right _ h))) (by decide +kernel))
set_option maxRecDepth 20000 in
theorem gX9_told_X9_needRun : GoodIn wsX9_told (wsV RX9 254 RX9 yX9_needRun wsX9_needRun) := goodIn_app (goodIn_of _ (by decide +kernel)) ggX9_told_X9_needRun
set_option maxRecDepth 20000 in
theorem ggX9_told_X6_get : GoodIn wsX9_told wsX6_get := goodIn_r _ [20, 16, 21, 89, 90] (by decide +kernel) (by decide +kernel)
set_option maxRecDepth 20000 in
theorem gX9_told_X6_get : GoodIn wsX9_told (wsV RX9 238 RX6 yX6_get wsX6_get) := goodIn_app (goodIn_of _ (by decide +kernel)) ggX9_told_X6_get
set_option maxRecDepth 20000 in
theorem ggX9_told_X1_heldBy : GoodIn wsX9_told wsX1_heldBy := goodIn_r _ [26, 27, 91, 92, 93] (by decide +kernel) (by decide +kernel)
set_option maxRecDepth 20000 in
theorem gX9_told_X1_heldBy : GoodIn wsX9_told (wsV RX9 242 RX1 yX1_heldBy wsX1_heldBy) := goodIn_app (goodIn_of _ (by decide +kernel)) ggX9_told_X1_heldBy
set_option maxRecDepth 20000 in
theorem ggX9_told_X9_needPower : GoodIn wsX9_told wsX9_needPower := goodIn_ca (goodIn_r _ [31, 32, 33, 34, 69, 70, 71, 72, 73, 74, 75, 76, 77, 78, 79, 80, 81, 94, 95, 96, 97, 98, 99, 100, 101, 102] (by decide +kernel) (by decide +kernel)) (goodIn_sub (fun _ h => List.mem_cons_of_mem _ (List.mem_append_right _ h)) (by decide +kernel))
set_option maxRecDepth 20000 in
theorem gX9_told_X9_needPower : GoodIn wsX9_told (wsV RX9 111 RX9 yX9_needPower wsX9_needPower) := goodIn_app (goodIn_of _ (by decide +kernel)) ggX9_told_X9_needPower
set_option maxRecDepth 20000 in
theorem ggX9_told_X9_look : GoodIn wsX9_told wsX9_look := goodIn_r _ [38, 5, 39, 40, 41, 42, 3, 34, 43, 44, 45, 25, 46, 47, 48, 49, 50, 51, 52, 53, 54, 55, 56, 57, 58, 59, 60, 61, 62, 63, 64, 65, 66, 67, 68, 69, 70, 71, 72, 73, 74, 75, 76, 77, 78, 79, 80, 81, 82, 83, 84, 85, 86, 87, 88, 94, 95, 96, 97, 98, 99, 100, 101, 102, 91, 92, 93] (by decide +kernel) (by decide +kernel)
set_option maxRecDepth 20000 in
theorem gX9_told_X9_look : GoodIn wsX9_told (wsV RX9 267 RX9 yX9_look wsX9_look) := goodIn_app (goodIn_of _ (by decide +kernel)) ggX9_told_X9_look
theorem dX9_told_0 : decode cX9_told 0 = .ok (.aload_n 0, 1) := by decide +kernel
theorem dX9_told_1 : decode cX9_told 1 = .ok (.iload_n 1, 1) := by decide +kernel
theorem dX9_told_2 : decode cX9_told 2 = .ok (.invokevirtual 254, 3) := by decide +kernel
theorem dX9_told_5 : decode cX9_told 5 = .ok (.iload_n 2, 1) := by decide +kernel
theorem dX9_told_6 : decode cX9_told 6 = .ok (.ifCond .lt 37, 3) := by decide +kernel
theorem dX9_told_9 : decode cX9_told 9 = .ok (.iload_n 2, 1) := by decide +kernel
theorem dX9_told_10 : decode cX9_told 10 = .ok (.aload_n 0, 1) := by decide +kernel
theorem dX9_told_11 : decode cX9_told 11 = .ok (.getfield 36, 3) := by decide +kernel
theorem dX9_told_14 : decode cX9_told 14 = .ok (.aload_n 0, 1) := by decide +kernel
theorem dX9_told_15 : decode cX9_told 15 = .ok (.getfield 88, 3) := by decide +kernel
theorem dX9_told_18 : decode cX9_told 18 = .ok (.iload_n 1, 1) := by decide +kernel
theorem dX9_told_19 : decode cX9_told 19 = .ok (.invokevirtual 238, 3) := by decide +kernel
theorem dX9_told_22 : decode cX9_told 22 = .ok (.invokevirtual 242, 3) := by decide +kernel
theorem dX9_told_25 : decode cX9_told 25 = .ok (.if_icmp .ge 18, 3) := by decide +kernel
theorem dX9_told_28 : decode cX9_told 28 = .ok (.iload_n 3, 1) := by decide +kernel
theorem dX9_told_29 : decode cX9_told 29 = .ok (.ifCond .lt 14, 3) := by decide +kernel
theorem dX9_told_32 : decode cX9_told 32 = .ok (.iload_n 3, 1) := by decide +kernel
theorem dX9_told_33 : decode cX9_told 33 = .ok (.aload_n 0, 1) := by decide +kernel
theorem dX9_told_34 : decode cX9_told 34 = .ok (.getfield 27, 3) := by decide +kernel
theorem dX9_told_37 : decode cX9_told 37 = .ok (.getfield 129, 3) := by decide +kernel
theorem dX9_told_40 : decode cX9_told 40 = .ok (.if_icmp .le 14, 3) := by decide +kernel
theorem dX9_told_43 : decode cX9_told 43 = .ok (.new 133, 3) := by decide +kernel
theorem dX9_told_46 : decode cX9_told 46 = .ok (.dup, 1) := by decide +kernel
theorem dX9_told_47 : decode cX9_told 47 = .ok (.ldc_w 265, 3) := by decide +kernel
theorem dX9_told_50 : decode cX9_told 50 = .ok (.invokespecial 137, 3) := by decide +kernel
theorem dX9_told_53 : decode cX9_told 53 = .ok (.athrow, 1) := by decide +kernel
theorem dX9_told_54 : decode cX9_told 54 = .ok (.aload_n 0, 1) := by decide +kernel
theorem dX9_told_55 : decode cX9_told 55 = .ok (.invokevirtual 111, 3) := by decide +kernel
theorem dX9_told_58 : decode cX9_told 58 = .ok (.aload_n 0, 1) := by decide +kernel
theorem dX9_told_59 : decode cX9_told 59 = .ok (.aload_n 0, 1) := by decide +kernel
theorem dX9_told_60 : decode cX9_told 60 = .ok (.getfield 88, 3) := by decide +kernel
theorem dX9_told_63 : decode cX9_told 63 = .ok (.iload_n 1, 1) := by decide +kernel
theorem dX9_told_64 : decode cX9_told 64 = .ok (.invokevirtual 238, 3) := by decide +kernel
theorem dX9_told_67 : decode cX9_told 67 = .ok (.iload_n 2, 1) := by decide +kernel
theorem dX9_told_68 : decode cX9_told 68 = .ok (.iload_n 3, 1) := by decide +kernel
theorem dX9_told_69 : decode cX9_told 69 = .ok (.invokevirtual 267, 3) := by decide +kernel
theorem dX9_told_72 : decode cX9_told 72 = .ok (.lreturn, 1) := by decide +kernel
set_option maxRecDepth 20000 in
theorem ggX9_rank_X9_needRun : GoodIn wsX9_rank wsX9_needRun := goodIn_ca (goodIn_r _ [8, 9, 10, 2, 11, 12, 13, 14, 15, 16, 81, 82, 83, 84, 85, 86, 87, 88, 89, 90, 91, 92, 93, 94, 95] (by decide +kernel) (by decide +kernel)) (goodIn_sub (fun _ h => List.mem_cons_of_mem _ (List.mem_append_left _ (List.mem_append_right _ h))) (by decide +kernel))
set_option maxRecDepth 20000 in
theorem gX9_rank_X9_needRun : GoodIn wsX9_rank (wsV RX9 254 RX9 yX9_needRun wsX9_needRun) := goodIn_app (goodIn_of _ (by decide +kernel)) ggX9_rank_X9_needRun
set_option maxRecDepth 20000 in
theorem ggX9_rank_X9_needPower : GoodIn wsX9_rank wsX9_needPower := goodIn_ca (goodIn_r _ [20, 21, 22, 23, 81, 82, 83, 84, 85, 86, 87, 88, 89, 90, 91, 92, 93, 96, 97, 98, 99, 100, 101, 102, 103, 104] (by decide +kernel) (by decide +kernel)) (goodIn_sub (fun _ h => List.mem_cons_of_mem _ (List.mem_append_right _ h)) (by decide +kernel))
set_option maxRecDepth 20000 in
theorem gX9_rank_X9_needPower : GoodIn wsX9_rank (wsV RX9 111 RX9 yX9_needPower wsX9_needPower) := goodIn_app (goodIn_of _ (by decide +kernel)) ggX9_rank_X9_needPower
set_option maxRecDepth 20000 in
theorem ggX9_rank_X6_get : GoodIn wsX9_rank wsX6_get := goodIn_r _ [27, 16, 28, 94, 95] (by decide +kernel) (by decide +kernel)
set_option maxRecDepth 20000 in
theorem gX9_rank_X6_get : GoodIn wsX9_rank (wsV RX9 238 RX6 yX6_get wsX6_get) := goodIn_app (goodIn_of _ (by decide +kernel)) ggX9_rank_X6_get
set_option maxRecDepth 20000 in
theorem ggX9_rank_X1_heldBy : GoodIn wsX9_rank wsX1_heldBy := goodIn_r _ [33, 34, 105, 106, 107] (by decide +kernel) (by decide +kernel)
set_option maxRecDepth 20000 in
theorem gX9_rank_X1_heldBy : GoodIn wsX9_rank (wsV RX9 242 RX1 yX1_heldBy wsX1_heldBy) := goodIn_app (goodIn_of _ (by decide +kernel)) ggX9_rank_X1_heldBy
set_option maxRecDepth 20000 in
theorem ggX9_rank_X5_firstColumn : GoodIn wsX9_rank wsX5_firstColumn := goodIn_r _ [39, 40, 41, 108, 109, 110, 111, 112, 113, 114] (by decide +kernel) (by decide +kernel)
set_option maxRecDepth 20000 in
theorem gX9_rank_X5_firstColumn : GoodIn wsX9_rank (wsV RX9 271 RX5 yX5_firstColumn wsX5_firstColumn) := goodIn_app (goodIn_of _ (by decide +kernel)) ggX9_rank_X5_firstColumn
set_option maxRecDepth 20000 in
theorem ggX9_rank_X9_look : GoodIn wsX9_rank wsX9_look := goodIn_r _ [45, 3, 46, 47, 48, 49, 1, 23, 50, 51, 52, 32, 53, 54, 55, 56, 57, 58, 59, 60, 61, 62, 63, 64, 65, 66, 67, 68, 69, 70, 71, 72, 73, 74, 75, 81, 82, 83, 84, 85, 86, 87, 88, 89, 90, 91, 92, 93, 108, 109, 110, 111, 112, 113, 114, 96, 97, 98, 99, 100, 101, 102, 103, 104, 105, 106, 107] (by decide +kernel) (by decide +kernel)
set_option maxRecDepth 20000 in
theorem gX9_rank_X9_look : GoodIn wsX9_rank (wsV RX9 267 RX9 yX9_look wsX9_look) := goodIn_app (goodIn_of _ (by decide +kernel)) ggX9_rank_X9_look
set_option maxRecDepth 20000 in
theorem ggX9_rank_X5_isBeforeInFirstKey : GoodIn wsX9_rank wsX5_isBeforeInFirstKey := goodIn_r _ [79, 40, 80, 108, 109, 110, 111, 112, 113, 114] (by decide +kernel) (by decide +kernel)
set_option maxRecDepth 20000 in
theorem gX9_rank_X5_isBeforeInFirstKey : GoodIn wsX9_rank (wsV RX9 274 RX5 yX5_isBeforeInFirstKey wsX5_isBeforeInFirstKey) := goodIn_app (goodIn_of _ (by decide +kernel)) ggX9_rank_X5_isBeforeInFirstKey
