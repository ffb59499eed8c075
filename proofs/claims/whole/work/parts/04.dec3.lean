theorem dX9_rank_0 : decode cX9_rank 0 = .ok (.aload_n 0, 1) := by decide +kernel
theorem dX9_rank_1 : decode cX9_rank 1 = .ok (.iload_n 1, 1) := by decide +kernel
theorem dX9_rank_2 : decode cX9_rank 2 = .ok (.invokevirtual 254, 3) := by decide +kernel
theorem dX9_rank_5 : decode cX9_rank 5 = .ok (.aload_n 0, 1) := by decide +kernel
theorem dX9_rank_6 : decode cX9_rank 6 = .ok (.invokevirtual 111, 3) := by decide +kernel
theorem dX9_rank_9 : decode cX9_rank 9 = .ok (.iconst 0, 1) := by decide +kernel
theorem dX9_rank_10 : decode cX9_rank 10 = .ok (.istore 4, 2) := by decide +kernel
theorem dX9_rank_12 : decode cX9_rank 12 = .ok (.aload_n 0, 1) := by decide +kernel
theorem dX9_rank_13 : decode cX9_rank 13 = .ok (.getfield 36, 3) := by decide +kernel
theorem dX9_rank_16 : decode cX9_rank 16 = .ok (.aload_n 0, 1) := by decide +kernel
theorem dX9_rank_17 : decode cX9_rank 17 = .ok (.getfield 88, 3) := by decide +kernel
theorem dX9_rank_20 : decode cX9_rank 20 = .ok (.iload_n 1, 1) := by decide +kernel
theorem dX9_rank_21 : decode cX9_rank 21 = .ok (.invokevirtual 238, 3) := by decide +kernel
theorem dX9_rank_24 : decode cX9_rank 24 = .ok (.invokevirtual 242, 3) := by decide +kernel
theorem dX9_rank_27 : decode cX9_rank 27 = .ok (.istore 5, 2) := by decide +kernel
theorem dX9_rank_29 : decode cX9_rank 29 = .ok (.iload 5, 2) := by decide +kernel
theorem dX9_rank_31 : decode cX9_rank 31 = .ok (.istore 6, 2) := by decide +kernel
theorem dX9_rank_33 : decode cX9_rank 33 = .ok (.iload 6, 2) := by decide +kernel
theorem dX9_rank_35 : decode cX9_rank 35 = .ok (.ifCond .le 70, 3) := by decide +kernel
theorem dX9_rank_38 : decode cX9_rank 38 = .ok (.iload 4, 2) := by decide +kernel
theorem dX9_rank_40 : decode cX9_rank 40 = .ok (.iload 5, 2) := by decide +kernel
theorem dX9_rank_42 : decode cX9_rank 42 = .ok (.if_icmp .ge 63, 3) := by decide +kernel
theorem dX9_rank_45 : decode cX9_rank 45 = .ok (.iload 4, 2) := by decide +kernel
theorem dX9_rank_47 : decode cX9_rank 47 = .ok (.iload 5, 2) := by decide +kernel
theorem dX9_rank_49 : decode cX9_rank 49 = .ok (.iadd, 1) := by decide +kernel
theorem dX9_rank_50 : decode cX9_rank 50 = .ok (.iconst 2, 1) := by decide +kernel
theorem dX9_rank_51 : decode cX9_rank 51 = .ok (.idiv, 1) := by decide +kernel
theorem dX9_rank_52 : decode cX9_rank 52 = .ok (.istore 7, 2) := by decide +kernel
theorem dX9_rank_54 : decode cX9_rank 54 = .ok (.aload_n 0, 1) := by decide +kernel
theorem dX9_rank_55 : decode cX9_rank 55 = .ok (.getfield 27, 3) := by decide +kernel
theorem dX9_rank_58 : decode cX9_rank 58 = .ok (.aload_n 0, 1) := by decide +kernel
theorem dX9_rank_59 : decode cX9_rank 59 = .ok (.aload_n 0, 1) := by decide +kernel
theorem dX9_rank_60 : decode cX9_rank 60 = .ok (.getfield 88, 3) := by decide +kernel
theorem dX9_rank_63 : decode cX9_rank 63 = .ok (.iload_n 1, 1) := by decide +kernel
theorem dX9_rank_64 : decode cX9_rank 64 = .ok (.invokevirtual 238, 3) := by decide +kernel
theorem dX9_rank_67 : decode cX9_rank 67 = .ok (.iload 7, 2) := by decide +kernel
theorem dX9_rank_69 : decode cX9_rank 69 = .ok (.aload_n 0, 1) := by decide +kernel
theorem dX9_rank_70 : decode cX9_rank 70 = .ok (.getfield 27, 3) := by decide +kernel
theorem dX9_rank_73 : decode cX9_rank 73 = .ok (.invokevirtual 271, 3) := by decide +kernel
theorem dX9_rank_76 : decode cX9_rank 76 = .ok (.invokevirtual 267, 3) := by decide +kernel
theorem dX9_rank_79 : decode cX9_rank 79 = .ok (.lload_n 2, 1) := by decide +kernel
theorem dX9_rank_80 : decode cX9_rank 80 = .ok (.invokevirtual 274, 3) := by decide +kernel
theorem dX9_rank_83 : decode cX9_rank 83 = .ok (.ifCond .eq 12, 3) := by decide +kernel
theorem dX9_rank_86 : decode cX9_rank 86 = .ok (.iload 7, 2) := by decide +kernel
theorem dX9_rank_88 : decode cX9_rank 88 = .ok (.iconst 1, 1) := by decide +kernel
theorem dX9_rank_89 : decode cX9_rank 89 = .ok (.iadd, 1) := by decide +kernel
theorem dX9_rank_90 : decode cX9_rank 90 = .ok (.istore 4, 2) := by decide +kernel
theorem dX9_rank_92 : decode cX9_rank 92 = .ok (.goto 7, 3) := by decide +kernel
theorem dX9_rank_95 : decode cX9_rank 95 = .ok (.iload 7, 2) := by decide +kernel
theorem dX9_rank_97 : decode cX9_rank 97 = .ok (.istore 5, 2) := by decide +kernel
theorem dX9_rank_99 : decode cX9_rank 99 = .ok (.iinc 6 (-1), 3) := by decide +kernel
theorem dX9_rank_102 : decode cX9_rank 102 = .ok (.goto (-69), 3) := by decide +kernel
theorem dX9_rank_105 : decode cX9_rank 105 = .ok (.iload 4, 2) := by decide +kernel
theorem dX9_rank_107 : decode cX9_rank 107 = .ok (.ireturn, 1) := by decide +kernel
set_option maxRecDepth 20000 in
theorem ggX9_drop_X9_needRun : GoodIn wsX9_drop wsX9_needRun := goodIn_ca (goodIn_r _ [7, 8, 9, 2, 10, 11, 12, 13, 14, 15, 49, 50, 51, 52, 53, 54, 55, 56, 57, 58, 59, 60, 61, 62, 63] (by decide +kernel) (by decide +kernel)) (goodIn_sub (fun _ h => List.mem_cons_of_mem _ (List.mem_append_left _ (List.mem_append_right _ h))) (by decide +kernel))
set_option maxRecDepth 20000 in
theorem gX9_drop_X9_needRun : GoodIn wsX9_drop (wsV RX9 254 RX9 yX9_needRun wsX9_needRun) := goodIn_app (goodIn_of _ (by decide +kernel)) ggX9_drop_X9_needRun
set_option maxRecDepth 20000 in
theorem ggX9_drop_X9_needPower : GoodIn wsX9_drop wsX9_needPower := goodIn_ca (goodIn_r _ [19, 20, 21, 22, 49, 50, 51, 52, 53, 54, 55, 56, 57, 58, 59, 60, 61, 64, 65, 66, 67, 68, 69, 70, 71, 72] (by decide +kernel) (by decide +kernel)) (goodIn_sub (fun _ h => List.mem_cons_of_mem _ (List.mem_append_right _ h)) (by decide +kernel))
set_option maxRecDepth 20000 in
theorem gX9_drop_X9_needPower : GoodIn wsX9_drop (wsV RX9 111 RX9 yX9_needPower wsX9_needPower) := goodIn_app (goodIn_of _ (by decide +kernel)) ggX9_drop_X9_needPower
set_option maxRecDepth 20000 in
theorem ggX9_drop_X6_get : GoodIn wsX9_drop wsX6_get := goodIn_r _ [26, 15, 27, 62, 63] (by decide +kernel) (by decide +kernel)
set_option maxRecDepth 20000 in
theorem gX9_drop_X6_get : GoodIn wsX9_drop (wsV RX9 238 RX6 yX6_get wsX6_get) := goodIn_app (goodIn_of _ (by decide +kernel)) ggX9_drop_X6_get
set_option maxRecDepth 20000 in
theorem ggX9_drop_X1_remove : GoodIn wsX9_drop wsX1_remove := goodIn_r _ [32, 33, 34, 35, 36, 37, 38, 39, 40, 41, 42, 43, 31, 44, 73, 74, 75, 64, 65, 66, 67, 68, 69, 70, 71, 72] (by decide +kernel) (by decide +kernel)
set_option maxRecDepth 20000 in
theorem gX9_drop_X1_remove : GoodIn wsX9_drop (wsV RX9 278 RX1 yX1_remove wsX1_remove) := goodIn_app (goodIn_of _ (by decide +kernel)) ggX9_drop_X1_remove
set_option maxRecDepth 20000 in
theorem ggX9_drop_X6_removeAt : GoodIn wsX9_drop wsX6_removeAt := goodIn_r _ [48, 15, 27, 62, 63] (by decide +kernel) (by decide +kernel)
set_option maxRecDepth 20000 in
theorem gX9_drop_X6_removeAt : GoodIn wsX9_drop (wsV RX9 281 RX6 yX6_removeAt wsX6_removeAt) := goodIn_app (goodIn_of _ (by decide +kernel)) ggX9_drop_X6_removeAt
set_option maxRecDepth 20000 in
theorem ggX9_drop_X6_size : GoodIn wsX9_drop wsX6_size := goodIn_r _ [14, 15, 62, 63] (by decide +kernel) (by decide +kernel)
set_option maxRecDepth 20000 in
theorem gX9_drop_X6_size : GoodIn wsX9_drop (wsV RX9 114 RX6 yX6_size wsX6_size) := goodIn_app (goodIn_of _ (by decide +kernel)) ggX9_drop_X6_size
theorem dX9_drop_0 : decode cX9_drop 0 = .ok (.aload_n 0, 1) := by decide +kernel
theorem dX9_drop_1 : decode cX9_drop 1 = .ok (.iload_n 1, 1) := by decide +kernel
theorem dX9_drop_2 : decode cX9_drop 2 = .ok (.invokevirtual 254, 3) := by decide +kernel
theorem dX9_drop_5 : decode cX9_drop 5 = .ok (.aload_n 0, 1) := by decide +kernel
theorem dX9_drop_6 : decode cX9_drop 6 = .ok (.invokevirtual 111, 3) := by decide +kernel
theorem dX9_drop_9 : decode cX9_drop 9 = .ok (.aload_n 0, 1) := by decide +kernel
theorem dX9_drop_10 : decode cX9_drop 10 = .ok (.getfield 36, 3) := by decide +kernel
theorem dX9_drop_13 : decode cX9_drop 13 = .ok (.aload_n 0, 1) := by decide +kernel
theorem dX9_drop_14 : decode cX9_drop 14 = .ok (.getfield 88, 3) := by decide +kernel
theorem dX9_drop_17 : decode cX9_drop 17 = .ok (.iload_n 1, 1) := by decide +kernel
theorem dX9_drop_18 : decode cX9_drop 18 = .ok (.invokevirtual 238, 3) := by decide +kernel
theorem dX9_drop_21 : decode cX9_drop 21 = .ok (.invokevirtual 278, 3) := by decide +kernel
theorem dX9_drop_24 : decode cX9_drop 24 = .ok (.aload_n 0, 1) := by decide +kernel
theorem dX9_drop_25 : decode cX9_drop 25 = .ok (.getfield 88, 3) := by decide +kernel
theorem dX9_drop_28 : decode cX9_drop 28 = .ok (.iload_n 1, 1) := by decide +kernel
theorem dX9_drop_29 : decode cX9_drop 29 = .ok (.invokevirtual 281, 3) := by decide +kernel
theorem dX9_drop_32 : decode cX9_drop 32 = .ok (.aload_n 0, 1) := by decide +kernel
theorem dX9_drop_33 : decode cX9_drop 33 = .ok (.getfield 88, 3) := by decide +kernel
theorem dX9_drop_36 : decode cX9_drop 36 = .ok (.invokevirtual 114, 3) := by decide +kernel
theorem dX9_drop_39 : decode cX9_drop 39 = .ok (.ireturn, 1) := by decide +kernel
set_option maxRecDepth 20000 in
theorem ggX9_count_X0_freeBlocks : GoodIn wsX9_count wsX0_freeBlocks := goodIn_r _ [11, 12, 26, 27, 28, 29, 30, 31, 32, 33, 34] (by decide +kernel) (by decide +kernel)
set_option maxRecDepth 20000 in
theorem gX9_count_X0_freeBlocks : GoodIn wsX9_count (wsV RX9 296 RX0 yX0_freeBlocks wsX0_freeBlocks) := goodIn_app (goodIn_of _ (by decide +kernel)) ggX9_count_X0_freeBlocks
theorem dX9_count_0 : decode cX9_count 0 = .ok (.iload_n 1, 1) := by decide +kernel
theorem dX9_count_1 : decode cX9_count 1 = .ok (.tableswitch 164 0 11 #[63, 71, 79, 87, 95, 103, 111, 119, 127, 135, 140, 148], 63) := by decide +kernel
theorem dX9_count_64 : decode cX9_count 64 = .ok (.aload_n 0, 1) := by decide +kernel
theorem dX9_count_65 : decode cX9_count 65 = .ok (.getfield 18, 3) := by decide +kernel
theorem dX9_count_68 : decode cX9_count 68 = .ok (.getfield 284, 3) := by decide +kernel
theorem dX9_count_71 : decode cX9_count 71 = .ok (.ireturn, 1) := by decide +kernel
theorem dX9_count_72 : decode cX9_count 72 = .ok (.aload_n 0, 1) := by decide +kernel
theorem dX9_count_73 : decode cX9_count 73 = .ok (.getfield 18, 3) := by decide +kernel
theorem dX9_count_76 : decode cX9_count 76 = .ok (.getfield 287, 3) := by decide +kernel
theorem dX9_count_79 : decode cX9_count 79 = .ok (.ireturn, 1) := by decide +kernel
theorem dX9_count_80 : decode cX9_count 80 = .ok (.aload_n 0, 1) := by decide +kernel
theorem dX9_count_81 : decode cX9_count 81 = .ok (.getfield 18, 3) := by decide +kernel
theorem dX9_count_84 : decode cX9_count 84 = .ok (.getfield 290, 3) := by decide +kernel
theorem dX9_count_87 : decode cX9_count 87 = .ok (.ireturn, 1) := by decide +kernel
theorem dX9_count_88 : decode cX9_count 88 = .ok (.aload_n 0, 1) := by decide +kernel
theorem dX9_count_89 : decode cX9_count 89 = .ok (.getfield 18, 3) := by decide +kernel
theorem dX9_count_92 : decode cX9_count 92 = .ok (.getfield 293, 3) := by decide +kernel
theorem dX9_count_95 : decode cX9_count 95 = .ok (.ireturn, 1) := by decide +kernel
theorem dX9_count_96 : decode cX9_count 96 = .ok (.aload_n 0, 1) := by decide +kernel
theorem dX9_count_97 : decode cX9_count 97 = .ok (.getfield 18, 3) := by decide +kernel
theorem dX9_count_100 : decode cX9_count 100 = .ok (.invokevirtual 296, 3) := by decide +kernel
theorem dX9_count_103 : decode cX9_count 103 = .ok (.ireturn, 1) := by decide +kernel
theorem dX9_count_104 : decode cX9_count 104 = .ok (.aload_n 0, 1) := by decide +kernel
theorem dX9_count_105 : decode cX9_count 105 = .ok (.getfield 45, 3) := by decide +kernel
theorem dX9_count_108 : decode cX9_count 108 = .ok (.getfield 299, 3) := by decide +kernel
theorem dX9_count_111 : decode cX9_count 111 = .ok (.ireturn, 1) := by decide +kernel
theorem dX9_count_112 : decode cX9_count 112 = .ok (.aload_n 0, 1) := by decide +kernel
theorem dX9_count_113 : decode cX9_count 113 = .ok (.getfield 27, 3) := by decide +kernel
theorem dX9_count_116 : decode cX9_count 116 = .ok (.getfield 302, 3) := by decide +kernel
theorem dX9_count_119 : decode cX9_count 119 = .ok (.ireturn, 1) := by decide +kernel
theorem dX9_count_120 : decode cX9_count 120 = .ok (.aload_n 0, 1) := by decide +kernel
theorem dX9_count_121 : decode cX9_count 121 = .ok (.getfield 45, 3) := by decide +kernel
theorem dX9_count_124 : decode cX9_count 124 = .ok (.getfield 305, 3) := by decide +kernel
theorem dX9_count_127 : decode cX9_count 127 = .ok (.ireturn, 1) := by decide +kernel
theorem dX9_count_128 : decode cX9_count 128 = .ok (.aload_n 0, 1) := by decide +kernel
theorem dX9_count_129 : decode cX9_count 129 = .ok (.getfield 27, 3) := by decide +kernel
theorem dX9_count_132 : decode cX9_count 132 = .ok (.getfield 308, 3) := by decide +kernel
theorem dX9_count_135 : decode cX9_count 135 = .ok (.ireturn, 1) := by decide +kernel
theorem dX9_count_136 : decode cX9_count 136 = .ok (.aload_n 0, 1) := by decide +kernel
theorem dX9_count_137 : decode cX9_count 137 = .ok (.getfield 152, 3) := by decide +kernel
theorem dX9_count_140 : decode cX9_count 140 = .ok (.ireturn, 1) := by decide +kernel
theorem dX9_count_141 : decode cX9_count 141 = .ok (.aload_n 0, 1) := by decide +kernel
theorem dX9_count_142 : decode cX9_count 142 = .ok (.getfield 27, 3) := by decide +kernel
theorem dX9_count_145 : decode cX9_count 145 = .ok (.getfield 129, 3) := by decide +kernel
theorem dX9_count_148 : decode cX9_count 148 = .ok (.ireturn, 1) := by decide +kernel
theorem dX9_count_149 : decode cX9_count 149 = .ok (.aload_n 0, 1) := by decide +kernel
theorem dX9_count_150 : decode cX9_count 150 = .ok (.getfield 18, 3) := by decide +kernel
theorem dX9_count_153 : decode cX9_count 153 = .ok (.getfield 311, 3) := by decide +kernel
theorem dX9_count_156 : decode cX9_count 156 = .ok (.ifCond .eq 7, 3) := by decide +kernel
theorem dX9_count_159 : decode cX9_count 159 = .ok (.iconst 1, 1) := by decide +kernel
theorem dX9_count_160 : decode cX9_count 160 = .ok (.goto 4, 3) := by decide +kernel
theorem dX9_count_163 : decode cX9_count 163 = .ok (.iconst 0, 1) := by decide +kernel
theorem dX9_count_164 : decode cX9_count 164 = .ok (.ireturn, 1) := by decide +kernel
theorem dX9_count_165 : decode cX9_count 165 = .ok (.new 104, 3) := by decide +kernel
theorem dX9_count_168 : decode cX9_count 168 = .ok (.dup, 1) := by decide +kernel
theorem dX9_count_169 : decode cX9_count 169 = .ok (.ldc_w 315, 3) := by decide +kernel
theorem dX9_count_172 : decode cX9_count 172 = .ok (.invokespecial 108, 3) := by decide +kernel
theorem dX9_count_175 : decode cX9_count 175 = .ok (.athrow, 1) := by decide +kernel
set_option maxRecDepth 20000 in
theorem ggX9_crash_X9_needPower : GoodIn wsX9_crash wsX9_needPower := goodIn_ca (goodIn_r _ [9, 10, 11, 4, 12, 13, 14, 15, 16, 17, 18, 19, 20, 21, 22, 23, 24, 25, 26, 27, 28, 29, 30, 31, 32, 33] (by decide +kernel) (by decide +kernel)) (goodIn_sub (fun _ h => List.mem_cons_of_mem _ (List.mem_append_right _ h)) (by decide +kernel))
set_option maxRecDepth 20000 in
theorem gX9_crash_X9_needPower : GoodIn wsX9_crash (wsV RX9 111 RX9 yX9_needPower wsX9_needPower) := goodIn_app (goodIn_of _ (by decide +kernel)) ggX9_crash_X9_needPower
theorem dX9_crash_0 : decode cX9_crash 0 = .ok (.iload_n 1, 1) := by decide +kernel
theorem dX9_crash_1 : decode cX9_crash 1 = .ok (.iconst (-1), 1) := by decide +kernel
theorem dX9_crash_2 : decode cX9_crash 2 = .ok (.if_icmp .lt 10, 3) := by decide +kernel
theorem dX9_crash_5 : decode cX9_crash 5 = .ok (.iload_n 1, 1) := by decide +kernel
theorem dX9_crash_6 : decode cX9_crash 6 = .ok (.ldc_w 317, 3) := by decide +kernel
theorem dX9_crash_9 : decode cX9_crash 9 = .ok (.if_icmp .le 14, 3) := by decide +kernel
theorem dX9_crash_12 : decode cX9_crash 12 = .ok (.new 104, 3) := by decide +kernel
theorem dX9_crash_15 : decode cX9_crash 15 = .ok (.dup, 1) := by decide +kernel
theorem dX9_crash_16 : decode cX9_crash 16 = .ok (.ldc_w 318, 3) := by decide +kernel
theorem dX9_crash_19 : decode cX9_crash 19 = .ok (.invokespecial 108, 3) := by decide +kernel
theorem dX9_crash_22 : decode cX9_crash 22 = .ok (.athrow, 1) := by decide +kernel
theorem dX9_crash_23 : decode cX9_crash 23 = .ok (.aload_n 0, 1) := by decide +kernel
theorem dX9_crash_24 : decode cX9_crash 24 = .ok (.invokevirtual 111, 3) := by decide +kernel
theorem dX9_crash_27 : decode cX9_crash 27 = .ok (.aload_n 0, 1) := by decide +kernel
theorem dX9_crash_28 : decode cX9_crash 28 = .ok (.getfield 18, 3) := by decide +kernel
theorem dX9_crash_31 : decode cX9_crash 31 = .ok (.iload_n 1, 1) := by decide +kernel
theorem dX9_crash_32 : decode cX9_crash 32 = .ok (.putfield 320, 3) := by decide +kernel
theorem dX9_crash_35 : decode cX9_crash 35 = .ok (.return_, 1) := by decide +kernel
set_option maxRecDepth 20000 in
theorem ggX9_up_X6_size : GoodIn wsX9_up wsX6_size := goodIn_r _ [9, 10, 33, 34] (by decide +kernel) (by decide +kernel)
set_option maxRecDepth 20000 in
theorem gX9_up_X6_size : GoodIn wsX9_up (wsV RX9 114 RX6 yX6_size wsX6_size) := goodIn_app (goodIn_of _ (by decide +kernel)) ggX9_up_X6_size
theorem dX9_up_0 : decode cX9_up 0 = .ok (.aload_n 0, 1) := by decide +kernel
theorem dX9_up_1 : decode cX9_up 1 = .ok (.getfield 18, 3) := by decide +kernel
theorem dX9_up_4 : decode cX9_up 4 = .ok (.getfield 311, 3) := by decide +kernel
theorem dX9_up_7 : decode cX9_up 7 = .ok (.ifCond .ne 14, 3) := by decide +kernel
theorem dX9_up_10 : decode cX9_up 10 = .ok (.new 121, 3) := by decide +kernel
theorem dX9_up_13 : decode cX9_up 13 = .ok (.dup, 1) := by decide +kernel
theorem dX9_up_14 : decode cX9_up 14 = .ok (.ldc_w 323, 3) := by decide +kernel
theorem dX9_up_17 : decode cX9_up 17 = .ok (.invokespecial 125, 3) := by decide +kernel
theorem dX9_up_20 : decode cX9_up 20 = .ok (.athrow, 1) := by decide +kernel
theorem dX9_up_21 : decode cX9_up 21 = .ok (.aload_n 0, 1) := by decide +kernel
theorem dX9_up_22 : decode cX9_up 22 = .ok (.getfield 18, 3) := by decide +kernel
theorem dX9_up_25 : decode cX9_up 25 = .ok (.iconst 0, 1) := by decide +kernel
theorem dX9_up_26 : decode cX9_up 26 = .ok (.putfield 311, 3) := by decide +kernel
theorem dX9_up_29 : decode cX9_up 29 = .ok (.aload_n 0, 1) := by decide +kernel
theorem dX9_up_30 : decode cX9_up 30 = .ok (.getfield 18, 3) := by decide +kernel
theorem dX9_up_33 : decode cX9_up 33 = .ok (.iconst (-1), 1) := by decide +kernel
theorem dX9_up_34 : decode cX9_up 34 = .ok (.putfield 320, 3) := by decide +kernel
theorem dX9_up_37 : decode cX9_up 37 = .ok (.aload_n 0, 1) := by decide +kernel
theorem dX9_up_38 : decode cX9_up 38 = .ok (.getfield 88, 3) := by decide +kernel
theorem dX9_up_41 : decode cX9_up 41 = .ok (.invokevirtual 114, 3) := by decide +kernel
theorem dX9_up_44 : decode cX9_up 44 = .ok (.ireturn, 1) := by decide +kernel
theorem dX9_within_0 : decode cX9_within 0 = .ok (.iload_n 1, 1) := by decide +kernel
theorem dX9_within_1 : decode cX9_within 1 = .ok (.iload_n 0, 1) := by decide +kernel
theorem dX9_within_2 : decode cX9_within 2 = .ok (.iload_n 2, 1) := by decide +kernel
theorem dX9_within_3 : decode cX9_within 3 = .ok (.invokestatic 232, 3) := by decide +kernel
theorem dX9_within_6 : decode cX9_within 6 = .ok (.invokestatic 325, 3) := by decide +kernel
theorem dX9_within_9 : decode cX9_within 9 = .ok (.ireturn, 1) := by decide +kernel
theorem dX9_needPower_0 : decode cX9_needPower 0 = .ok (.aload_n 0, 1) := by decide +kernel
theorem dX9_needPower_1 : decode cX9_needPower 1 = .ok (.getfield 18, 3) := by decide +kernel
theorem dX9_needPower_4 : decode cX9_needPower 4 = .ok (.getfield 311, 3) := by decide +kernel
theorem dX9_needPower_7 : decode cX9_needPower 7 = .ok (.ifCond .eq 14, 3) := by decide +kernel
theorem dX9_needPower_10 : decode cX9_needPower 10 = .ok (.new 121, 3) := by decide +kernel
theorem dX9_needPower_13 : decode cX9_needPower 13 = .ok (.dup, 1) := by decide +kernel
theorem dX9_needPower_14 : decode cX9_needPower 14 = .ok (.ldc_w 328, 3) := by decide +kernel
theorem dX9_needPower_17 : decode cX9_needPower 17 = .ok (.invokespecial 125, 3) := by decide +kernel
theorem dX9_needPower_20 : decode cX9_needPower 20 = .ok (.athrow, 1) := by decide +kernel
theorem dX9_needPower_21 : decode cX9_needPower 21 = .ok (.return_, 1) := by decide +kernel
theorem dX9_needFan_0 : decode cX9_needFan 0 = .ok (.iload_n 1, 1) := by decide +kernel
theorem dX9_needFan_1 : decode cX9_needFan 1 = .ok (.iconst 2, 1) := by decide +kernel
theorem dX9_needFan_2 : decode cX9_needFan 2 = .ok (.if_icmp .lt 9, 3) := by decide +kernel
theorem dX9_needFan_5 : decode cX9_needFan 5 = .ok (.iload_n 1, 1) := by decide +kernel
theorem dX9_needFan_6 : decode cX9_needFan 6 = .ok (.bipush 8, 2) := by decide +kernel
theorem dX9_needFan_8 : decode cX9_needFan 8 = .ok (.if_icmp .le 14, 3) := by decide +kernel
theorem dX9_needFan_11 : decode cX9_needFan 11 = .ok (.new 104, 3) := by decide +kernel
theorem dX9_needFan_14 : decode cX9_needFan 14 = .ok (.dup, 1) := by decide +kernel
theorem dX9_needFan_15 : decode cX9_needFan 15 = .ok (.ldc_w 330, 3) := by decide +kernel
theorem dX9_needFan_18 : decode cX9_needFan 18 = .ok (.invokespecial 108, 3) := by decide +kernel
theorem dX9_needFan_21 : decode cX9_needFan 21 = .ok (.athrow, 1) := by decide +kernel
theorem dX9_needFan_22 : decode cX9_needFan 22 = .ok (.return_, 1) := by decide +kernel
set_option maxRecDepth 20000 in
theorem ggX9_needRun_X6_size : GoodIn wsX9_needRun wsX6_size := goodIn_r _ [8, 9, 23, 24] (by decide +kernel) (by decide +kernel)
set_option maxRecDepth 20000 in
theorem gX9_needRun_X6_size : GoodIn wsX9_needRun (wsV RX9 114 RX6 yX6_size wsX6_size) := goodIn_app (goodIn_of _ (by decide +kernel)) ggX9_needRun_X6_size
theorem dX9_needRun_0 : decode cX9_needRun 0 = .ok (.iload_n 1, 1) := by decide +kernel
theorem dX9_needRun_1 : decode cX9_needRun 1 = .ok (.ifCond .lt 14, 3) := by decide +kernel
theorem dX9_needRun_4 : decode cX9_needRun 4 = .ok (.iload_n 1, 1) := by decide +kernel
theorem dX9_needRun_5 : decode cX9_needRun 5 = .ok (.aload_n 0, 1) := by decide +kernel
theorem dX9_needRun_6 : decode cX9_needRun 6 = .ok (.getfield 88, 3) := by decide +kernel
theorem dX9_needRun_9 : decode cX9_needRun 9 = .ok (.invokevirtual 114, 3) := by decide +kernel
theorem dX9_needRun_12 : decode cX9_needRun 12 = .ok (.if_icmp .lt 14, 3) := by decide +kernel
theorem dX9_needRun_15 : decode cX9_needRun 15 = .ok (.new 133, 3) := by decide +kernel
theorem dX9_needRun_18 : decode cX9_needRun 18 = .ok (.dup, 1) := by decide +kernel
theorem dX9_needRun_19 : decode cX9_needRun 19 = .ok (.ldc_w 332, 3) := by decide +kernel
theorem dX9_needRun_22 : decode cX9_needRun 22 = .ok (.invokespecial 137, 3) := by decide +kernel
theorem dX9_needRun_25 : decode cX9_needRun 25 = .ok (.athrow, 1) := by decide +kernel
theorem dX9_needRun_26 : decode cX9_needRun 26 = .ok (.return_, 1) := by decide +kernel
set_option maxRecDepth 20000 in
theorem ggX9_answerFor_X6_size : GoodIn wsX9_answerFor wsX6_size := goodIn_r _ [9, 10, 33, 34] (by decide +kernel) (by decide +kernel)
set_option maxRecDepth 20000 in
theorem gX9_answerFor_X6_size : GoodIn wsX9_answerFor (wsV RX9 114 RX6 yX6_size wsX6_size) := goodIn_app (goodIn_of _ (by decide +kernel)) ggX9_answerFor_X6_size
theorem dX9_answerFor_0 : decode cX9_answerFor 0 = .ok (.iload_n 1, 1) := by decide +kernel
theorem dX9_answerFor_1 : decode cX9_answerFor 1 = .ok (.ifCond .ne 24, 3) := by decide +kernel
theorem dX9_answerFor_4 : decode cX9_answerFor 4 = .ok (.aload_n 0, 1) := by decide +kernel
theorem dX9_answerFor_5 : decode cX9_answerFor 5 = .ok (.getfield 18, 3) := by decide +kernel
theorem dX9_answerFor_8 : decode cX9_answerFor 8 = .ok (.getfield 311, 3) := by decide +kernel
theorem dX9_answerFor_11 : decode cX9_answerFor 11 = .ok (.ifCond .ne 14, 3) := by decide +kernel
theorem dX9_answerFor_14 : decode cX9_answerFor 14 = .ok (.new 334, 3) := by decide +kernel
theorem dX9_answerFor_17 : decode cX9_answerFor 17 = .ok (.dup, 1) := by decide +kernel
theorem dX9_answerFor_18 : decode cX9_answerFor 18 = .ok (.ldc_w 336, 3) := by decide +kernel
theorem dX9_answerFor_21 : decode cX9_answerFor 21 = .ok (.invokespecial 338, 3) := by decide +kernel
theorem dX9_answerFor_24 : decode cX9_answerFor 24 = .ok (.athrow, 1) := by decide +kernel
theorem dX9_answerFor_25 : decode cX9_answerFor 25 = .ok (.iload_n 1, 1) := by decide +kernel
theorem dX9_answerFor_26 : decode cX9_answerFor 26 = .ok (.ifCond .eq 13, 3) := by decide +kernel
theorem dX9_answerFor_29 : decode cX9_answerFor 29 = .ok (.aload_n 0, 1) := by decide +kernel
theorem dX9_answerFor_30 : decode cX9_answerFor 30 = .ok (.getfield 88, 3) := by decide +kernel
theorem dX9_answerFor_33 : decode cX9_answerFor 33 = .ok (.invokevirtual 114, 3) := by decide +kernel
theorem dX9_answerFor_36 : decode cX9_answerFor 36 = .ok (.goto 5, 3) := by decide +kernel
theorem dX9_answerFor_39 : decode cX9_answerFor 39 = .ok (.bipush (-2), 2) := by decide +kernel
theorem dX9_answerFor_41 : decode cX9_answerFor 41 = .ok (.ireturn, 1) := by decide +kernel
theorem dX9_setComing_0 : decode cX9_setComing 0 = .ok (.iload_n 1, 1) := by decide +kernel
theorem dX9_setComing_1 : decode cX9_setComing 1 = .ok (.ifCond .lt 19, 3) := by decide +kernel
theorem dX9_setComing_4 : decode cX9_setComing 4 = .ok (.iload_n 1, 1) := by decide +kernel
theorem dX9_setComing_5 : decode cX9_setComing 5 = .ok (.aload_n 0, 1) := by decide +kernel
theorem dX9_setComing_6 : decode cX9_setComing 6 = .ok (.getfield 92, 3) := by decide +kernel
theorem dX9_setComing_9 : decode cX9_setComing 9 = .ok (.arraylength, 1) := by decide +kernel
theorem dX9_setComing_10 : decode cX9_setComing 10 = .ok (.if_icmp .ge 10, 3) := by decide +kernel
theorem dX9_setComing_13 : decode cX9_setComing 13 = .ok (.aload_n 0, 1) := by decide +kernel
theorem dX9_setComing_14 : decode cX9_setComing 14 = .ok (.getfield 92, 3) := by decide +kernel
theorem dX9_setComing_17 : decode cX9_setComing 17 = .ok (.iload_n 1, 1) := by decide +kernel
theorem dX9_setComing_18 : decode cX9_setComing 18 = .ok (.lload_n 2, 1) := by decide +kernel
theorem dX9_setComing_19 : decode cX9_setComing 19 = .ok (.lastore, 1) := by decide +kernel
theorem dX9_setComing_20 : decode cX9_setComing 20 = .ok (.return_, 1) := by decide +kernel
set_option maxRecDepth 20000 in
theorem ggX9_look_X1_blockAt : GoodIn wsX9_look wsX1_blockAt := goodIn_r _ [12, 13, 14, 15, 16, 11, 17, 64, 65, 66] (by decide +kernel) (by decide +kernel)
set_option maxRecDepth 20000 in
theorem gX9_look_X1_blockAt : GoodIn wsX9_look (wsV RX9 260 RX1 yX1_blockAt wsX1_blockAt) := goodIn_app (goodIn_of _ (by decide +kernel)) ggX9_look_X1_blockAt
set_option maxRecDepth 20000 in
theorem ggX9_look_X0_readBlock : GoodIn wsX9_look wsX0_readBlock := goodIn_r _ [22, 23, 24, 25, 26, 21, 27, 28, 29, 55, 56, 57, 58, 59, 60, 61, 62, 63] (by decide +kernel) (by decide +kernel)
set_option maxRecDepth 20000 in
theorem gX9_look_X0_readBlock : GoodIn wsX9_look (wsV RX9 339 RX0 yX0_readBlock wsX0_readBlock) := goodIn_app (goodIn_of _ (by decide +kernel)) ggX9_look_X0_readBlock
set_option maxRecDepth 20000 in
theorem ggX9_look_X0_cell : GoodIn wsX9_look wsX0_cell := goodIn_r _ [33, 34, 55, 56, 57, 58, 59, 60, 61, 62, 63] (by decide +kernel) (by decide +kernel)
set_option maxRecDepth 20000 in
theorem gX9_look_X0_cell : GoodIn wsX9_look (wsV RX9 347 RX0 yX0_cell wsX0_cell) := goodIn_app (goodIn_of _ (by decide +kernel)) ggX9_look_X0_cell
theorem dX9_look_0 : decode cX9_look 0 = .ok (.iconst 1, 1) := by decide +kernel
theorem dX9_look_1 : decode cX9_look 1 = .ok (.aload_n 0, 1) := by decide +kernel
theorem dX9_look_2 : decode cX9_look 2 = .ok (.getfield 27, 3) := by decide +kernel
theorem dX9_look_5 : decode cX9_look 5 = .ok (.getfield 302, 3) := by decide +kernel
theorem dX9_look_8 : decode cX9_look 8 = .ok (.invokestatic 325, 3) := by decide +kernel
theorem dX9_look_11 : decode cX9_look 11 = .ok (.istore 4, 2) := by decide +kernel
theorem dX9_look_13 : decode cX9_look 13 = .ok (.aload_n 0, 1) := by decide +kernel
theorem dX9_look_14 : decode cX9_look 14 = .ok (.getfield 36, 3) := by decide +kernel
theorem dX9_look_17 : decode cX9_look 17 = .ok (.iload_n 1, 1) := by decide +kernel
theorem dX9_look_18 : decode cX9_look 18 = .ok (.iload_n 2, 1) := by decide +kernel
theorem dX9_look_19 : decode cX9_look 19 = .ok (.iload 4, 2) := by decide +kernel
theorem dX9_look_21 : decode cX9_look 21 = .ok (.idiv, 1) := by decide +kernel
theorem dX9_look_22 : decode cX9_look 22 = .ok (.invokevirtual 260, 3) := by decide +kernel
theorem dX9_look_25 : decode cX9_look 25 = .ok (.istore 5, 2) := by decide +kernel
theorem dX9_look_27 : decode cX9_look 27 = .ok (.iload 5, 2) := by decide +kernel
theorem dX9_look_29 : decode cX9_look 29 = .ok (.aload_n 0, 1) := by decide +kernel
theorem dX9_look_30 : decode cX9_look 30 = .ok (.getfield 18, 3) := by decide +kernel
theorem dX9_look_33 : decode cX9_look 33 = .ok (.getfield 293, 3) := by decide +kernel
theorem dX9_look_36 : decode cX9_look 36 = .ok (.if_icmp .eq 12, 3) := by decide +kernel
theorem dX9_look_39 : decode cX9_look 39 = .ok (.aload_n 0, 1) := by decide +kernel
theorem dX9_look_40 : decode cX9_look 40 = .ok (.getfield 18, 3) := by decide +kernel
theorem dX9_look_43 : decode cX9_look 43 = .ok (.iload 5, 2) := by decide +kernel
theorem dX9_look_45 : decode cX9_look 45 = .ok (.invokevirtual 339, 3) := by decide +kernel
theorem dX9_look_48 : decode cX9_look 48 = .ok (.aload_n 0, 1) := by decide +kernel
theorem dX9_look_49 : decode cX9_look 49 = .ok (.getfield 18, 3) := by decide +kernel
theorem dX9_look_52 : decode cX9_look 52 = .ok (.iload 5, 2) := by decide +kernel
theorem dX9_look_54 : decode cX9_look 54 = .ok (.aload_n 0, 1) := by decide +kernel
theorem dX9_look_55 : decode cX9_look 55 = .ok (.getfield 18, 3) := by decide +kernel
theorem dX9_look_58 : decode cX9_look 58 = .ok (.getfield 342, 3) := by decide +kernel
theorem dX9_look_61 : decode cX9_look 61 = .ok (.imul, 1) := by decide +kernel
theorem dX9_look_62 : decode cX9_look 62 = .ok (.iload_n 2, 1) := by decide +kernel
theorem dX9_look_63 : decode cX9_look 63 = .ok (.iload 4, 2) := by decide +kernel
theorem dX9_look_65 : decode cX9_look 65 = .ok (.irem, 1) := by decide +kernel
theorem dX9_look_66 : decode cX9_look 66 = .ok (.aload_n 0, 1) := by decide +kernel
theorem dX9_look_67 : decode cX9_look 67 = .ok (.getfield 27, 3) := by decide +kernel
theorem dX9_look_70 : decode cX9_look 70 = .ok (.getfield 344, 3) := by decide +kernel
theorem dX9_look_73 : decode cX9_look 73 = .ok (.imul, 1) := by decide +kernel
theorem dX9_look_74 : decode cX9_look 74 = .ok (.iadd, 1) := by decide +kernel
theorem dX9_look_75 : decode cX9_look 75 = .ok (.iload_n 3, 1) := by decide +kernel
theorem dX9_look_76 : decode cX9_look 76 = .ok (.iadd, 1) := by decide +kernel
theorem dX9_look_77 : decode cX9_look 77 = .ok (.invokevirtual 347, 3) := by decide +kernel
theorem dX9_look_80 : decode cX9_look 80 = .ok (.lreturn, 1) := by decide +kernel
set_option maxRecDepth 20000 in
theorem ggX9_fillMemory_X2_next : GoodIn wsX9_fillMemory wsX2_next := goodIn_r _ [7, 8, 9, 10, 11, 12, 13, 14, 15, 16, 17, 18, 19, 20, 21, 22, 23, 24, 25, 26, 27, 28, 29, 30, 31, 32, 33, 34, 35, 94, 95, 96, 97, 98, 99, 100, 101, 102, 103, 104, 105, 106, 107, 108, 109, 110, 111, 112, 113, 114, 115, 116, 117, 118, 119, 120] (by decide +kernel) (by decide +kernel)
set_option maxRecDepth 20000 in
theorem gX9_fillMemory_X2_next : GoodIn wsX9_fillMemory (wsV RX9 357 RX2 yX2_next wsX2_next) := goodIn_app (goodIn_of _ (by decide +kernel)) ggX9_fillMemory_X2_next
set_option maxRecDepth 20000 in
theorem ggX9_fillMemory_X3_add : GoodIn wsX9_fillMemory wsX3_add := goodIn_r _ [40, 41, 42, 43, 44, 45, 46, 39, 47, 48, 49, 50, 51, 52, 53, 54, 55, 56, 57, 58, 59, 60, 61, 62, 63, 64, 65, 27, 66, 67, 68, 69, 70, 71, 72, 73, 74, 75, 89, 90, 91, 92, 93, 103, 104, 105, 106, 107, 108, 109, 110, 111, 112, 113, 114, 115, 116, 117, 118] (by decide +kernel) (by decide +kernel)
set_option maxRecDepth 20000 in
theorem gX9_fillMemory_X3_add : GoodIn wsX9_fillMemory (wsV RX9 360 RX3 yX3_add wsX3_add) := goodIn_app (goodIn_of _ (by decide +kernel)) ggX9_fillMemory_X3_add
theorem dX9_fillMemory_0 : decode cX9_fillMemory 0 = .ok (.iconst 0, 1) := by decide +kernel
theorem dX9_fillMemory_1 : decode cX9_fillMemory 1 = .ok (.istore_n 1, 1) := by decide +kernel
theorem dX9_fillMemory_2 : decode cX9_fillMemory 2 = .ok (.iload_n 1, 1) := by decide +kernel
theorem dX9_fillMemory_3 : decode cX9_fillMemory 3 = .ok (.aload_n 0, 1) := by decide +kernel
theorem dX9_fillMemory_4 : decode cX9_fillMemory 4 = .ok (.getfield 63, 3) := by decide +kernel
theorem dX9_fillMemory_7 : decode cX9_fillMemory 7 = .ok (.getfield 351, 3) := by decide +kernel
theorem dX9_fillMemory_10 : decode cX9_fillMemory 10 = .ok (.if_icmp .ge 34, 3) := by decide +kernel
theorem dX9_fillMemory_13 : decode cX9_fillMemory 13 = .ok (.aload_n 0, 1) := by decide +kernel
theorem dX9_fillMemory_14 : decode cX9_fillMemory 14 = .ok (.getfield 45, 3) := by decide +kernel
theorem dX9_fillMemory_17 : decode cX9_fillMemory 17 = .ok (.getfield 354, 3) := by decide +kernel
theorem dX9_fillMemory_20 : decode cX9_fillMemory 20 = .ok (.ifCond .le 24, 3) := by decide +kernel
theorem dX9_fillMemory_23 : decode cX9_fillMemory 23 = .ok (.aload_n 0, 1) := by decide +kernel
theorem dX9_fillMemory_24 : decode cX9_fillMemory 24 = .ok (.getfield 63, 3) := by decide +kernel
theorem dX9_fillMemory_27 : decode cX9_fillMemory 27 = .ok (.aload_n 0, 1) := by decide +kernel
theorem dX9_fillMemory_28 : decode cX9_fillMemory 28 = .ok (.getfield 45, 3) := by decide +kernel
theorem dX9_fillMemory_31 : decode cX9_fillMemory 31 = .ok (.invokevirtual 357, 3) := by decide +kernel
theorem dX9_fillMemory_34 : decode cX9_fillMemory 34 = .ok (.iconst 0, 1) := by decide +kernel
theorem dX9_fillMemory_35 : decode cX9_fillMemory 35 = .ok (.invokevirtual 360, 3) := by decide +kernel
theorem dX9_fillMemory_38 : decode cX9_fillMemory 38 = .ok (.iinc 1 1, 3) := by decide +kernel
theorem dX9_fillMemory_41 : decode cX9_fillMemory 41 = .ok (.goto (-39), 3) := by decide +kernel
theorem dX9_fillMemory_44 : decode cX9_fillMemory 44 = .ok (.return_, 1) := by decide +kernel
set_option maxRecDepth 20000 in
theorem ggX9_loadRuns_X3_clear : GoodIn wsX9_loadRuns wsX3_clear := goodIn_r _ [8, 9, 183, 184, 185, 186, 187] (by decide +kernel) (by decide +kernel)
set_option maxRecDepth 20000 in
theorem gX9_loadRuns_X3_clear : GoodIn wsX9_loadRuns (wsV RX9 363 RX3 yX3_clear wsX3_clear) := goodIn_app (goodIn_of _ (by decide +kernel)) ggX9_loadRuns_X3_clear
set_option maxRecDepth 20000 in
theorem ggX9_loadRuns_X9_fillMemory : GoodIn wsX9_loadRuns wsX9_fillMemory := goodIn_r _ [14, 1, 2, 15, 16, 17, 18, 19, 20, 21, 22, 23, 24, 25, 26, 27, 28, 29, 30, 31, 32, 33, 34, 35, 36, 37, 38, 39, 40, 41, 42, 43, 44, 45, 46, 47, 48, 49, 50, 7, 51, 9, 52, 53, 54, 55, 56, 57, 58, 59, 60, 61, 62, 63, 64, 65, 66, 67, 68, 69, 70, 71, 72, 73, 74, 75, 76, 77, 78, 79, 80, 81, 82, 83, 84, 85, 161, 162, 163, 164, 165, 166, 167, 168, 169, 170, 171, 172, 173, 183, 184, 185, 186, 187, 174, 175, 176, 177, 178, 179, 180, 181, 182, 188, 189, 190, 191, 192, 193, 194, 195, 196, 197, 198, 199, 200, 201, 202, 203, 204, 205] (by decide +kernel) (by decide +kernel)
set_option maxRecDepth 20000 in
theorem gX9_loadRuns_X9_fillMemory : GoodIn wsX9_loadRuns (wsV RX9 366 RX9 yX9_fillMemory wsX9_fillMemory) := goodIn_app (goodIn_of _ (by decide +kernel)) ggX9_loadRuns_X9_fillMemory
set_option maxRecDepth 20000 in
theorem ggX9_loadRuns_X3_takeFirst : GoodIn wsX9_loadRuns wsX3_takeFirst := goodIn_r _ [89, 9, 52, 53, 54, 55, 56, 7, 57, 58, 59, 60, 61, 62, 63, 64, 65, 66, 67, 68, 69, 70, 71, 72, 73, 74, 75, 39, 76, 77, 78, 79, 80, 81, 82, 83, 84, 85, 183, 184, 185, 186, 187, 188, 189, 190, 191, 192, 193, 194, 195, 196, 197, 198, 199, 200, 201, 202, 203] (by decide +kernel) (by decide +kernel)
set_option maxRecDepth 20000 in
theorem gX9_loadRuns_X3_takeFirst : GoodIn wsX9_loadRuns (wsV RX9 370 RX3 yX3_takeFirst wsX3_takeFirst) := goodIn_app (goodIn_of _ (by decide +kernel)) ggX9_loadRuns_X3_takeFirst
set_option maxRecDepth 20000 in
theorem ggX9_loadRuns_X7_goOut : GoodIn wsX9_loadRuns wsX7_goOut := goodIn_r _ [94, 95, 96, 97, 98, 99, 100, 101, 102, 103, 104, 62, 105, 66, 67, 68, 69, 70, 65, 71, 72, 64, 73, 74, 75, 39, 76, 77, 106, 107, 108, 109, 93, 110, 111, 112, 113, 114, 115, 116, 117, 118, 119, 120, 121, 122, 123, 124, 125, 126, 127, 128, 129, 130, 131, 132, 133, 134, 135, 136, 42, 43, 44, 45, 46, 47, 137, 138, 139, 32, 140, 34, 35, 141, 142, 143, 144, 145, 146, 206, 207, 208, 209, 210, 211, 212, 213, 214, 215, 216, 217, 218, 188, 189, 190, 191, 192, 193, 194, 195, 196, 197, 198, 199, 200, 201, 202, 203, 204, 205, 219, 220, 221] (by decide +kernel) (by decide +kernel)
set_option maxRecDepth 20000 in
theorem gX9_loadRuns_X7_goOut : GoodIn wsX9_loadRuns (wsV RX9 373 RX7 yX7_goOut wsX7_goOut) := goodIn_app (goodIn_of _ (by decide +kernel)) ggX9_loadRuns_X7_goOut
set_option maxRecDepth 20000 in
theorem ggX9_loadRuns_X7_endRun : GoodIn wsX9_loadRuns wsX7_endRun := goodIn_r _ [150, 100, 123, 121, 115, 151, 111, 112, 113, 93, 114, 96, 97, 116, 117, 118, 119, 99, 101, 120, 122, 124, 125, 126, 39, 127, 128, 129, 130, 131, 132, 77, 133, 134, 135, 136, 42, 43, 44, 45, 46, 47, 137, 138, 139, 32, 140, 34, 35, 141, 142, 143, 144, 145, 146, 152, 153, 154, 155, 156, 157, 158, 159, 160, 206, 207, 208, 209, 210, 211, 212, 213, 214, 215, 216, 217, 218, 188, 189, 190, 191, 192, 193, 194, 195, 196, 197, 198, 199, 200, 201, 202, 203, 204, 205, 219, 220, 221] (by decide +kernel) (by decide +kernel)
set_option maxRecDepth 20000 in
theorem gX9_loadRuns_X7_endRun : GoodIn wsX9_loadRuns (wsV RX9 376 RX7 yX7_endRun wsX7_endRun) := goodIn_app (goodIn_of _ (by decide +kernel)) ggX9_loadRuns_X7_endRun
theorem dX9_loadRuns_0 : decode cX9_loadRuns 0 = .ok (.aload_n 0, 1) := by decide +kernel
theorem dX9_loadRuns_1 : decode cX9_loadRuns 1 = .ok (.getfield 63, 3) := by decide +kernel
theorem dX9_loadRuns_4 : decode cX9_loadRuns 4 = .ok (.invokevirtual 363, 3) := by decide +kernel
theorem dX9_loadRuns_7 : decode cX9_loadRuns 7 = .ok (.aload_n 0, 1) := by decide +kernel
theorem dX9_loadRuns_8 : decode cX9_loadRuns 8 = .ok (.getfield 45, 3) := by decide +kernel
theorem dX9_loadRuns_11 : decode cX9_loadRuns 11 = .ok (.getfield 354, 3) := by decide +kernel
theorem dX9_loadRuns_14 : decode cX9_loadRuns 14 = .ok (.istore_n 1, 1) := by decide +kernel
theorem dX9_loadRuns_15 : decode cX9_loadRuns 15 = .ok (.iload_n 1, 1) := by decide +kernel
theorem dX9_loadRuns_16 : decode cX9_loadRuns 16 = .ok (.ifCond .le 72, 3) := by decide +kernel
theorem dX9_loadRuns_19 : decode cX9_loadRuns 19 = .ok (.aload_n 0, 1) := by decide +kernel
theorem dX9_loadRuns_20 : decode cX9_loadRuns 20 = .ok (.getfield 45, 3) := by decide +kernel
theorem dX9_loadRuns_23 : decode cX9_loadRuns 23 = .ok (.getfield 354, 3) := by decide +kernel
theorem dX9_loadRuns_26 : decode cX9_loadRuns 26 = .ok (.ifCond .le 62, 3) := by decide +kernel
theorem dX9_loadRuns_29 : decode cX9_loadRuns 29 = .ok (.aload_n 0, 1) := by decide +kernel
theorem dX9_loadRuns_30 : decode cX9_loadRuns 30 = .ok (.invokevirtual 366, 3) := by decide +kernel
theorem dX9_loadRuns_33 : decode cX9_loadRuns 33 = .ok (.aload_n 0, 1) := by decide +kernel
theorem dX9_loadRuns_34 : decode cX9_loadRuns 34 = .ok (.getfield 63, 3) := by decide +kernel
theorem dX9_loadRuns_37 : decode cX9_loadRuns 37 = .ok (.getfield 369, 3) := by decide +kernel
theorem dX9_loadRuns_40 : decode cX9_loadRuns 40 = .ok (.istore_n 2, 1) := by decide +kernel
theorem dX9_loadRuns_41 : decode cX9_loadRuns 41 = .ok (.iload_n 2, 1) := by decide +kernel
theorem dX9_loadRuns_42 : decode cX9_loadRuns 42 = .ok (.ifCond .le 28, 3) := by decide +kernel
theorem dX9_loadRuns_45 : decode cX9_loadRuns 45 = .ok (.aload_n 0, 1) := by decide +kernel
theorem dX9_loadRuns_46 : decode cX9_loadRuns 46 = .ok (.getfield 54, 3) := by decide +kernel
theorem dX9_loadRuns_49 : decode cX9_loadRuns 49 = .ok (.aload_n 0, 1) := by decide +kernel
theorem dX9_loadRuns_50 : decode cX9_loadRuns 50 = .ok (.getfield 63, 3) := by decide +kernel
theorem dX9_loadRuns_53 : decode cX9_loadRuns 53 = .ok (.invokevirtual 370, 3) := by decide +kernel
theorem dX9_loadRuns_56 : decode cX9_loadRuns 56 = .ok (.invokevirtual 373, 3) := by decide +kernel
theorem dX9_loadRuns_59 : decode cX9_loadRuns 59 = .ok (.ifCond .ne 5, 3) := by decide +kernel
theorem dX9_loadRuns_62 : decode cX9_loadRuns 62 = .ok (.iconst 0, 1) := by decide +kernel
theorem dX9_loadRuns_63 : decode cX9_loadRuns 63 = .ok (.ireturn, 1) := by decide +kernel
theorem dX9_loadRuns_64 : decode cX9_loadRuns 64 = .ok (.iinc 2 (-1), 3) := by decide +kernel
theorem dX9_loadRuns_67 : decode cX9_loadRuns 67 = .ok (.goto (-26), 3) := by decide +kernel
theorem dX9_loadRuns_70 : decode cX9_loadRuns 70 = .ok (.aload_n 0, 1) := by decide +kernel
theorem dX9_loadRuns_71 : decode cX9_loadRuns 71 = .ok (.getfield 54, 3) := by decide +kernel
theorem dX9_loadRuns_74 : decode cX9_loadRuns 74 = .ok (.invokevirtual 376, 3) := by decide +kernel
theorem dX9_loadRuns_77 : decode cX9_loadRuns 77 = .ok (.ifCond .ne 5, 3) := by decide +kernel
theorem dX9_loadRuns_80 : decode cX9_loadRuns 80 = .ok (.iconst 0, 1) := by decide +kernel
theorem dX9_loadRuns_81 : decode cX9_loadRuns 81 = .ok (.ireturn, 1) := by decide +kernel
theorem dX9_loadRuns_82 : decode cX9_loadRuns 82 = .ok (.iinc 1 (-1), 3) := by decide +kernel
theorem dX9_loadRuns_85 : decode cX9_loadRuns 85 = .ok (.goto (-70), 3) := by decide +kernel
theorem dX9_loadRuns_88 : decode cX9_loadRuns 88 = .ok (.iconst 1, 1) := by decide +kernel
theorem dX9_loadRuns_89 : decode cX9_loadRuns 89 = .ok (.ireturn, 1) := by decide +kernel
set_option maxRecDepth 20000 in
theorem ggX9_chooseRuns_X3_clear : GoodIn wsX9_chooseRuns wsX3_clear := goodIn_r _ [9, 10, 189, 190, 191, 192, 193] (by decide +kernel) (by decide +kernel)
set_option maxRecDepth 20000 in
theorem gX9_chooseRuns_X3_clear : GoodIn wsX9_chooseRuns (wsV RX9 363 RX3 yX3_clear wsX3_clear) := goodIn_app (goodIn_of _ (by decide +kernel)) ggX9_chooseRuns_X3_clear
set_option maxRecDepth 20000 in
theorem ggX9_chooseRuns_X9_fillMemory : GoodIn wsX9_chooseRuns wsX9_fillMemory := goodIn_r _ [15, 1, 2, 16, 17, 18, 19, 20, 21, 22, 23, 24, 25, 26, 27, 28, 29, 30, 31, 32, 33, 34, 35, 36, 37, 38, 39, 40, 41, 42, 43, 44, 45, 46, 47, 48, 49, 50, 51, 8, 52, 10, 53, 54, 55, 56, 57, 58, 59, 60, 61, 62, 63, 64, 65, 66, 67, 68, 69, 70, 71, 72, 73, 74, 75, 76, 77, 78, 79, 80, 81, 82, 83, 84, 85, 86, 167, 168, 169, 170, 171, 172, 173, 174, 175, 176, 177, 178, 179, 189, 190, 191, 192, 193, 180, 181, 182, 183, 184, 185, 186, 187, 188, 194, 195, 196, 197, 198, 199, 200, 201, 202, 203, 204, 205, 206, 207, 208, 209, 210, 211] (by decide +kernel) (by decide +kernel)
set_option maxRecDepth 20000 in
theorem gX9_chooseRuns_X9_fillMemory : GoodIn wsX9_chooseRuns (wsV RX9 366 RX9 yX9_fillMemory wsX9_fillMemory) := goodIn_app (goodIn_of _ (by decide +kernel)) ggX9_chooseRuns_X9_fillMemory
set_option maxRecDepth 20000 in
theorem ggX9_chooseRuns_X3_firstTurn : GoodIn wsX9_chooseRuns wsX3_firstTurn := goodIn_r _ [90, 10, 54, 189, 190, 191, 192, 193] (by decide +kernel) (by decide +kernel)
set_option maxRecDepth 20000 in
theorem gX9_chooseRuns_X3_firstTurn : GoodIn wsX9_chooseRuns (wsV RX9 379 RX3 yX3_firstTurn wsX3_firstTurn) := goodIn_app (goodIn_of _ (by decide +kernel)) ggX9_chooseRuns_X3_firstTurn
set_option maxRecDepth 20000 in
theorem ggX9_chooseRuns_X7_endRun : GoodIn wsX9_chooseRuns wsX7_endRun := goodIn_r _ [95, 96, 97, 98, 99, 100, 101, 102, 103, 94, 104, 105, 106, 107, 108, 109, 110, 111, 112, 113, 114, 115, 116, 117, 40, 118, 119, 120, 121, 122, 123, 78, 124, 125, 126, 127, 43, 44, 45, 46, 47, 48, 128, 129, 130, 33, 131, 35, 36, 132, 133, 134, 135, 136, 137, 138, 139, 140, 141, 142, 143, 144, 145, 146, 212, 213, 214, 215, 216, 217, 218, 219, 220, 221, 222, 223, 224, 194, 195, 196, 197, 198, 199, 200, 201, 202, 203, 204, 205, 206, 207, 208, 209, 210, 211, 225, 226, 227] (by decide +kernel) (by decide +kernel)
set_option maxRecDepth 20000 in
theorem gX9_chooseRuns_X7_endRun : GoodIn wsX9_chooseRuns (wsV RX9 376 RX7 yX7_endRun wsX7_endRun) := goodIn_app (goodIn_of _ (by decide +kernel)) ggX9_chooseRuns_X7_endRun
set_option maxRecDepth 20000 in
theorem ggX9_chooseRuns_X3_takeFirst : GoodIn wsX9_chooseRuns wsX3_takeFirst := goodIn_r _ [150, 10, 53, 54, 55, 56, 57, 8, 58, 59, 60, 61, 62, 63, 64, 65, 66, 67, 68, 69, 70, 71, 72, 73, 74, 75, 76, 40, 77, 78, 79, 80, 81, 82, 83, 84, 85, 86, 189, 190, 191, 192, 193, 194, 195, 196, 197, 198, 199, 200, 201, 202, 203, 204, 205, 206, 207, 208, 209] (by decide +kernel) (by decide +kernel)
set_option maxRecDepth 20000 in
theorem gX9_chooseRuns_X3_takeFirst : GoodIn wsX9_chooseRuns (wsV RX9 370 RX3 yX3_takeFirst wsX3_takeFirst) := goodIn_app (goodIn_of _ (by decide +kernel)) ggX9_chooseRuns_X3_takeFirst
set_option maxRecDepth 20000 in
theorem ggX9_chooseRuns_X7_goOut : GoodIn wsX9_chooseRuns wsX7_goOut := goodIn_r _ [154, 155, 105, 106, 156, 111, 96, 112, 157, 158, 159, 63, 160, 67, 68, 69, 70, 71, 66, 72, 73, 65, 74, 75, 76, 40, 77, 78, 161, 162, 163, 164, 94, 165, 101, 102, 103, 104, 99, 107, 108, 109, 110, 113, 98, 114, 97, 115, 116, 117, 118, 119, 120, 121, 122, 123, 124, 125, 126, 127, 43, 44, 45, 46, 47, 48, 128, 129, 130, 33, 131, 35, 36, 132, 133, 134, 135, 136, 137, 212, 213, 214, 215, 216, 217, 218, 219, 220, 221, 222, 223, 224, 194, 195, 196, 197, 198, 199, 200, 201, 202, 203, 204, 205, 206, 207, 208, 209, 210, 211, 225, 226, 227] (by decide +kernel) (by decide +kernel)
set_option maxRecDepth 20000 in
theorem gX9_chooseRuns_X7_goOut : GoodIn wsX9_chooseRuns (wsV RX9 373 RX7 yX7_goOut wsX7_goOut) := goodIn_app (goodIn_of _ (by decide +kernel)) ggX9_chooseRuns_X7_goOut
set_option maxRecDepth 20000 in
theorem ggX9_chooseRuns_X2_next : GoodIn wsX9_chooseRuns wsX2_next := goodIn_r _ [20, 21, 22, 23, 24, 25, 26, 27, 28, 29, 30, 31, 32, 33, 34, 35, 36, 37, 38, 39, 40, 41, 42, 43, 44, 45, 46, 47, 48, 180, 181, 182, 183, 184, 185, 186, 187, 188, 194, 195, 196, 197, 198, 199, 200, 201, 202, 203, 204, 205, 206, 207, 208, 209, 210, 211] (by decide +kernel) (by decide +kernel)
set_option maxRecDepth 20000 in
theorem gX9_chooseRuns_X2_next : GoodIn wsX9_chooseRuns (wsV RX9 357 RX2 yX2_next wsX2_next) := goodIn_app (goodIn_of _ (by decide +kernel)) ggX9_chooseRuns_X2_next
set_option maxRecDepth 20000 in
theorem ggX9_chooseRuns_X5_isBefore : GoodIn wsX9_chooseRuns wsX5_isBefore := goodIn_r _ [64, 65, 66, 67, 68, 69, 63, 70, 71, 72, 73, 74, 75, 76, 40, 77, 78, 194, 195, 196, 197, 198, 199, 200, 201, 202, 203, 204, 205, 206, 207, 208, 209] (by decide +kernel) (by decide +kernel)
set_option maxRecDepth 20000 in
theorem gX9_chooseRuns_X5_isBefore : GoodIn wsX9_chooseRuns (wsV RX9 382 RX5 yX5_isBefore wsX5_isBefore) := goodIn_app (goodIn_of _ (by decide +kernel)) ggX9_chooseRuns_X5_isBefore
set_option maxRecDepth 20000 in
theorem ggX9_chooseRuns_X3_add : GoodIn wsX9_chooseRuns wsX3_add := goodIn_r _ [52, 10, 53, 54, 55, 56, 57, 8, 58, 59, 60, 61, 62, 63, 64, 65, 66, 67, 68, 69, 70, 71, 72, 73, 74, 75, 76, 40, 77, 78, 79, 80, 81, 82, 83, 84, 85, 86, 189, 190, 191, 192, 193, 194, 195, 196, 197, 198, 199, 200, 201, 202, 203, 204, 205, 206, 207, 208, 209] (by decide +kernel) (by decide +kernel)
set_option maxRecDepth 20000 in
theorem gX9_chooseRuns_X3_add : GoodIn wsX9_chooseRuns (wsV RX9 360 RX3 yX3_add wsX3_add) := goodIn_app (goodIn_of _ (by decide +kernel)) ggX9_chooseRuns_X3_add
theorem dX9_chooseRuns_0 : decode cX9_chooseRuns 0 = .ok (.aload_n 0, 1) := by decide +kernel
theorem dX9_chooseRuns_1 : decode cX9_chooseRuns 1 = .ok (.getfield 63, 3) := by decide +kernel
theorem dX9_chooseRuns_4 : decode cX9_chooseRuns 4 = .ok (.invokevirtual 363, 3) := by decide +kernel
theorem dX9_chooseRuns_7 : decode cX9_chooseRuns 7 = .ok (.iconst 0, 1) := by decide +kernel
theorem dX9_chooseRuns_8 : decode cX9_chooseRuns 8 = .ok (.istore_n 1, 1) := by decide +kernel
theorem dX9_chooseRuns_9 : decode cX9_chooseRuns 9 = .ok (.aload_n 0, 1) := by decide +kernel
theorem dX9_chooseRuns_10 : decode cX9_chooseRuns 10 = .ok (.getfield 45, 3) := by decide +kernel
theorem dX9_chooseRuns_13 : decode cX9_chooseRuns 13 = .ok (.getfield 354, 3) := by decide +kernel
theorem dX9_chooseRuns_16 : decode cX9_chooseRuns 16 = .ok (.istore_n 2, 1) := by decide +kernel
theorem dX9_chooseRuns_17 : decode cX9_chooseRuns 17 = .ok (.aload_n 0, 1) := by decide +kernel
theorem dX9_chooseRuns_18 : decode cX9_chooseRuns 18 = .ok (.invokevirtual 366, 3) := by decide +kernel
theorem dX9_chooseRuns_21 : decode cX9_chooseRuns 21 = .ok (.iload_n 2, 1) := by decide +kernel
theorem dX9_chooseRuns_22 : decode cX9_chooseRuns 22 = .ok (.istore_n 3, 1) := by decide +kernel
theorem dX9_chooseRuns_23 : decode cX9_chooseRuns 23 = .ok (.iload_n 3, 1) := by decide +kernel
theorem dX9_chooseRuns_24 : decode cX9_chooseRuns 24 = .ok (.ifCond .le 112, 3) := by decide +kernel
theorem dX9_chooseRuns_27 : decode cX9_chooseRuns 27 = .ok (.aload_n 0, 1) := by decide +kernel
theorem dX9_chooseRuns_28 : decode cX9_chooseRuns 28 = .ok (.getfield 63, 3) := by decide +kernel
theorem dX9_chooseRuns_31 : decode cX9_chooseRuns 31 = .ok (.invokevirtual 379, 3) := by decide +kernel
theorem dX9_chooseRuns_34 : decode cX9_chooseRuns 34 = .ok (.iload_n 1, 1) := by decide +kernel
theorem dX9_chooseRuns_35 : decode cX9_chooseRuns 35 = .ok (.if_icmp .eq 23, 3) := by decide +kernel
theorem dX9_chooseRuns_38 : decode cX9_chooseRuns 38 = .ok (.aload_n 0, 1) := by decide +kernel
theorem dX9_chooseRuns_39 : decode cX9_chooseRuns 39 = .ok (.getfield 54, 3) := by decide +kernel
theorem dX9_chooseRuns_42 : decode cX9_chooseRuns 42 = .ok (.invokevirtual 376, 3) := by decide +kernel
theorem dX9_chooseRuns_45 : decode cX9_chooseRuns 45 = .ok (.ifCond .ne 5, 3) := by decide +kernel
theorem dX9_chooseRuns_48 : decode cX9_chooseRuns 48 = .ok (.iconst 0, 1) := by decide +kernel
theorem dX9_chooseRuns_49 : decode cX9_chooseRuns 49 = .ok (.ireturn, 1) := by decide +kernel
theorem dX9_chooseRuns_50 : decode cX9_chooseRuns 50 = .ok (.aload_n 0, 1) := by decide +kernel
theorem dX9_chooseRuns_51 : decode cX9_chooseRuns 51 = .ok (.getfield 63, 3) := by decide +kernel
theorem dX9_chooseRuns_54 : decode cX9_chooseRuns 54 = .ok (.invokevirtual 379, 3) := by decide +kernel
theorem dX9_chooseRuns_57 : decode cX9_chooseRuns 57 = .ok (.istore_n 1, 1) := by decide +kernel
theorem dX9_chooseRuns_58 : decode cX9_chooseRuns 58 = .ok (.aload_n 0, 1) := by decide +kernel
theorem dX9_chooseRuns_59 : decode cX9_chooseRuns 59 = .ok (.getfield 63, 3) := by decide +kernel
theorem dX9_chooseRuns_62 : decode cX9_chooseRuns 62 = .ok (.invokevirtual 370, 3) := by decide +kernel
theorem dX9_chooseRuns_65 : decode cX9_chooseRuns 65 = .ok (.istore 4, 2) := by decide +kernel
theorem dX9_chooseRuns_67 : decode cX9_chooseRuns 67 = .ok (.aload_n 0, 1) := by decide +kernel
theorem dX9_chooseRuns_68 : decode cX9_chooseRuns 68 = .ok (.getfield 54, 3) := by decide +kernel
theorem dX9_chooseRuns_71 : decode cX9_chooseRuns 71 = .ok (.iload 4, 2) := by decide +kernel
theorem dX9_chooseRuns_73 : decode cX9_chooseRuns 73 = .ok (.invokevirtual 373, 3) := by decide +kernel
theorem dX9_chooseRuns_76 : decode cX9_chooseRuns 76 = .ok (.ifCond .ne 5, 3) := by decide +kernel
theorem dX9_chooseRuns_79 : decode cX9_chooseRuns 79 = .ok (.iconst 0, 1) := by decide +kernel
theorem dX9_chooseRuns_80 : decode cX9_chooseRuns 80 = .ok (.ireturn, 1) := by decide +kernel
theorem dX9_chooseRuns_81 : decode cX9_chooseRuns 81 = .ok (.aload_n 0, 1) := by decide +kernel
theorem dX9_chooseRuns_82 : decode cX9_chooseRuns 82 = .ok (.getfield 45, 3) := by decide +kernel
theorem dX9_chooseRuns_85 : decode cX9_chooseRuns 85 = .ok (.getfield 354, 3) := by decide +kernel
theorem dX9_chooseRuns_88 : decode cX9_chooseRuns 88 = .ok (.ifCond .le 42, 3) := by decide +kernel
theorem dX9_chooseRuns_91 : decode cX9_chooseRuns 91 = .ok (.aload_n 0, 1) := by decide +kernel
theorem dX9_chooseRuns_92 : decode cX9_chooseRuns 92 = .ok (.getfield 45, 3) := by decide +kernel
theorem dX9_chooseRuns_95 : decode cX9_chooseRuns 95 = .ok (.invokevirtual 357, 3) := by decide +kernel
theorem dX9_chooseRuns_98 : decode cX9_chooseRuns 98 = .ok (.istore 5, 2) := by decide +kernel
theorem dX9_chooseRuns_100 : decode cX9_chooseRuns 100 = .ok (.aload_n 0, 1) := by decide +kernel
theorem dX9_chooseRuns_101 : decode cX9_chooseRuns 101 = .ok (.getfield 63, 3) := by decide +kernel
theorem dX9_chooseRuns_104 : decode cX9_chooseRuns 104 = .ok (.iload 5, 2) := by decide +kernel
theorem dX9_chooseRuns_106 : decode cX9_chooseRuns 106 = .ok (.aload_n 0, 1) := by decide +kernel
theorem dX9_chooseRuns_107 : decode cX9_chooseRuns 107 = .ok (.getfield 27, 3) := by decide +kernel
theorem dX9_chooseRuns_110 : decode cX9_chooseRuns 110 = .ok (.iload 5, 2) := by decide +kernel
theorem dX9_chooseRuns_112 : decode cX9_chooseRuns 112 = .ok (.iload 4, 2) := by decide +kernel
theorem dX9_chooseRuns_114 : decode cX9_chooseRuns 114 = .ok (.invokevirtual 382, 3) := by decide +kernel
theorem dX9_chooseRuns_117 : decode cX9_chooseRuns 117 = .ok (.ifCond .eq 9, 3) := by decide +kernel
theorem dX9_chooseRuns_120 : decode cX9_chooseRuns 120 = .ok (.iload_n 1, 1) := by decide +kernel
theorem dX9_chooseRuns_121 : decode cX9_chooseRuns 121 = .ok (.iconst 1, 1) := by decide +kernel
theorem dX9_chooseRuns_122 : decode cX9_chooseRuns 122 = .ok (.iadd, 1) := by decide +kernel
theorem dX9_chooseRuns_123 : decode cX9_chooseRuns 123 = .ok (.goto 4, 3) := by decide +kernel
theorem dX9_chooseRuns_126 : decode cX9_chooseRuns 126 = .ok (.iload_n 1, 1) := by decide +kernel
theorem dX9_chooseRuns_127 : decode cX9_chooseRuns 127 = .ok (.invokevirtual 360, 3) := by decide +kernel
theorem dX9_chooseRuns_130 : decode cX9_chooseRuns 130 = .ok (.iinc 3 (-1), 3) := by decide +kernel
theorem dX9_chooseRuns_133 : decode cX9_chooseRuns 133 = .ok (.goto (-110), 3) := by decide +kernel
theorem dX9_chooseRuns_136 : decode cX9_chooseRuns 136 = .ok (.aload_n 0, 1) := by decide +kernel
theorem dX9_chooseRuns_137 : decode cX9_chooseRuns 137 = .ok (.getfield 54, 3) := by decide +kernel
theorem dX9_chooseRuns_140 : decode cX9_chooseRuns 140 = .ok (.invokevirtual 376, 3) := by decide +kernel
theorem dX9_chooseRuns_143 : decode cX9_chooseRuns 143 = .ok (.ireturn, 1) := by decide +kernel
set_option maxRecDepth 20000 in
theorem ggX9_copyRuns_X2_next : GoodIn wsX9_copyRuns wsX2_next := goodIn_r _ [8, 9, 10, 11, 12, 13, 14, 15, 16, 17, 18, 19, 20, 21, 22, 23, 24, 25, 26, 27, 28, 29, 30, 31, 32, 33, 34, 35, 36, 140, 141, 142, 143, 144, 145, 146, 147, 148, 149, 150, 151, 152, 153, 154, 155, 156, 157, 158, 159, 160, 161, 162, 163, 164, 165, 166] (by decide +kernel) (by decide +kernel)
set_option maxRecDepth 20000 in
theorem gX9_copyRuns_X2_next : GoodIn wsX9_copyRuns (wsV RX9 357 RX2 yX2_next wsX2_next) := goodIn_app (goodIn_of _ (by decide +kernel)) ggX9_copyRuns_X2_next
set_option maxRecDepth 20000 in
theorem ggX9_copyRuns_X5_isBefore : GoodIn wsX9_copyRuns wsX5_isBefore := goodIn_r _ [41, 42, 43, 44, 45, 46, 40, 47, 48, 49, 50, 51, 52, 53, 28, 54, 55, 149, 150, 151, 152, 153, 154, 155, 156, 157, 158, 159, 160, 161, 162, 163, 164] (by decide +kernel) (by decide +kernel)
set_option maxRecDepth 20000 in
theorem gX9_copyRuns_X5_isBefore : GoodIn wsX9_copyRuns (wsV RX9 382 RX5 yX5_isBefore wsX5_isBefore) := goodIn_app (goodIn_of _ (by decide +kernel)) ggX9_copyRuns_X5_isBefore
set_option maxRecDepth 20000 in
theorem ggX9_copyRuns_X7_endRun : GoodIn wsX9_copyRuns wsX7_endRun := goodIn_r _ [60, 61, 62, 63, 64, 65, 66, 67, 68, 59, 69, 70, 71, 72, 73, 74, 75, 76, 77, 78, 79, 80, 81, 82, 28, 83, 84, 85, 86, 87, 88, 55, 89, 90, 91, 92, 31, 32, 33, 34, 35, 36, 93, 94, 95, 21, 96, 23, 24, 97, 98, 99, 100, 101, 102, 103, 104, 105, 106, 107, 108, 109, 110, 111, 167, 168, 169, 170, 171, 172, 173, 174, 175, 176, 177, 178, 179, 149, 150, 151, 152, 153, 154, 155, 156, 157, 158, 159, 160, 161, 162, 163, 164, 165, 166, 180, 181, 182] (by decide +kernel) (by decide +kernel)
set_option maxRecDepth 20000 in
theorem gX9_copyRuns_X7_endRun : GoodIn wsX9_copyRuns (wsV RX9 376 RX7 yX7_endRun wsX7_endRun) := goodIn_app (goodIn_of _ (by decide +kernel)) ggX9_copyRuns_X7_endRun
set_option maxRecDepth 20000 in
theorem ggX9_copyRuns_X7_goOut : GoodIn wsX9_copyRuns wsX7_goOut := goodIn_r _ [115, 116, 70, 71, 117, 76, 61, 77, 118, 119, 120, 40, 121, 44, 45, 46, 47, 48, 43, 49, 50, 42, 51, 52, 53, 28, 54, 55, 122, 123, 124, 125, 59, 126, 66, 67, 68, 69, 64, 72, 73, 74, 75, 78, 63, 79, 62, 80, 81, 82, 83, 84, 85, 86, 87, 88, 89, 90, 91, 92, 31, 32, 33, 34, 35, 36, 93, 94, 95, 21, 96, 23, 24, 97, 98, 99, 100, 101, 102, 167, 168, 169, 170, 171, 172, 173, 174, 175, 176, 177, 178, 179, 149, 150, 151, 152, 153, 154, 155, 156, 157, 158, 159, 160, 161, 162, 163, 164, 165, 166, 180, 181, 182] (by decide +kernel) (by decide +kernel)
set_option maxRecDepth 20000 in
theorem gX9_copyRuns_X7_goOut : GoodIn wsX9_copyRuns (wsV RX9 373 RX7 yX7_goOut wsX7_goOut) := goodIn_app (goodIn_of _ (by decide +kernel)) ggX9_copyRuns_X7_goOut
theorem dX9_copyRuns_0 : decode cX9_copyRuns 0 = .ok (.iconst (-1), 1) := by decide +kernel
theorem dX9_copyRuns_1 : decode cX9_copyRuns 1 = .ok (.istore_n 1, 1) := by decide +kernel
theorem dX9_copyRuns_2 : decode cX9_copyRuns 2 = .ok (.aload_n 0, 1) := by decide +kernel
theorem dX9_copyRuns_3 : decode cX9_copyRuns 3 = .ok (.getfield 45, 3) := by decide +kernel
theorem dX9_copyRuns_6 : decode cX9_copyRuns 6 = .ok (.getfield 354, 3) := by decide +kernel
theorem dX9_copyRuns_9 : decode cX9_copyRuns 9 = .ok (.istore_n 2, 1) := by decide +kernel
theorem dX9_copyRuns_10 : decode cX9_copyRuns 10 = .ok (.iload_n 2, 1) := by decide +kernel
theorem dX9_copyRuns_11 : decode cX9_copyRuns 11 = .ok (.ifCond .le 61, 3) := by decide +kernel
theorem dX9_copyRuns_14 : decode cX9_copyRuns 14 = .ok (.aload_n 0, 1) := by decide +kernel
theorem dX9_copyRuns_15 : decode cX9_copyRuns 15 = .ok (.getfield 45, 3) := by decide +kernel
theorem dX9_copyRuns_18 : decode cX9_copyRuns 18 = .ok (.invokevirtual 357, 3) := by decide +kernel
theorem dX9_copyRuns_21 : decode cX9_copyRuns 21 = .ok (.istore_n 3, 1) := by decide +kernel
theorem dX9_copyRuns_22 : decode cX9_copyRuns 22 = .ok (.iload_n 1, 1) := by decide +kernel
theorem dX9_copyRuns_23 : decode cX9_copyRuns 23 = .ok (.iconst (-1), 1) := by decide +kernel
theorem dX9_copyRuns_24 : decode cX9_copyRuns 24 = .ok (.if_icmp .eq 27, 3) := by decide +kernel
theorem dX9_copyRuns_27 : decode cX9_copyRuns 27 = .ok (.aload_n 0, 1) := by decide +kernel
theorem dX9_copyRuns_28 : decode cX9_copyRuns 28 = .ok (.getfield 27, 3) := by decide +kernel
theorem dX9_copyRuns_31 : decode cX9_copyRuns 31 = .ok (.iload_n 3, 1) := by decide +kernel
theorem dX9_copyRuns_32 : decode cX9_copyRuns 32 = .ok (.iload_n 1, 1) := by decide +kernel
theorem dX9_copyRuns_33 : decode cX9_copyRuns 33 = .ok (.invokevirtual 382, 3) := by decide +kernel
theorem dX9_copyRuns_36 : decode cX9_copyRuns 36 = .ok (.ifCond .eq 15, 3) := by decide +kernel
theorem dX9_copyRuns_39 : decode cX9_copyRuns 39 = .ok (.aload_n 0, 1) := by decide +kernel
theorem dX9_copyRuns_40 : decode cX9_copyRuns 40 = .ok (.getfield 54, 3) := by decide +kernel
theorem dX9_copyRuns_43 : decode cX9_copyRuns 43 = .ok (.invokevirtual 376, 3) := by decide +kernel
theorem dX9_copyRuns_46 : decode cX9_copyRuns 46 = .ok (.ifCond .ne 5, 3) := by decide +kernel
theorem dX9_copyRuns_49 : decode cX9_copyRuns 49 = .ok (.iconst 0, 1) := by decide +kernel
theorem dX9_copyRuns_50 : decode cX9_copyRuns 50 = .ok (.ireturn, 1) := by decide +kernel
theorem dX9_copyRuns_51 : decode cX9_copyRuns 51 = .ok (.aload_n 0, 1) := by decide +kernel
theorem dX9_copyRuns_52 : decode cX9_copyRuns 52 = .ok (.getfield 54, 3) := by decide +kernel
theorem dX9_copyRuns_55 : decode cX9_copyRuns 55 = .ok (.iload_n 3, 1) := by decide +kernel
theorem dX9_copyRuns_56 : decode cX9_copyRuns 56 = .ok (.invokevirtual 373, 3) := by decide +kernel
theorem dX9_copyRuns_59 : decode cX9_copyRuns 59 = .ok (.ifCond .ne 5, 3) := by decide +kernel
theorem dX9_copyRuns_62 : decode cX9_copyRuns 62 = .ok (.iconst 0, 1) := by decide +kernel
theorem dX9_copyRuns_63 : decode cX9_copyRuns 63 = .ok (.ireturn, 1) := by decide +kernel
theorem dX9_copyRuns_64 : decode cX9_copyRuns 64 = .ok (.iload_n 3, 1) := by decide +kernel
theorem dX9_copyRuns_65 : decode cX9_copyRuns 65 = .ok (.istore_n 1, 1) := by decide +kernel
theorem dX9_copyRuns_66 : decode cX9_copyRuns 66 = .ok (.iinc 2 (-1), 3) := by decide +kernel
theorem dX9_copyRuns_69 : decode cX9_copyRuns 69 = .ok (.goto (-59), 3) := by decide +kernel
theorem dX9_copyRuns_72 : decode cX9_copyRuns 72 = .ok (.aload_n 0, 1) := by decide +kernel
theorem dX9_copyRuns_73 : decode cX9_copyRuns 73 = .ok (.getfield 54, 3) := by decide +kernel
theorem dX9_copyRuns_76 : decode cX9_copyRuns 76 = .ok (.invokevirtual 376, 3) := by decide +kernel
theorem dX9_copyRuns_79 : decode cX9_copyRuns 79 = .ok (.ireturn, 1) := by decide +kernel
set_option maxRecDepth 20000 in
theorem ggX9_mergeInGroups_X6_size : GoodIn wsX9_mergeInGroups wsX6_size := goodIn_r _ [12, 13, 223, 224] (by decide +kernel) (by decide +kernel)
set_option maxRecDepth 20000 in
theorem gX9_mergeInGroups_X6_size : GoodIn wsX9_mergeInGroups (wsV RX9 114 RX6 yX6_size wsX6_size) := goodIn_app (goodIn_of _ (by decide +kernel)) ggX9_mergeInGroups_X6_size
set_option maxRecDepth 20000 in
theorem ggX9_mergeInGroups_X6_clear : GoodIn wsX9_mergeInGroups wsX6_clear := goodIn_r _ [17, 13, 223, 224] (by decide +kernel) (by decide +kernel)
set_option maxRecDepth 20000 in
theorem gX9_mergeInGroups_X6_clear : GoodIn wsX9_mergeInGroups (wsV RX9 389 RX6 yX6_clear wsX6_clear) := goodIn_app (goodIn_of _ (by decide +kernel)) ggX9_mergeInGroups_X6_clear
set_option maxRecDepth 20000 in
theorem ggX9_mergeInGroups_X6_get : GoodIn wsX9_mergeInGroups wsX6_get := goodIn_r _ [21, 13, 22, 223, 224] (by decide +kernel) (by decide +kernel)
set_option maxRecDepth 20000 in
theorem gX9_mergeInGroups_X6_get : GoodIn wsX9_mergeInGroups (wsV RX9 238 RX6 yX6_get wsX6_get) := goodIn_app (goodIn_of _ (by decide +kernel)) ggX9_mergeInGroups_X6_get
set_option maxRecDepth 20000 in
theorem ggX9_mergeInGroups_X6_add : GoodIn wsX9_mergeInGroups wsX6_add := goodIn_r _ [26, 13, 22, 223, 224] (by decide +kernel) (by decide +kernel)
set_option maxRecDepth 20000 in
theorem gX9_mergeInGroups_X6_add : GoodIn wsX9_mergeInGroups (wsV RX9 390 RX6 yX6_add wsX6_add) := goodIn_app (goodIn_of _ (by decide +kernel)) ggX9_mergeInGroups_X6_add
set_option maxRecDepth 20000 in
theorem ggX9_mergeInGroups_X4_merge : GoodIn wsX9_mergeInGroups wsX4_merge := goodIn_r _ [31, 32, 33, 34, 35, 36, 37, 38, 39, 40, 41, 42, 43, 44, 45, 46, 47, 48, 49, 50, 51, 52, 53, 54, 55, 56, 57, 58, 15, 16, 11, 17, 13, 59, 60, 61, 62, 63, 64, 65, 66, 67, 68, 69, 70, 30, 71, 72, 73, 74, 75, 9, 10, 12, 76, 19, 20, 21, 22, 77, 78, 79, 80, 81, 82, 83, 84, 85, 86, 87, 88, 89, 90, 91, 92, 93, 94, 95, 96, 97, 98, 99, 100, 101, 102, 103, 104, 105, 106, 107, 108, 109, 110, 111, 112, 113, 114, 115, 116, 117, 118, 119, 120, 121, 122, 123, 124, 125, 126, 127, 128, 129, 130, 131, 132, 133, 134, 135, 136, 137, 138, 139, 140, 141, 142, 143, 144, 145, 146, 147, 148, 149, 150, 151, 152, 24, 25, 26, 153, 154, 155, 156, 157, 158, 159, 160, 161, 162, 163, 4, 164, 165, 166, 167, 168, 169, 170, 171, 172, 173, 174, 175, 176, 177, 178, 179, 180, 181, 182, 183, 184, 185, 186, 187, 188, 189, 190, 191, 192, 193, 215, 216, 217, 218, 219, 220, 221, 222, 225, 226, 227, 228, 229, 230, 231, 232, 233, 234, 235, 236, 237, 238, 239, 240, 241, 242, 243, 244, 223, 224, 245, 246, 247, 248, 249, 250, 251, 252, 253, 254, 255, 256] (by decide +kernel) (by decide +kernel)
set_option maxRecDepth 20000 in
theorem gX9_mergeInGroups_X4_merge : GoodIn wsX9_mergeInGroups (wsV RX9 392 RX4 yX4_merge wsX4_merge) := goodIn_app (goodIn_of _ (by decide +kernel)) ggX9_mergeInGroups_X4_merge
set_option maxRecDepth 20000 in
theorem ggX9_mergeInGroups_X6_set : GoodIn wsX9_mergeInGroups wsX6_set := goodIn_r _ [197, 13, 22, 223, 224] (by decide +kernel) (by decide +kernel)
set_option maxRecDepth 20000 in
theorem gX9_mergeInGroups_X6_set : GoodIn wsX9_mergeInGroups (wsV RX9 395 RX6 yX6_set wsX6_set) := goodIn_app (goodIn_of _ (by decide +kernel)) ggX9_mergeInGroups_X6_set
set_option maxRecDepth 20000 in
theorem ggX9_mergeInGroups_X6_removeAt : GoodIn wsX9_mergeInGroups wsX6_removeAt := goodIn_r _ [201, 13, 22, 223, 224] (by decide +kernel) (by decide +kernel)
set_option maxRecDepth 20000 in
theorem gX9_mergeInGroups_X6_removeAt : GoodIn wsX9_mergeInGroups (wsV RX9 281 RX6 yX6_removeAt wsX6_removeAt) := goodIn_app (goodIn_of _ (by decide +kernel)) ggX9_mergeInGroups_X6_removeAt
theorem dX9_mergeInGroups_0 : decode cX9_mergeInGroups 0 = .ok (.iconst 0, 1) := by decide +kernel
theorem dX9_mergeInGroups_1 : decode cX9_mergeInGroups 1 = .ok (.istore_n 2, 1) := by decide +kernel
theorem dX9_mergeInGroups_2 : decode cX9_mergeInGroups 2 = .ok (.iload_n 2, 1) := by decide +kernel
theorem dX9_mergeInGroups_3 : decode cX9_mergeInGroups 3 = .ok (.aload_n 0, 1) := by decide +kernel
theorem dX9_mergeInGroups_4 : decode cX9_mergeInGroups 4 = .ok (.getfield 88, 3) := by decide +kernel
theorem dX9_mergeInGroups_7 : decode cX9_mergeInGroups 7 = .ok (.invokevirtual 114, 3) := by decide +kernel
theorem dX9_mergeInGroups_10 : decode cX9_mergeInGroups 10 = .ok (.if_icmp .ge 132, 3) := by decide +kernel
theorem dX9_mergeInGroups_13 : decode cX9_mergeInGroups 13 = .ok (.iload_n 1, 1) := by decide +kernel
theorem dX9_mergeInGroups_14 : decode cX9_mergeInGroups 14 = .ok (.aload_n 0, 1) := by decide +kernel
theorem dX9_mergeInGroups_15 : decode cX9_mergeInGroups 15 = .ok (.getfield 88, 3) := by decide +kernel
theorem dX9_mergeInGroups_18 : decode cX9_mergeInGroups 18 = .ok (.invokevirtual 114, 3) := by decide +kernel
theorem dX9_mergeInGroups_21 : decode cX9_mergeInGroups 21 = .ok (.iload_n 2, 1) := by decide +kernel
theorem dX9_mergeInGroups_22 : decode cX9_mergeInGroups 22 = .ok (.isub, 1) := by decide +kernel
theorem dX9_mergeInGroups_23 : decode cX9_mergeInGroups 23 = .ok (.invokestatic 232, 3) := by decide +kernel
theorem dX9_mergeInGroups_26 : decode cX9_mergeInGroups 26 = .ok (.istore_n 3, 1) := by decide +kernel
theorem dX9_mergeInGroups_27 : decode cX9_mergeInGroups 27 = .ok (.iload_n 3, 1) := by decide +kernel
theorem dX9_mergeInGroups_28 : decode cX9_mergeInGroups 28 = .ok (.iconst 1, 1) := by decide +kernel
theorem dX9_mergeInGroups_29 : decode cX9_mergeInGroups 29 = .ok (.if_icmp .le 107, 3) := by decide +kernel
theorem dX9_mergeInGroups_32 : decode cX9_mergeInGroups 32 = .ok (.aload_n 0, 1) := by decide +kernel
theorem dX9_mergeInGroups_33 : decode cX9_mergeInGroups 33 = .ok (.getfield 72, 3) := by decide +kernel
theorem dX9_mergeInGroups_36 : decode cX9_mergeInGroups 36 = .ok (.getfield 386, 3) := by decide +kernel
theorem dX9_mergeInGroups_39 : decode cX9_mergeInGroups 39 = .ok (.invokevirtual 389, 3) := by decide +kernel
theorem dX9_mergeInGroups_42 : decode cX9_mergeInGroups 42 = .ok (.iconst 0, 1) := by decide +kernel
theorem dX9_mergeInGroups_43 : decode cX9_mergeInGroups 43 = .ok (.istore 4, 2) := by decide +kernel
theorem dX9_mergeInGroups_45 : decode cX9_mergeInGroups 45 = .ok (.iload 4, 2) := by decide +kernel
theorem dX9_mergeInGroups_47 : decode cX9_mergeInGroups 47 = .ok (.iload_n 3, 1) := by decide +kernel
theorem dX9_mergeInGroups_48 : decode cX9_mergeInGroups 48 = .ok (.if_icmp .ge 30, 3) := by decide +kernel
theorem dX9_mergeInGroups_51 : decode cX9_mergeInGroups 51 = .ok (.aload_n 0, 1) := by decide +kernel
theorem dX9_mergeInGroups_52 : decode cX9_mergeInGroups 52 = .ok (.getfield 72, 3) := by decide +kernel
theorem dX9_mergeInGroups_55 : decode cX9_mergeInGroups 55 = .ok (.getfield 386, 3) := by decide +kernel
theorem dX9_mergeInGroups_58 : decode cX9_mergeInGroups 58 = .ok (.aload_n 0, 1) := by decide +kernel
theorem dX9_mergeInGroups_59 : decode cX9_mergeInGroups 59 = .ok (.getfield 88, 3) := by decide +kernel
theorem dX9_mergeInGroups_62 : decode cX9_mergeInGroups 62 = .ok (.iload_n 2, 1) := by decide +kernel
theorem dX9_mergeInGroups_63 : decode cX9_mergeInGroups 63 = .ok (.iload 4, 2) := by decide +kernel
theorem dX9_mergeInGroups_65 : decode cX9_mergeInGroups 65 = .ok (.iadd, 1) := by decide +kernel
theorem dX9_mergeInGroups_66 : decode cX9_mergeInGroups 66 = .ok (.invokevirtual 238, 3) := by decide +kernel
theorem dX9_mergeInGroups_69 : decode cX9_mergeInGroups 69 = .ok (.invokevirtual 390, 3) := by decide +kernel
theorem dX9_mergeInGroups_72 : decode cX9_mergeInGroups 72 = .ok (.iinc 4 1, 3) := by decide +kernel
theorem dX9_mergeInGroups_75 : decode cX9_mergeInGroups 75 = .ok (.goto (-30), 3) := by decide +kernel
theorem dX9_mergeInGroups_78 : decode cX9_mergeInGroups 78 = .ok (.aload_n 0, 1) := by decide +kernel
theorem dX9_mergeInGroups_79 : decode cX9_mergeInGroups 79 = .ok (.getfield 72, 3) := by decide +kernel
theorem dX9_mergeInGroups_82 : decode cX9_mergeInGroups 82 = .ok (.aload_n 0, 1) := by decide +kernel
theorem dX9_mergeInGroups_83 : decode cX9_mergeInGroups 83 = .ok (.getfield 152, 3) := by decide +kernel
theorem dX9_mergeInGroups_86 : decode cX9_mergeInGroups 86 = .ok (.invokevirtual 392, 3) := by decide +kernel
theorem dX9_mergeInGroups_89 : decode cX9_mergeInGroups 89 = .ok (.istore 4, 2) := by decide +kernel
theorem dX9_mergeInGroups_91 : decode cX9_mergeInGroups 91 = .ok (.iload 4, 2) := by decide +kernel
theorem dX9_mergeInGroups_93 : decode cX9_mergeInGroups 93 = .ok (.iconst (-1), 1) := by decide +kernel
theorem dX9_mergeInGroups_94 : decode cX9_mergeInGroups 94 = .ok (.if_icmp .ne 5, 3) := by decide +kernel
theorem dX9_mergeInGroups_97 : decode cX9_mergeInGroups 97 = .ok (.iconst 0, 1) := by decide +kernel
theorem dX9_mergeInGroups_98 : decode cX9_mergeInGroups 98 = .ok (.ireturn, 1) := by decide +kernel
theorem dX9_mergeInGroups_99 : decode cX9_mergeInGroups 99 = .ok (.aload_n 0, 1) := by decide +kernel
theorem dX9_mergeInGroups_100 : decode cX9_mergeInGroups 100 = .ok (.getfield 88, 3) := by decide +kernel
theorem dX9_mergeInGroups_103 : decode cX9_mergeInGroups 103 = .ok (.iload_n 2, 1) := by decide +kernel
theorem dX9_mergeInGroups_104 : decode cX9_mergeInGroups 104 = .ok (.iload 4, 2) := by decide +kernel
theorem dX9_mergeInGroups_106 : decode cX9_mergeInGroups 106 = .ok (.invokevirtual 395, 3) := by decide +kernel
theorem dX9_mergeInGroups_109 : decode cX9_mergeInGroups 109 = .ok (.iload_n 3, 1) := by decide +kernel
theorem dX9_mergeInGroups_110 : decode cX9_mergeInGroups 110 = .ok (.iconst 1, 1) := by decide +kernel
theorem dX9_mergeInGroups_111 : decode cX9_mergeInGroups 111 = .ok (.isub, 1) := by decide +kernel
theorem dX9_mergeInGroups_112 : decode cX9_mergeInGroups 112 = .ok (.istore 5, 2) := by decide +kernel
theorem dX9_mergeInGroups_114 : decode cX9_mergeInGroups 114 = .ok (.iload 5, 2) := by decide +kernel
theorem dX9_mergeInGroups_116 : decode cX9_mergeInGroups 116 = .ok (.ifCond .le 20, 3) := by decide +kernel
theorem dX9_mergeInGroups_119 : decode cX9_mergeInGroups 119 = .ok (.aload_n 0, 1) := by decide +kernel
theorem dX9_mergeInGroups_120 : decode cX9_mergeInGroups 120 = .ok (.getfield 88, 3) := by decide +kernel
theorem dX9_mergeInGroups_123 : decode cX9_mergeInGroups 123 = .ok (.iload_n 2, 1) := by decide +kernel
theorem dX9_mergeInGroups_124 : decode cX9_mergeInGroups 124 = .ok (.iload 5, 2) := by decide +kernel
theorem dX9_mergeInGroups_126 : decode cX9_mergeInGroups 126 = .ok (.iadd, 1) := by decide +kernel
theorem dX9_mergeInGroups_127 : decode cX9_mergeInGroups 127 = .ok (.invokevirtual 281, 3) := by decide +kernel
theorem dX9_mergeInGroups_130 : decode cX9_mergeInGroups 130 = .ok (.iinc 5 (-1), 3) := by decide +kernel
theorem dX9_mergeInGroups_133 : decode cX9_mergeInGroups 133 = .ok (.goto (-19), 3) := by decide +kernel
theorem dX9_mergeInGroups_136 : decode cX9_mergeInGroups 136 = .ok (.iinc 2 1, 3) := by decide +kernel
theorem dX9_mergeInGroups_139 : decode cX9_mergeInGroups 139 = .ok (.goto (-137), 3) := by decide +kernel
theorem dX9_mergeInGroups_142 : decode cX9_mergeInGroups 142 = .ok (.iconst 1, 1) := by decide +kernel
theorem dX9_mergeInGroups_143 : decode cX9_mergeInGroups 143 = .ok (.ireturn, 1) := by decide +kernel
set_option maxRecDepth 20000 in
theorem ggX9_mergeFewest_X6_size : GoodIn wsX9_mergeFewest wsX6_size := goodIn_r _ [13, 14, 219, 220] (by decide +kernel) (by decide +kernel)
set_option maxRecDepth 20000 in
theorem gX9_mergeFewest_X6_size : GoodIn wsX9_mergeFewest (wsV RX9 114 RX6 yX6_size wsX6_size) := goodIn_app (goodIn_of _ (by decide +kernel)) ggX9_mergeFewest_X6_size
set_option maxRecDepth 20000 in
theorem ggX9_mergeFewest_X9_chooseFewest : GoodIn wsX9_mergeFewest wsX9_chooseFewest := goodIn_r _ [19, 1, 4, 5, 6, 7, 8, 20, 2, 9, 10, 11, 12, 13, 14, 21, 22, 23, 24, 25, 26, 27, 28, 29, 30, 31, 32, 33, 34, 35, 36, 37, 38, 39, 206, 207, 208, 209, 210, 211, 212, 213, 214, 215, 216, 217, 218, 221, 222, 223, 224, 225, 226, 227, 228, 219, 220, 229, 230, 231] (by decide +kernel) (by decide +kernel)
set_option maxRecDepth 20000 in
theorem gX9_mergeFewest_X9_chooseFewest : GoodIn wsX9_mergeFewest (wsV RX9 398 RX9 yX9_chooseFewest wsX9_chooseFewest) := goodIn_app (goodIn_of _ (by decide +kernel)) ggX9_mergeFewest_X9_chooseFewest
set_option maxRecDepth 20000 in
theorem ggX9_mergeFewest_X4_merge : GoodIn wsX9_mergeFewest wsX4_merge := goodIn_r _ [44, 45, 46, 47, 48, 49, 50, 51, 52, 53, 54, 55, 56, 57, 58, 59, 60, 61, 62, 63, 64, 65, 66, 67, 68, 69, 70, 71, 33, 34, 12, 35, 14, 72, 73, 74, 75, 76, 77, 78, 79, 80, 81, 82, 83, 43, 84, 85, 86, 87, 88, 10, 11, 13, 89, 22, 23, 24, 25, 90, 91, 92, 93, 94, 95, 96, 97, 98, 99, 100, 101, 102, 27, 28, 29, 30, 31, 103, 104, 105, 106, 107, 108, 109, 110, 111, 112, 113, 114, 115, 116, 117, 118, 119, 120, 121, 122, 123, 124, 125, 126, 127, 128, 129, 130, 131, 132, 133, 134, 135, 136, 137, 138, 139, 140, 141, 142, 143, 144, 145, 146, 147, 148, 149, 150, 151, 152, 153, 154, 155, 156, 157, 158, 159, 160, 37, 38, 39, 161, 162, 163, 164, 165, 166, 167, 168, 169, 170, 171, 7, 172, 173, 174, 175, 176, 177, 178, 179, 180, 181, 182, 183, 184, 185, 186, 187, 188, 189, 190, 191, 192, 193, 194, 195, 196, 197, 198, 199, 200, 201, 221, 222, 223, 224, 225, 226, 227, 228, 232, 233, 234, 235, 236, 237, 238, 239, 240, 241, 242, 243, 244, 245, 246, 247, 248, 249, 250, 251, 219, 220, 252, 253, 254, 255, 256, 257, 258, 259, 260, 229, 230, 231] (by decide +kernel) (by decide +kernel)
set_option maxRecDepth 20000 in
theorem gX9_mergeFewest_X4_merge : GoodIn wsX9_mergeFewest (wsV RX9 392 RX4 yX4_merge wsX4_merge) := goodIn_app (goodIn_of _ (by decide +kernel)) ggX9_mergeFewest_X4_merge
set_option maxRecDepth 20000 in
theorem ggX9_mergeFewest_X6_removeAt : GoodIn wsX9_mergeFewest wsX6_removeAt := goodIn_r _ [205, 14, 25, 219, 220] (by decide +kernel) (by decide +kernel)
set_option maxRecDepth 20000 in
theorem gX9_mergeFewest_X6_removeAt : GoodIn wsX9_mergeFewest (wsV RX9 281 RX6 yX6_removeAt wsX6_removeAt) := goodIn_app (goodIn_of _ (by decide +kernel)) ggX9_mergeFewest_X6_removeAt
set_option maxRecDepth 20000 in
theorem ggX9_mergeFewest_X6_add : GoodIn wsX9_mergeFewest wsX6_add := goodIn_r _ [39, 14, 25, 219, 220] (by decide +kernel) (by decide +kernel)
set_option maxRecDepth 20000 in
theorem gX9_mergeFewest_X6_add : GoodIn wsX9_mergeFewest (wsV RX9 390 RX6 yX6_add wsX6_add) := goodIn_app (goodIn_of _ (by decide +kernel)) ggX9_mergeFewest_X6_add
theorem dX9_mergeFewest_0 : decode cX9_mergeFewest 0 = .ok (.aload_n 0, 1) := by decide +kernel
theorem dX9_mergeFewest_1 : decode cX9_mergeFewest 1 = .ok (.getfield 88, 3) := by decide +kernel
theorem dX9_mergeFewest_4 : decode cX9_mergeFewest 4 = .ok (.invokevirtual 114, 3) := by decide +kernel
theorem dX9_mergeFewest_7 : decode cX9_mergeFewest 7 = .ok (.istore_n 2, 1) := by decide +kernel
theorem dX9_mergeFewest_8 : decode cX9_mergeFewest 8 = .ok (.iload_n 1, 1) := by decide +kernel
theorem dX9_mergeFewest_9 : decode cX9_mergeFewest 9 = .ok (.iconst 1, 1) := by decide +kernel
theorem dX9_mergeFewest_10 : decode cX9_mergeFewest 10 = .ok (.isub, 1) := by decide +kernel
theorem dX9_mergeFewest_11 : decode cX9_mergeFewest 11 = .ok (.istore_n 3, 1) := by decide +kernel
theorem dX9_mergeFewest_12 : decode cX9_mergeFewest 12 = .ok (.iload_n 2, 1) := by decide +kernel
theorem dX9_mergeFewest_13 : decode cX9_mergeFewest 13 = .ok (.iconst 2, 1) := by decide +kernel
theorem dX9_mergeFewest_14 : decode cX9_mergeFewest 14 = .ok (.if_icmp .lt 8, 3) := by decide +kernel
theorem dX9_mergeFewest_17 : decode cX9_mergeFewest 17 = .ok (.iload_n 3, 1) := by decide +kernel
theorem dX9_mergeFewest_18 : decode cX9_mergeFewest 18 = .ok (.iconst 1, 1) := by decide +kernel
theorem dX9_mergeFewest_19 : decode cX9_mergeFewest 19 = .ok (.if_icmp .ge 7, 3) := by decide +kernel
theorem dX9_mergeFewest_22 : decode cX9_mergeFewest 22 = .ok (.iconst 0, 1) := by decide +kernel
theorem dX9_mergeFewest_23 : decode cX9_mergeFewest 23 = .ok (.goto 10, 3) := by decide +kernel
theorem dX9_mergeFewest_26 : decode cX9_mergeFewest 26 = .ok (.iconst 2, 1) := by decide +kernel
theorem dX9_mergeFewest_27 : decode cX9_mergeFewest 27 = .ok (.iload_n 2, 1) := by decide +kernel
theorem dX9_mergeFewest_28 : decode cX9_mergeFewest 28 = .ok (.iconst 2, 1) := by decide +kernel
theorem dX9_mergeFewest_29 : decode cX9_mergeFewest 29 = .ok (.isub, 1) := by decide +kernel
theorem dX9_mergeFewest_30 : decode cX9_mergeFewest 30 = .ok (.iload_n 3, 1) := by decide +kernel
theorem dX9_mergeFewest_31 : decode cX9_mergeFewest 31 = .ok (.irem, 1) := by decide +kernel
theorem dX9_mergeFewest_32 : decode cX9_mergeFewest 32 = .ok (.iadd, 1) := by decide +kernel
theorem dX9_mergeFewest_33 : decode cX9_mergeFewest 33 = .ok (.istore 4, 2) := by decide +kernel
theorem dX9_mergeFewest_35 : decode cX9_mergeFewest 35 = .ok (.iload_n 2, 1) := by decide +kernel
theorem dX9_mergeFewest_36 : decode cX9_mergeFewest 36 = .ok (.istore 5, 2) := by decide +kernel
theorem dX9_mergeFewest_38 : decode cX9_mergeFewest 38 = .ok (.iload 5, 2) := by decide +kernel
theorem dX9_mergeFewest_40 : decode cX9_mergeFewest 40 = .ok (.iconst 1, 1) := by decide +kernel
theorem dX9_mergeFewest_41 : decode cX9_mergeFewest 41 = .ok (.if_icmp .le 108, 3) := by decide +kernel
theorem dX9_mergeFewest_44 : decode cX9_mergeFewest 44 = .ok (.aload_n 0, 1) := by decide +kernel
theorem dX9_mergeFewest_45 : decode cX9_mergeFewest 45 = .ok (.getfield 88, 3) := by decide +kernel
theorem dX9_mergeFewest_48 : decode cX9_mergeFewest 48 = .ok (.invokevirtual 114, 3) := by decide +kernel
theorem dX9_mergeFewest_51 : decode cX9_mergeFewest 51 = .ok (.iconst 1, 1) := by decide +kernel
theorem dX9_mergeFewest_52 : decode cX9_mergeFewest 52 = .ok (.if_icmp .le 97, 3) := by decide +kernel
theorem dX9_mergeFewest_55 : decode cX9_mergeFewest 55 = .ok (.aload_n 0, 1) := by decide +kernel
theorem dX9_mergeFewest_56 : decode cX9_mergeFewest 56 = .ok (.iload 4, 2) := by decide +kernel
theorem dX9_mergeFewest_58 : decode cX9_mergeFewest 58 = .ok (.invokevirtual 398, 3) := by decide +kernel
theorem dX9_mergeFewest_61 : decode cX9_mergeFewest 61 = .ok (.aload_n 0, 1) := by decide +kernel
theorem dX9_mergeFewest_62 : decode cX9_mergeFewest 62 = .ok (.getfield 72, 3) := by decide +kernel
theorem dX9_mergeFewest_65 : decode cX9_mergeFewest 65 = .ok (.aload_n 0, 1) := by decide +kernel
theorem dX9_mergeFewest_66 : decode cX9_mergeFewest 66 = .ok (.getfield 152, 3) := by decide +kernel
theorem dX9_mergeFewest_69 : decode cX9_mergeFewest 69 = .ok (.invokevirtual 392, 3) := by decide +kernel
theorem dX9_mergeFewest_72 : decode cX9_mergeFewest 72 = .ok (.istore 6, 2) := by decide +kernel
theorem dX9_mergeFewest_74 : decode cX9_mergeFewest 74 = .ok (.iload 6, 2) := by decide +kernel
theorem dX9_mergeFewest_76 : decode cX9_mergeFewest 76 = .ok (.iconst (-1), 1) := by decide +kernel
theorem dX9_mergeFewest_77 : decode cX9_mergeFewest 77 = .ok (.if_icmp .ne 5, 3) := by decide +kernel
theorem dX9_mergeFewest_80 : decode cX9_mergeFewest 80 = .ok (.iconst 0, 1) := by decide +kernel
theorem dX9_mergeFewest_81 : decode cX9_mergeFewest 81 = .ok (.ireturn, 1) := by decide +kernel
theorem dX9_mergeFewest_82 : decode cX9_mergeFewest 82 = .ok (.aload_n 0, 1) := by decide +kernel
theorem dX9_mergeFewest_83 : decode cX9_mergeFewest 83 = .ok (.getfield 88, 3) := by decide +kernel
theorem dX9_mergeFewest_86 : decode cX9_mergeFewest 86 = .ok (.invokevirtual 114, 3) := by decide +kernel
theorem dX9_mergeFewest_89 : decode cX9_mergeFewest 89 = .ok (.aload_n 0, 1) := by decide +kernel
theorem dX9_mergeFewest_90 : decode cX9_mergeFewest 90 = .ok (.getfield 96, 3) := by decide +kernel
theorem dX9_mergeFewest_93 : decode cX9_mergeFewest 93 = .ok (.arraylength, 1) := by decide +kernel
theorem dX9_mergeFewest_94 : decode cX9_mergeFewest 94 = .ok (.invokestatic 232, 3) := by decide +kernel
theorem dX9_mergeFewest_97 : decode cX9_mergeFewest 97 = .ok (.iconst 1, 1) := by decide +kernel
theorem dX9_mergeFewest_98 : decode cX9_mergeFewest 98 = .ok (.isub, 1) := by decide +kernel
theorem dX9_mergeFewest_99 : decode cX9_mergeFewest 99 = .ok (.istore 7, 2) := by decide +kernel
theorem dX9_mergeFewest_101 : decode cX9_mergeFewest 101 = .ok (.iload 7, 2) := by decide +kernel
theorem dX9_mergeFewest_103 : decode cX9_mergeFewest 103 = .ok (.ifCond .lt 28, 3) := by decide +kernel
theorem dX9_mergeFewest_106 : decode cX9_mergeFewest 106 = .ok (.aload_n 0, 1) := by decide +kernel
theorem dX9_mergeFewest_107 : decode cX9_mergeFewest 107 = .ok (.getfield 96, 3) := by decide +kernel
theorem dX9_mergeFewest_110 : decode cX9_mergeFewest 110 = .ok (.iload 7, 2) := by decide +kernel
theorem dX9_mergeFewest_112 : decode cX9_mergeFewest 112 = .ok (.baload, 1) := by decide +kernel
theorem dX9_mergeFewest_113 : decode cX9_mergeFewest 113 = .ok (.ifCond .eq 12, 3) := by decide +kernel
theorem dX9_mergeFewest_116 : decode cX9_mergeFewest 116 = .ok (.aload_n 0, 1) := by decide +kernel
theorem dX9_mergeFewest_117 : decode cX9_mergeFewest 117 = .ok (.getfield 88, 3) := by decide +kernel
theorem dX9_mergeFewest_120 : decode cX9_mergeFewest 120 = .ok (.iload 7, 2) := by decide +kernel
theorem dX9_mergeFewest_122 : decode cX9_mergeFewest 122 = .ok (.invokevirtual 281, 3) := by decide +kernel
theorem dX9_mergeFewest_125 : decode cX9_mergeFewest 125 = .ok (.iinc 7 (-1), 3) := by decide +kernel
theorem dX9_mergeFewest_128 : decode cX9_mergeFewest 128 = .ok (.goto (-27), 3) := by decide +kernel
theorem dX9_mergeFewest_131 : decode cX9_mergeFewest 131 = .ok (.aload_n 0, 1) := by decide +kernel
theorem dX9_mergeFewest_132 : decode cX9_mergeFewest 132 = .ok (.getfield 88, 3) := by decide +kernel
theorem dX9_mergeFewest_135 : decode cX9_mergeFewest 135 = .ok (.iload 6, 2) := by decide +kernel
theorem dX9_mergeFewest_137 : decode cX9_mergeFewest 137 = .ok (.invokevirtual 390, 3) := by decide +kernel
theorem dX9_mergeFewest_140 : decode cX9_mergeFewest 140 = .ok (.iload_n 1, 1) := by decide +kernel
theorem dX9_mergeFewest_141 : decode cX9_mergeFewest 141 = .ok (.istore 4, 2) := by decide +kernel
theorem dX9_mergeFewest_143 : decode cX9_mergeFewest 143 = .ok (.iinc 5 (-1), 3) := by decide +kernel
theorem dX9_mergeFewest_146 : decode cX9_mergeFewest 146 = .ok (.goto (-108), 3) := by decide +kernel
theorem dX9_mergeFewest_149 : decode cX9_mergeFewest 149 = .ok (.iconst 1, 1) := by decide +kernel
theorem dX9_mergeFewest_150 : decode cX9_mergeFewest 150 = .ok (.ireturn, 1) := by decide +kernel
set_option maxRecDepth 20000 in
theorem ggX9_chooseFewest_X6_size : GoodIn wsX9_chooseFewest wsX6_size := goodIn_r _ [13, 14, 55, 56] (by decide +kernel) (by decide +kernel)
set_option maxRecDepth 20000 in
theorem gX9_chooseFewest_X6_size : GoodIn wsX9_chooseFewest (wsV RX9 114 RX6 yX6_size wsX6_size) := goodIn_app (goodIn_of _ (by decide +kernel)) ggX9_chooseFewest_X6_size
set_option maxRecDepth 20000 in
theorem ggX9_chooseFewest_X6_get : GoodIn wsX9_chooseFewest wsX6_get := goodIn_r _ [18, 14, 19, 55, 56] (by decide +kernel) (by decide +kernel)
set_option maxRecDepth 20000 in
theorem gX9_chooseFewest_X6_get : GoodIn wsX9_chooseFewest (wsV RX9 238 RX6 yX6_get wsX6_get) := goodIn_app (goodIn_of _ (by decide +kernel)) ggX9_chooseFewest_X6_get
set_option maxRecDepth 20000 in
theorem ggX9_chooseFewest_X1_heldBy : GoodIn wsX9_chooseFewest wsX1_heldBy := goodIn_r _ [24, 25, 57, 58, 59] (by decide +kernel) (by decide +kernel)
set_option maxRecDepth 20000 in
theorem gX9_chooseFewest_X1_heldBy : GoodIn wsX9_chooseFewest (wsV RX9 242 RX1 yX1_heldBy wsX1_heldBy) := goodIn_app (goodIn_of _ (by decide +kernel)) ggX9_chooseFewest_X1_heldBy
set_option maxRecDepth 20000 in
theorem ggX9_chooseFewest_X6_clear : GoodIn wsX9_chooseFewest wsX6_clear := goodIn_r _ [29, 14, 55, 56] (by decide +kernel) (by decide +kernel)
set_option maxRecDepth 20000 in
theorem gX9_chooseFewest_X6_clear : GoodIn wsX9_chooseFewest (wsV RX9 389 RX6 yX6_clear wsX6_clear) := goodIn_app (goodIn_of _ (by decide +kernel)) ggX9_chooseFewest_X6_clear
set_option maxRecDepth 20000 in
theorem ggX9_chooseFewest_X6_add : GoodIn wsX9_chooseFewest wsX6_add := goodIn_r _ [33, 14, 19, 55, 56] (by decide +kernel) (by decide +kernel)
set_option maxRecDepth 20000 in
theorem gX9_chooseFewest_X6_add : GoodIn wsX9_chooseFewest (wsV RX9 390 RX6 yX6_add wsX6_add) := goodIn_app (goodIn_of _ (by decide +kernel)) ggX9_chooseFewest_X6_add
theorem dX9_chooseFewest_0 : decode cX9_chooseFewest 0 = .ok (.aload_n 0, 1) := by decide +kernel
theorem dX9_chooseFewest_1 : decode cX9_chooseFewest 1 = .ok (.getfield 88, 3) := by decide +kernel
theorem dX9_chooseFewest_4 : decode cX9_chooseFewest 4 = .ok (.invokevirtual 114, 3) := by decide +kernel
theorem dX9_chooseFewest_7 : decode cX9_chooseFewest 7 = .ok (.aload_n 0, 1) := by decide +kernel
theorem dX9_chooseFewest_8 : decode cX9_chooseFewest 8 = .ok (.getfield 96, 3) := by decide +kernel
theorem dX9_chooseFewest_11 : decode cX9_chooseFewest 11 = .ok (.arraylength, 1) := by decide +kernel
theorem dX9_chooseFewest_12 : decode cX9_chooseFewest 12 = .ok (.invokestatic 232, 3) := by decide +kernel
theorem dX9_chooseFewest_15 : decode cX9_chooseFewest 15 = .ok (.istore_n 2, 1) := by decide +kernel
theorem dX9_chooseFewest_16 : decode cX9_chooseFewest 16 = .ok (.iconst 0, 1) := by decide +kernel
theorem dX9_chooseFewest_17 : decode cX9_chooseFewest 17 = .ok (.istore_n 3, 1) := by decide +kernel
theorem dX9_chooseFewest_18 : decode cX9_chooseFewest 18 = .ok (.iload_n 3, 1) := by decide +kernel
theorem dX9_chooseFewest_19 : decode cX9_chooseFewest 19 = .ok (.iload_n 2, 1) := by decide +kernel
theorem dX9_chooseFewest_20 : decode cX9_chooseFewest 20 = .ok (.if_icmp .ge 16, 3) := by decide +kernel
theorem dX9_chooseFewest_23 : decode cX9_chooseFewest 23 = .ok (.aload_n 0, 1) := by decide +kernel
theorem dX9_chooseFewest_24 : decode cX9_chooseFewest 24 = .ok (.getfield 96, 3) := by decide +kernel
theorem dX9_chooseFewest_27 : decode cX9_chooseFewest 27 = .ok (.iload_n 3, 1) := by decide +kernel
theorem dX9_chooseFewest_28 : decode cX9_chooseFewest 28 = .ok (.iconst 0, 1) := by decide +kernel
theorem dX9_chooseFewest_29 : decode cX9_chooseFewest 29 = .ok (.bastore, 1) := by decide +kernel
theorem dX9_chooseFewest_30 : decode cX9_chooseFewest 30 = .ok (.iinc 3 1, 3) := by decide +kernel
theorem dX9_chooseFewest_33 : decode cX9_chooseFewest 33 = .ok (.goto (-15), 3) := by decide +kernel
theorem dX9_chooseFewest_36 : decode cX9_chooseFewest 36 = .ok (.iload_n 1, 1) := by decide +kernel
theorem dX9_chooseFewest_37 : decode cX9_chooseFewest 37 = .ok (.istore_n 3, 1) := by decide +kernel
theorem dX9_chooseFewest_38 : decode cX9_chooseFewest 38 = .ok (.iload_n 3, 1) := by decide +kernel
theorem dX9_chooseFewest_39 : decode cX9_chooseFewest 39 = .ok (.ifCond .le 96, 3) := by decide +kernel
theorem dX9_chooseFewest_42 : decode cX9_chooseFewest 42 = .ok (.iconst (-1), 1) := by decide +kernel
theorem dX9_chooseFewest_43 : decode cX9_chooseFewest 43 = .ok (.istore 4, 2) := by decide +kernel
theorem dX9_chooseFewest_45 : decode cX9_chooseFewest 45 = .ok (.iconst 0, 1) := by decide +kernel
theorem dX9_chooseFewest_46 : decode cX9_chooseFewest 46 = .ok (.istore 5, 2) := by decide +kernel
theorem dX9_chooseFewest_48 : decode cX9_chooseFewest 48 = .ok (.iload 5, 2) := by decide +kernel
theorem dX9_chooseFewest_50 : decode cX9_chooseFewest 50 = .ok (.iload_n 2, 1) := by decide +kernel
theorem dX9_chooseFewest_51 : decode cX9_chooseFewest 51 = .ok (.if_icmp .ge 64, 3) := by decide +kernel
theorem dX9_chooseFewest_54 : decode cX9_chooseFewest 54 = .ok (.aload_n 0, 1) := by decide +kernel
theorem dX9_chooseFewest_55 : decode cX9_chooseFewest 55 = .ok (.getfield 96, 3) := by decide +kernel
theorem dX9_chooseFewest_58 : decode cX9_chooseFewest 58 = .ok (.iload 5, 2) := by decide +kernel
theorem dX9_chooseFewest_60 : decode cX9_chooseFewest 60 = .ok (.baload, 1) := by decide +kernel
theorem dX9_chooseFewest_61 : decode cX9_chooseFewest 61 = .ok (.ifCond .ne 48, 3) := by decide +kernel
theorem dX9_chooseFewest_64 : decode cX9_chooseFewest 64 = .ok (.iload 4, 2) := by decide +kernel
theorem dX9_chooseFewest_66 : decode cX9_chooseFewest 66 = .ok (.iconst (-1), 1) := by decide +kernel
theorem dX9_chooseFewest_67 : decode cX9_chooseFewest 67 = .ok (.if_icmp .eq 38, 3) := by decide +kernel
theorem dX9_chooseFewest_70 : decode cX9_chooseFewest 70 = .ok (.aload_n 0, 1) := by decide +kernel
theorem dX9_chooseFewest_71 : decode cX9_chooseFewest 71 = .ok (.getfield 36, 3) := by decide +kernel
theorem dX9_chooseFewest_74 : decode cX9_chooseFewest 74 = .ok (.aload_n 0, 1) := by decide +kernel
theorem dX9_chooseFewest_75 : decode cX9_chooseFewest 75 = .ok (.getfield 88, 3) := by decide +kernel
theorem dX9_chooseFewest_78 : decode cX9_chooseFewest 78 = .ok (.iload 5, 2) := by decide +kernel
theorem dX9_chooseFewest_80 : decode cX9_chooseFewest 80 = .ok (.invokevirtual 238, 3) := by decide +kernel
theorem dX9_chooseFewest_83 : decode cX9_chooseFewest 83 = .ok (.invokevirtual 242, 3) := by decide +kernel
theorem dX9_chooseFewest_86 : decode cX9_chooseFewest 86 = .ok (.aload_n 0, 1) := by decide +kernel
theorem dX9_chooseFewest_87 : decode cX9_chooseFewest 87 = .ok (.getfield 36, 3) := by decide +kernel
theorem dX9_chooseFewest_90 : decode cX9_chooseFewest 90 = .ok (.aload_n 0, 1) := by decide +kernel
theorem dX9_chooseFewest_91 : decode cX9_chooseFewest 91 = .ok (.getfield 88, 3) := by decide +kernel
theorem dX9_chooseFewest_94 : decode cX9_chooseFewest 94 = .ok (.iload 4, 2) := by decide +kernel
theorem dX9_chooseFewest_96 : decode cX9_chooseFewest 96 = .ok (.invokevirtual 238, 3) := by decide +kernel
theorem dX9_chooseFewest_99 : decode cX9_chooseFewest 99 = .ok (.invokevirtual 242, 3) := by decide +kernel
theorem dX9_chooseFewest_102 : decode cX9_chooseFewest 102 = .ok (.if_icmp .ge 7, 3) := by decide +kernel
theorem dX9_chooseFewest_105 : decode cX9_chooseFewest 105 = .ok (.iload 5, 2) := by decide +kernel
theorem dX9_chooseFewest_107 : decode cX9_chooseFewest 107 = .ok (.istore 4, 2) := by decide +kernel
theorem dX9_chooseFewest_109 : decode cX9_chooseFewest 109 = .ok (.iinc 5 1, 3) := by decide +kernel
theorem dX9_chooseFewest_112 : decode cX9_chooseFewest 112 = .ok (.goto (-64), 3) := by decide +kernel
theorem dX9_chooseFewest_115 : decode cX9_chooseFewest 115 = .ok (.iload 4, 2) := by decide +kernel
theorem dX9_chooseFewest_117 : decode cX9_chooseFewest 117 = .ok (.iconst (-1), 1) := by decide +kernel
theorem dX9_chooseFewest_118 : decode cX9_chooseFewest 118 = .ok (.if_icmp .eq 11, 3) := by decide +kernel
theorem dX9_chooseFewest_121 : decode cX9_chooseFewest 121 = .ok (.aload_n 0, 1) := by decide +kernel
theorem dX9_chooseFewest_122 : decode cX9_chooseFewest 122 = .ok (.getfield 96, 3) := by decide +kernel
theorem dX9_chooseFewest_125 : decode cX9_chooseFewest 125 = .ok (.iload 4, 2) := by decide +kernel
theorem dX9_chooseFewest_127 : decode cX9_chooseFewest 127 = .ok (.iconst 1, 1) := by decide +kernel
theorem dX9_chooseFewest_128 : decode cX9_chooseFewest 128 = .ok (.bastore, 1) := by decide +kernel
theorem dX9_chooseFewest_129 : decode cX9_chooseFewest 129 = .ok (.iinc 3 (-1), 3) := by decide +kernel
theorem dX9_chooseFewest_132 : decode cX9_chooseFewest 132 = .ok (.goto (-94), 3) := by decide +kernel
theorem dX9_chooseFewest_135 : decode cX9_chooseFewest 135 = .ok (.aload_n 0, 1) := by decide +kernel
theorem dX9_chooseFewest_136 : decode cX9_chooseFewest 136 = .ok (.getfield 72, 3) := by decide +kernel
theorem dX9_chooseFewest_139 : decode cX9_chooseFewest 139 = .ok (.getfield 386, 3) := by decide +kernel
theorem dX9_chooseFewest_142 : decode cX9_chooseFewest 142 = .ok (.invokevirtual 389, 3) := by decide +kernel
theorem dX9_chooseFewest_145 : decode cX9_chooseFewest 145 = .ok (.iconst 0, 1) := by decide +kernel
theorem dX9_chooseFewest_146 : decode cX9_chooseFewest 146 = .ok (.istore_n 3, 1) := by decide +kernel
theorem dX9_chooseFewest_147 : decode cX9_chooseFewest 147 = .ok (.iload_n 3, 1) := by decide +kernel
theorem dX9_chooseFewest_148 : decode cX9_chooseFewest 148 = .ok (.iload_n 2, 1) := by decide +kernel
theorem dX9_chooseFewest_149 : decode cX9_chooseFewest 149 = .ok (.if_icmp .ge 36, 3) := by decide +kernel
theorem dX9_chooseFewest_152 : decode cX9_chooseFewest 152 = .ok (.aload_n 0, 1) := by decide +kernel
theorem dX9_chooseFewest_153 : decode cX9_chooseFewest 153 = .ok (.getfield 96, 3) := by decide +kernel
theorem dX9_chooseFewest_156 : decode cX9_chooseFewest 156 = .ok (.iload_n 3, 1) := by decide +kernel
theorem dX9_chooseFewest_157 : decode cX9_chooseFewest 157 = .ok (.baload, 1) := by decide +kernel
theorem dX9_chooseFewest_158 : decode cX9_chooseFewest 158 = .ok (.ifCond .eq 21, 3) := by decide +kernel
theorem dX9_chooseFewest_161 : decode cX9_chooseFewest 161 = .ok (.aload_n 0, 1) := by decide +kernel
theorem dX9_chooseFewest_162 : decode cX9_chooseFewest 162 = .ok (.getfield 72, 3) := by decide +kernel
theorem dX9_chooseFewest_165 : decode cX9_chooseFewest 165 = .ok (.getfield 386, 3) := by decide +kernel
theorem dX9_chooseFewest_168 : decode cX9_chooseFewest 168 = .ok (.aload_n 0, 1) := by decide +kernel
theorem dX9_chooseFewest_169 : decode cX9_chooseFewest 169 = .ok (.getfield 88, 3) := by decide +kernel
theorem dX9_chooseFewest_172 : decode cX9_chooseFewest 172 = .ok (.iload_n 3, 1) := by decide +kernel
theorem dX9_chooseFewest_173 : decode cX9_chooseFewest 173 = .ok (.invokevirtual 238, 3) := by decide +kernel
theorem dX9_chooseFewest_176 : decode cX9_chooseFewest 176 = .ok (.invokevirtual 390, 3) := by decide +kernel
theorem dX9_chooseFewest_179 : decode cX9_chooseFewest 179 = .ok (.iinc 3 1, 3) := by decide +kernel
theorem dX9_chooseFewest_182 : decode cX9_chooseFewest 182 = .ok (.goto (-35), 3) := by decide +kernel
theorem dX9_chooseFewest_185 : decode cX9_chooseFewest 185 = .ok (.return_, 1) := by decide +kernel
set_option maxRecDepth 20000 in
theorem ggX9_mergeLevel_X8_stepsOfLevel : GoodIn wsX9_mergeLevel wsX8_stepsOfLevel := goodIn_r _ [8, 9, 10, 234, 235, 236, 237, 238] (by decide +kernel) (by decide +kernel)
set_option maxRecDepth 20000 in
theorem gX9_mergeLevel_X8_stepsOfLevel : GoodIn wsX9_mergeLevel (wsV RX9 401 RX8 yX8_stepsOfLevel wsX8_stepsOfLevel) := goodIn_app (goodIn_of _ (by decide +kernel)) ggX9_mergeLevel_X8_stepsOfLevel
set_option maxRecDepth 20000 in
theorem ggX9_mergeLevel_X8_gatherFronts : GoodIn wsX9_mergeLevel wsX8_gatherFronts := goodIn_r _ [14, 9, 15, 16, 17, 18, 19, 20, 21, 22, 23, 24, 25, 26, 27, 28, 29, 30, 31, 234, 235, 236, 237, 238, 239, 240] (by decide +kernel) (by decide +kernel)
set_option maxRecDepth 20000 in
theorem gX9_mergeLevel_X8_gatherFronts : GoodIn wsX9_mergeLevel (wsV RX9 404 RX8 yX8_gatherFronts wsX8_gatherFronts) := goodIn_app (goodIn_of _ (by decide +kernel)) ggX9_mergeLevel_X8_gatherFronts
set_option maxRecDepth 20000 in
theorem ggX9_mergeLevel_X6_get : GoodIn wsX9_mergeLevel wsX6_get := goodIn_r _ [26, 22, 27, 239, 240] (by decide +kernel) (by decide +kernel)
set_option maxRecDepth 20000 in
theorem gX9_mergeLevel_X6_get : GoodIn wsX9_mergeLevel (wsV RX9 238 RX6 yX6_get wsX6_get) := goodIn_app (goodIn_of _ (by decide +kernel)) ggX9_mergeLevel_X6_get
set_option maxRecDepth 20000 in
theorem ggX9_mergeLevel_X6_size : GoodIn wsX9_mergeLevel wsX6_size := goodIn_r _ [36, 22, 239, 240] (by decide +kernel) (by decide +kernel)
set_option maxRecDepth 20000 in
theorem gX9_mergeLevel_X6_size : GoodIn wsX9_mergeLevel (wsV RX9 114 RX6 yX6_size wsX6_size) := goodIn_app (goodIn_of _ (by decide +kernel)) ggX9_mergeLevel_X6_size
set_option maxRecDepth 20000 in
theorem ggX9_mergeLevel_X4_merge : GoodIn wsX9_mergeLevel wsX4_merge := goodIn_r _ [41, 42, 43, 44, 45, 46, 47, 48, 49, 50, 51, 52, 53, 54, 55, 56, 57, 58, 59, 60, 61, 62, 63, 64, 65, 66, 67, 68, 18, 19, 20, 21, 22, 69, 70, 71, 72, 73, 74, 75, 76, 77, 78, 79, 80, 40, 81, 82, 83, 84, 85, 34, 35, 36, 86, 24, 25, 26, 27, 87, 88, 89, 90, 91, 92, 93, 94, 95, 96, 97, 98, 99, 100, 101, 102, 103, 104, 105, 106, 107, 108, 109, 110, 111, 112, 113, 114, 115, 116, 117, 118, 119, 120, 121, 122, 123, 124, 125, 126, 127, 128, 129, 130, 131, 132, 133, 134, 135, 136, 137, 138, 139, 140, 141, 142, 143, 144, 145, 146, 147, 148, 149, 150, 151, 152, 153, 154, 155, 156, 157, 158, 159, 160, 161, 162, 29, 30, 31, 163, 164, 165, 166, 167, 168, 169, 170, 171, 172, 173, 174, 175, 176, 177, 178, 179, 180, 181, 182, 183, 184, 185, 186, 187, 188, 189, 190, 191, 192, 193, 194, 195, 196, 197, 198, 199, 200, 201, 202, 203, 204, 226, 227, 228, 229, 230, 231, 232, 233, 241, 242, 243, 244, 245, 246, 247, 248, 249, 250, 251, 252, 253, 254, 255, 256, 257, 258, 259, 260, 239, 240, 261, 262, 263, 264, 265, 266, 267, 268, 269, 270, 271, 272] (by decide +kernel) (by decide +kernel)
set_option maxRecDepth 20000 in
theorem gX9_mergeLevel_X4_merge : GoodIn wsX9_mergeLevel (wsV RX9 392 RX4 yX4_merge wsX4_merge) := goodIn_app (goodIn_of _ (by decide +kernel)) ggX9_mergeLevel_X4_merge
set_option maxRecDepth 20000 in
theorem ggX9_mergeLevel_X8_shift : GoodIn wsX9_mergeLevel wsX8_shift := goodIn_r _ [208, 9, 15, 16, 209, 210, 211, 20, 212, 22, 27, 28, 29, 30, 31, 234, 235, 236, 237, 238, 239, 240] (by decide +kernel) (by decide +kernel)
set_option maxRecDepth 20000 in
theorem gX9_mergeLevel_X8_shift : GoodIn wsX9_mergeLevel (wsV RX9 407 RX8 yX8_shift wsX8_shift) := goodIn_app (goodIn_of _ (by decide +kernel)) ggX9_mergeLevel_X8_shift
theorem dX9_mergeLevel_0 : decode cX9_mergeLevel 0 = .ok (.aload_n 0, 1) := by decide +kernel
theorem dX9_mergeLevel_1 : decode cX9_mergeLevel 1 = .ok (.getfield 81, 3) := by decide +kernel
theorem dX9_mergeLevel_4 : decode cX9_mergeLevel 4 = .ok (.invokevirtual 401, 3) := by decide +kernel
theorem dX9_mergeLevel_7 : decode cX9_mergeLevel 7 = .ok (.istore_n 1, 1) := by decide +kernel
theorem dX9_mergeLevel_8 : decode cX9_mergeLevel 8 = .ok (.iload_n 1, 1) := by decide +kernel
theorem dX9_mergeLevel_9 : decode cX9_mergeLevel 9 = .ok (.ifCond .le 76, 3) := by decide +kernel
theorem dX9_mergeLevel_12 : decode cX9_mergeLevel 12 = .ok (.aload_n 0, 1) := by decide +kernel
theorem dX9_mergeLevel_13 : decode cX9_mergeLevel 13 = .ok (.getfield 81, 3) := by decide +kernel
theorem dX9_mergeLevel_16 : decode cX9_mergeLevel 16 = .ok (.aload_n 0, 1) := by decide +kernel
theorem dX9_mergeLevel_17 : decode cX9_mergeLevel 17 = .ok (.getfield 72, 3) := by decide +kernel
theorem dX9_mergeLevel_20 : decode cX9_mergeLevel 20 = .ok (.getfield 386, 3) := by decide +kernel
theorem dX9_mergeLevel_23 : decode cX9_mergeLevel 23 = .ok (.invokevirtual 404, 3) := by decide +kernel
theorem dX9_mergeLevel_26 : decode cX9_mergeLevel 26 = .ok (.aload_n 0, 1) := by decide +kernel
theorem dX9_mergeLevel_27 : decode cX9_mergeLevel 27 = .ok (.getfield 72, 3) := by decide +kernel
theorem dX9_mergeLevel_30 : decode cX9_mergeLevel 30 = .ok (.getfield 386, 3) := by decide +kernel
theorem dX9_mergeLevel_33 : decode cX9_mergeLevel 33 = .ok (.iconst 0, 1) := by decide +kernel
theorem dX9_mergeLevel_34 : decode cX9_mergeLevel 34 = .ok (.invokevirtual 238, 3) := by decide +kernel
theorem dX9_mergeLevel_37 : decode cX9_mergeLevel 37 = .ok (.istore_n 2, 1) := by decide +kernel
theorem dX9_mergeLevel_38 : decode cX9_mergeLevel 38 = .ok (.aload_n 0, 1) := by decide +kernel
theorem dX9_mergeLevel_39 : decode cX9_mergeLevel 39 = .ok (.getfield 72, 3) := by decide +kernel
theorem dX9_mergeLevel_42 : decode cX9_mergeLevel 42 = .ok (.getfield 386, 3) := by decide +kernel
theorem dX9_mergeLevel_45 : decode cX9_mergeLevel 45 = .ok (.invokevirtual 114, 3) := by decide +kernel
theorem dX9_mergeLevel_48 : decode cX9_mergeLevel 48 = .ok (.iconst 1, 1) := by decide +kernel
theorem dX9_mergeLevel_49 : decode cX9_mergeLevel 49 = .ok (.if_icmp .le 22, 3) := by decide +kernel
theorem dX9_mergeLevel_52 : decode cX9_mergeLevel 52 = .ok (.aload_n 0, 1) := by decide +kernel
theorem dX9_mergeLevel_53 : decode cX9_mergeLevel 53 = .ok (.getfield 72, 3) := by decide +kernel
theorem dX9_mergeLevel_56 : decode cX9_mergeLevel 56 = .ok (.aload_n 0, 1) := by decide +kernel
theorem dX9_mergeLevel_57 : decode cX9_mergeLevel 57 = .ok (.getfield 152, 3) := by decide +kernel
theorem dX9_mergeLevel_60 : decode cX9_mergeLevel 60 = .ok (.invokevirtual 392, 3) := by decide +kernel
theorem dX9_mergeLevel_63 : decode cX9_mergeLevel 63 = .ok (.istore_n 2, 1) := by decide +kernel
theorem dX9_mergeLevel_64 : decode cX9_mergeLevel 64 = .ok (.iload_n 2, 1) := by decide +kernel
theorem dX9_mergeLevel_65 : decode cX9_mergeLevel 65 = .ok (.iconst (-1), 1) := by decide +kernel
theorem dX9_mergeLevel_66 : decode cX9_mergeLevel 66 = .ok (.if_icmp .ne 5, 3) := by decide +kernel
theorem dX9_mergeLevel_69 : decode cX9_mergeLevel 69 = .ok (.iconst 0, 1) := by decide +kernel
theorem dX9_mergeLevel_70 : decode cX9_mergeLevel 70 = .ok (.ireturn, 1) := by decide +kernel
theorem dX9_mergeLevel_71 : decode cX9_mergeLevel 71 = .ok (.aload_n 0, 1) := by decide +kernel
theorem dX9_mergeLevel_72 : decode cX9_mergeLevel 72 = .ok (.getfield 81, 3) := by decide +kernel
theorem dX9_mergeLevel_75 : decode cX9_mergeLevel 75 = .ok (.iload_n 2, 1) := by decide +kernel
theorem dX9_mergeLevel_76 : decode cX9_mergeLevel 76 = .ok (.invokevirtual 407, 3) := by decide +kernel
theorem dX9_mergeLevel_79 : decode cX9_mergeLevel 79 = .ok (.iinc 1 (-1), 3) := by decide +kernel
theorem dX9_mergeLevel_82 : decode cX9_mergeLevel 82 = .ok (.goto (-74), 3) := by decide +kernel
theorem dX9_mergeLevel_85 : decode cX9_mergeLevel 85 = .ok (.iconst 1, 1) := by decide +kernel
theorem dX9_mergeLevel_86 : decode cX9_mergeLevel 86 = .ok (.ireturn, 1) := by decide +kernel
set_option maxRecDepth 20000 in
theorem ggX9_blocksBetween_X5_blocksFor : GoodIn wsX9_blocksBetween wsX5_blocksFor := goodIn_r _ [7, 8, 9, 10, 11, 12, 26, 27, 28, 29, 30, 31, 32] (by decide +kernel) (by decide +kernel)
set_option maxRecDepth 20000 in
theorem gX9_blocksBetween_X5_blocksFor : GoodIn wsX9_blocksBetween (wsV RX9 410 RX5 yX5_blocksFor wsX5_blocksFor) := goodIn_app (goodIn_of _ (by decide +kernel)) ggX9_blocksBetween_X5_blocksFor
theorem dX9_blocksBetween_0 : decode cX9_blocksBetween 0 = .ok (.iconst 0, 1) := by decide +kernel
theorem dX9_blocksBetween_1 : decode cX9_blocksBetween 1 = .ok (.istore_n 3, 1) := by decide +kernel
theorem dX9_blocksBetween_2 : decode cX9_blocksBetween 2 = .ok (.iload_n 1, 1) := by decide +kernel
theorem dX9_blocksBetween_3 : decode cX9_blocksBetween 3 = .ok (.istore 4, 2) := by decide +kernel
theorem dX9_blocksBetween_5 : decode cX9_blocksBetween 5 = .ok (.iload 4, 2) := by decide +kernel
theorem dX9_blocksBetween_7 : decode cX9_blocksBetween 7 = .ok (.iload_n 2, 1) := by decide +kernel
theorem dX9_blocksBetween_8 : decode cX9_blocksBetween 8 = .ok (.if_icmp .ge 41, 3) := by decide +kernel
theorem dX9_blocksBetween_11 : decode cX9_blocksBetween 11 = .ok (.iload 4, 2) := by decide +kernel
theorem dX9_blocksBetween_13 : decode cX9_blocksBetween 13 = .ok (.ifCond .lt 36, 3) := by decide +kernel
theorem dX9_blocksBetween_16 : decode cX9_blocksBetween 16 = .ok (.iload 4, 2) := by decide +kernel
theorem dX9_blocksBetween_18 : decode cX9_blocksBetween 18 = .ok (.aload_n 0, 1) := by decide +kernel
theorem dX9_blocksBetween_19 : decode cX9_blocksBetween 19 = .ok (.getfield 100, 3) := by decide +kernel
theorem dX9_blocksBetween_22 : decode cX9_blocksBetween 22 = .ok (.arraylength, 1) := by decide +kernel
theorem dX9_blocksBetween_23 : decode cX9_blocksBetween 23 = .ok (.if_icmp .ge 26, 3) := by decide +kernel
theorem dX9_blocksBetween_26 : decode cX9_blocksBetween 26 = .ok (.iload_n 3, 1) := by decide +kernel
theorem dX9_blocksBetween_27 : decode cX9_blocksBetween 27 = .ok (.aload_n 0, 1) := by decide +kernel
theorem dX9_blocksBetween_28 : decode cX9_blocksBetween 28 = .ok (.getfield 27, 3) := by decide +kernel
theorem dX9_blocksBetween_31 : decode cX9_blocksBetween 31 = .ok (.aload_n 0, 1) := by decide +kernel
theorem dX9_blocksBetween_32 : decode cX9_blocksBetween 32 = .ok (.getfield 100, 3) := by decide +kernel
theorem dX9_blocksBetween_35 : decode cX9_blocksBetween 35 = .ok (.iload 4, 2) := by decide +kernel
theorem dX9_blocksBetween_37 : decode cX9_blocksBetween 37 = .ok (.iaload, 1) := by decide +kernel
theorem dX9_blocksBetween_38 : decode cX9_blocksBetween 38 = .ok (.invokevirtual 410, 3) := by decide +kernel
theorem dX9_blocksBetween_41 : decode cX9_blocksBetween 41 = .ok (.iadd, 1) := by decide +kernel
theorem dX9_blocksBetween_42 : decode cX9_blocksBetween 42 = .ok (.istore_n 3, 1) := by decide +kernel
theorem dX9_blocksBetween_43 : decode cX9_blocksBetween 43 = .ok (.iinc 4 1, 3) := by decide +kernel
theorem dX9_blocksBetween_46 : decode cX9_blocksBetween 46 = .ok (.goto (-41), 3) := by decide +kernel
theorem dX9_blocksBetween_49 : decode cX9_blocksBetween 49 = .ok (.iload_n 3, 1) := by decide +kernel
theorem dX9_blocksBetween_50 : decode cX9_blocksBetween 50 = .ok (.ireturn, 1) := by decide +kernel
theorem dX9_lengthBetween_0 : decode cX9_lengthBetween 0 = .ok (.iconst 0, 1) := by decide +kernel
theorem dX9_lengthBetween_1 : decode cX9_lengthBetween 1 = .ok (.istore_n 3, 1) := by decide +kernel
theorem dX9_lengthBetween_2 : decode cX9_lengthBetween 2 = .ok (.iload_n 1, 1) := by decide +kernel
theorem dX9_lengthBetween_3 : decode cX9_lengthBetween 3 = .ok (.istore 4, 2) := by decide +kernel
theorem dX9_lengthBetween_5 : decode cX9_lengthBetween 5 = .ok (.iload 4, 2) := by decide +kernel
theorem dX9_lengthBetween_7 : decode cX9_lengthBetween 7 = .ok (.iload_n 2, 1) := by decide +kernel
theorem dX9_lengthBetween_8 : decode cX9_lengthBetween 8 = .ok (.if_icmp .ge 34, 3) := by decide +kernel
theorem dX9_lengthBetween_11 : decode cX9_lengthBetween 11 = .ok (.iload 4, 2) := by decide +kernel
theorem dX9_lengthBetween_13 : decode cX9_lengthBetween 13 = .ok (.ifCond .lt 29, 3) := by decide +kernel
theorem dX9_lengthBetween_16 : decode cX9_lengthBetween 16 = .ok (.iload 4, 2) := by decide +kernel
theorem dX9_lengthBetween_18 : decode cX9_lengthBetween 18 = .ok (.aload_n 0, 1) := by decide +kernel
theorem dX9_lengthBetween_19 : decode cX9_lengthBetween 19 = .ok (.getfield 100, 3) := by decide +kernel
theorem dX9_lengthBetween_22 : decode cX9_lengthBetween 22 = .ok (.arraylength, 1) := by decide +kernel
theorem dX9_lengthBetween_23 : decode cX9_lengthBetween 23 = .ok (.if_icmp .ge 19, 3) := by decide +kernel
theorem dX9_lengthBetween_26 : decode cX9_lengthBetween 26 = .ok (.iload_n 3, 1) := by decide +kernel
theorem dX9_lengthBetween_27 : decode cX9_lengthBetween 27 = .ok (.aload_n 0, 1) := by decide +kernel
theorem dX9_lengthBetween_28 : decode cX9_lengthBetween 28 = .ok (.getfield 100, 3) := by decide +kernel
theorem dX9_lengthBetween_31 : decode cX9_lengthBetween 31 = .ok (.iload 4, 2) := by decide +kernel
theorem dX9_lengthBetween_33 : decode cX9_lengthBetween 33 = .ok (.iaload, 1) := by decide +kernel
theorem dX9_lengthBetween_34 : decode cX9_lengthBetween 34 = .ok (.iadd, 1) := by decide +kernel
theorem dX9_lengthBetween_35 : decode cX9_lengthBetween 35 = .ok (.istore_n 3, 1) := by decide +kernel
theorem dX9_lengthBetween_36 : decode cX9_lengthBetween 36 = .ok (.iinc 4 1, 3) := by decide +kernel
theorem dX9_lengthBetween_39 : decode cX9_lengthBetween 39 = .ok (.goto (-34), 3) := by decide +kernel
theorem dX9_lengthBetween_42 : decode cX9_lengthBetween 42 = .ok (.iload_n 3, 1) := by decide +kernel
theorem dX9_lengthBetween_43 : decode cX9_lengthBetween 43 = .ok (.ireturn, 1) := by decide +kernel
theorem dX9_setLength_0 : decode cX9_setLength 0 = .ok (.iload_n 1, 1) := by decide +kernel
theorem dX9_setLength_1 : decode cX9_setLength 1 = .ok (.ifCond .lt 19, 3) := by decide +kernel
theorem dX9_setLength_4 : decode cX9_setLength 4 = .ok (.iload_n 1, 1) := by decide +kernel
theorem dX9_setLength_5 : decode cX9_setLength 5 = .ok (.aload_n 0, 1) := by decide +kernel
theorem dX9_setLength_6 : decode cX9_setLength 6 = .ok (.getfield 100, 3) := by decide +kernel
theorem dX9_setLength_9 : decode cX9_setLength 9 = .ok (.arraylength, 1) := by decide +kernel
theorem dX9_setLength_10 : decode cX9_setLength 10 = .ok (.if_icmp .ge 10, 3) := by decide +kernel
theorem dX9_setLength_13 : decode cX9_setLength 13 = .ok (.aload_n 0, 1) := by decide +kernel
theorem dX9_setLength_14 : decode cX9_setLength 14 = .ok (.getfield 100, 3) := by decide +kernel
theorem dX9_setLength_17 : decode cX9_setLength 17 = .ok (.iload_n 1, 1) := by decide +kernel
theorem dX9_setLength_18 : decode cX9_setLength 18 = .ok (.iload_n 2, 1) := by decide +kernel
theorem dX9_setLength_19 : decode cX9_setLength 19 = .ok (.iastore, 1) := by decide +kernel
theorem dX9_setLength_20 : decode cX9_setLength 20 = .ok (.return_, 1) := by decide +kernel
set_option maxRecDepth 20000 in
theorem ggX10_init_X10_near : GoodIn wsX10_init wsX10_near := goodIn_r _ [46] (by decide +kernel) (by decide +kernel)
set_option maxRecDepth 20000 in
theorem gX10_init_X10_near : GoodIn wsX10_init (va_wsS RX10 102 yX10_near wsX10_near) := goodIn_app (goodIn_of _ (by decide +kernel)) ggX10_init_X10_near
theorem dX10_init_0 : decode cX10_init 0 = .ok (.aload_n 0, 1) := by decide +kernel
theorem dX10_init_1 : decode cX10_init 1 = .ok (.invokespecial 1, 3) := by decide +kernel
theorem dX10_init_4 : decode cX10_init 4 = .ok (.aload_n 0, 1) := by decide +kernel
theorem dX10_init_5 : decode cX10_init 5 = .ok (.sipush 12800, 3) := by decide +kernel
theorem dX10_init_8 : decode cX10_init 8 = .ok (.newarray .long, 2) := by decide +kernel
theorem dX10_init_10 : decode cX10_init 10 = .ok (.putfield 7, 3) := by decide +kernel
theorem dX10_init_13 : decode cX10_init 13 = .ok (.aload_n 0, 1) := by decide +kernel
theorem dX10_init_14 : decode cX10_init 14 = .ok (.sipush 200, 3) := by decide +kernel
theorem dX10_init_17 : decode cX10_init 17 = .ok (.newarray .boolean, 2) := by decide +kernel
theorem dX10_init_19 : decode cX10_init 19 = .ok (.putfield 13, 3) := by decide +kernel
theorem dX10_init_22 : decode cX10_init 22 = .ok (.aload_n 0, 1) := by decide +kernel
theorem dX10_init_23 : decode cX10_init 23 = .ok (.sipush 200, 3) := by decide +kernel
theorem dX10_init_26 : decode cX10_init 26 = .ok (.newarray .boolean, 2) := by decide +kernel
theorem dX10_init_28 : decode cX10_init 28 = .ok (.putfield 17, 3) := by decide +kernel
theorem dX10_init_31 : decode cX10_init 31 = .ok (.aload_n 0, 1) := by decide +kernel
theorem dX10_init_32 : decode cX10_init 32 = .ok (.sipush 200, 3) := by decide +kernel
theorem dX10_init_35 : decode cX10_init 35 = .ok (.newarray .int, 2) := by decide +kernel
theorem dX10_init_37 : decode cX10_init 37 = .ok (.putfield 20, 3) := by decide +kernel
theorem dX10_init_40 : decode cX10_init 40 = .ok (.aload_n 0, 1) := by decide +kernel
theorem dX10_init_41 : decode cX10_init 41 = .ok (.sipush 208, 3) := by decide +kernel
theorem dX10_init_44 : decode cX10_init 44 = .ok (.newarray .int, 2) := by decide +kernel
theorem dX10_init_46 : decode cX10_init 46 = .ok (.putfield 24, 3) := by decide +kernel
theorem dX10_init_49 : decode cX10_init 49 = .ok (.aload_n 0, 1) := by decide +kernel
theorem dX10_init_50 : decode cX10_init 50 = .ok (.sipush 208, 3) := by decide +kernel
theorem dX10_init_53 : decode cX10_init 53 = .ok (.newarray .int, 2) := by decide +kernel
theorem dX10_init_55 : decode cX10_init 55 = .ok (.putfield 27, 3) := by decide +kernel
theorem dX10_init_58 : decode cX10_init 58 = .ok (.aload_n 0, 1) := by decide +kernel
theorem dX10_init_59 : decode cX10_init 59 = .ok (.sipush 208, 3) := by decide +kernel
theorem dX10_init_62 : decode cX10_init 62 = .ok (.newarray .int, 2) := by decide +kernel
theorem dX10_init_64 : decode cX10_init 64 = .ok (.putfield 30, 3) := by decide +kernel
theorem dX10_init_67 : decode cX10_init 67 = .ok (.aload_n 0, 1) := by decide +kernel
theorem dX10_init_68 : decode cX10_init 68 = .ok (.sipush 208, 3) := by decide +kernel
theorem dX10_init_71 : decode cX10_init 71 = .ok (.newarray .boolean, 2) := by decide +kernel
theorem dX10_init_73 : decode cX10_init 73 = .ok (.putfield 33, 3) := by decide +kernel
theorem dX10_init_76 : decode cX10_init 76 = .ok (.aload_n 0, 1) := by decide +kernel
theorem dX10_init_77 : decode cX10_init 77 = .ok (.sipush 208, 3) := by decide +kernel
theorem dX10_init_80 : decode cX10_init 80 = .ok (.newarray .int, 2) := by decide +kernel
theorem dX10_init_82 : decode cX10_init 82 = .ok (.putfield 36, 3) := by decide +kernel
theorem dX10_init_85 : decode cX10_init 85 = .ok (.aload_n 0, 1) := by decide +kernel
theorem dX10_init_86 : decode cX10_init 86 = .ok (.bipush 64, 2) := by decide +kernel
theorem dX10_init_88 : decode cX10_init 88 = .ok (.newarray .long, 2) := by decide +kernel
theorem dX10_init_90 : decode cX10_init 90 = .ok (.putfield 39, 3) := by decide +kernel
theorem dX10_init_93 : decode cX10_init 93 = .ok (.aload_n 0, 1) := by decide +kernel
theorem dX10_init_94 : decode cX10_init 94 = .ok (.iconst 4, 1) := by decide +kernel
theorem dX10_init_95 : decode cX10_init 95 = .ok (.newarray .int, 2) := by decide +kernel
theorem dX10_init_97 : decode cX10_init 97 = .ok (.putfield 42, 3) := by decide +kernel
theorem dX10_init_100 : decode cX10_init 100 = .ok (.aload_n 0, 1) := by decide +kernel
theorem dX10_init_101 : decode cX10_init 101 = .ok (.iconst 4, 1) := by decide +kernel
theorem dX10_init_102 : decode cX10_init 102 = .ok (.newarray .boolean, 2) := by decide +kernel
theorem dX10_init_104 : decode cX10_init 104 = .ok (.putfield 45, 3) := by decide +kernel
theorem dX10_init_107 : decode cX10_init 107 = .ok (.aload_n 0, 1) := by decide +kernel
theorem dX10_init_108 : decode cX10_init 108 = .ok (.bipush 64, 2) := by decide +kernel
theorem dX10_init_110 : decode cX10_init 110 = .ok (.newarray .long, 2) := by decide +kernel
theorem dX10_init_112 : decode cX10_init 112 = .ok (.putfield 48, 3) := by decide +kernel
theorem dX10_init_115 : decode cX10_init 115 = .ok (.aload_n 0, 1) := by decide +kernel
theorem dX10_init_116 : decode cX10_init 116 = .ok (.iconst 5, 1) := by decide +kernel
theorem dX10_init_117 : decode cX10_init 117 = .ok (.newarray .long, 2) := by decide +kernel
theorem dX10_init_119 : decode cX10_init 119 = .ok (.putfield 51, 3) := by decide +kernel
theorem dX10_init_122 : decode cX10_init 122 = .ok (.aload_n 0, 1) := by decide +kernel
theorem dX10_init_123 : decode cX10_init 123 = .ok (.iconst 4, 1) := by decide +kernel
theorem dX10_init_124 : decode cX10_init 124 = .ok (.newarray .long, 2) := by decide +kernel
theorem dX10_init_126 : decode cX10_init 126 = .ok (.putfield 54, 3) := by decide +kernel
theorem dX10_init_129 : decode cX10_init 129 = .ok (.aload_n 0, 1) := by decide +kernel
theorem dX10_init_130 : decode cX10_init 130 = .ok (.bipush 64, 2) := by decide +kernel
theorem dX10_init_132 : decode cX10_init 132 = .ok (.newarray .int, 2) := by decide +kernel
theorem dX10_init_134 : decode cX10_init 134 = .ok (.putfield 57, 3) := by decide +kernel
theorem dX10_init_137 : decode cX10_init 137 = .ok (.aload_n 0, 1) := by decide +kernel
theorem dX10_init_138 : decode cX10_init 138 = .ok (.bipush 64, 2) := by decide +kernel
theorem dX10_init_140 : decode cX10_init 140 = .ok (.newarray .boolean, 2) := by decide +kernel
theorem dX10_init_142 : decode cX10_init 142 = .ok (.putfield 60, 3) := by decide +kernel
theorem dX10_init_145 : decode cX10_init 145 = .ok (.aload_n 0, 1) := by decide +kernel
theorem dX10_init_146 : decode cX10_init 146 = .ok (.sipush 208, 3) := by decide +kernel
theorem dX10_init_149 : decode cX10_init 149 = .ok (.newarray .int, 2) := by decide +kernel
theorem dX10_init_151 : decode cX10_init 151 = .ok (.putfield 63, 3) := by decide +kernel
theorem dX10_init_154 : decode cX10_init 154 = .ok (.aload_n 0, 1) := by decide +kernel
theorem dX10_init_155 : decode cX10_init 155 = .ok (.bipush 8, 2) := by decide +kernel
theorem dX10_init_157 : decode cX10_init 157 = .ok (.newarray .int, 2) := by decide +kernel
theorem dX10_init_159 : decode cX10_init 159 = .ok (.putfield 66, 3) := by decide +kernel
theorem dX10_init_162 : decode cX10_init 162 = .ok (.aload_n 0, 1) := by decide +kernel
theorem dX10_init_163 : decode cX10_init 163 = .ok (.bipush 8, 2) := by decide +kernel
theorem dX10_init_165 : decode cX10_init 165 = .ok (.newarray .int, 2) := by decide +kernel
theorem dX10_init_167 : decode cX10_init 167 = .ok (.putfield 69, 3) := by decide +kernel
theorem dX10_init_170 : decode cX10_init 170 = .ok (.aload_n 0, 1) := by decide +kernel
theorem dX10_init_171 : decode cX10_init 171 = .ok (.bipush 8, 2) := by decide +kernel
theorem dX10_init_173 : decode cX10_init 173 = .ok (.newarray .int, 2) := by decide +kernel
theorem dX10_init_175 : decode cX10_init 175 = .ok (.putfield 72, 3) := by decide +kernel
theorem dX10_init_178 : decode cX10_init 178 = .ok (.aload_n 0, 1) := by decide +kernel
theorem dX10_init_179 : decode cX10_init 179 = .ok (.bipush 8, 2) := by decide +kernel
theorem dX10_init_181 : decode cX10_init 181 = .ok (.newarray .int, 2) := by decide +kernel
theorem dX10_init_183 : decode cX10_init 183 = .ok (.putfield 75, 3) := by decide +kernel
theorem dX10_init_186 : decode cX10_init 186 = .ok (.aload_n 0, 1) := by decide +kernel
theorem dX10_init_187 : decode cX10_init 187 = .ok (.sipush 208, 3) := by decide +kernel
theorem dX10_init_190 : decode cX10_init 190 = .ok (.newarray .boolean, 2) := by decide +kernel
theorem dX10_init_192 : decode cX10_init 192 = .ok (.putfield 78, 3) := by decide +kernel
theorem dX10_init_195 : decode cX10_init 195 = .ok (.aload_n 0, 1) := by decide +kernel
theorem dX10_init_196 : decode cX10_init 196 = .ok (.sipush 1456, 3) := by decide +kernel
theorem dX10_init_199 : decode cX10_init 199 = .ok (.newarray .int, 2) := by decide +kernel
theorem dX10_init_201 : decode cX10_init 201 = .ok (.putfield 81, 3) := by decide +kernel
theorem dX10_init_204 : decode cX10_init 204 = .ok (.aload_n 0, 1) := by decide +kernel
theorem dX10_init_205 : decode cX10_init 205 = .ok (.bipush 7, 2) := by decide +kernel
theorem dX10_init_207 : decode cX10_init 207 = .ok (.newarray .int, 2) := by decide +kernel
theorem dX10_init_209 : decode cX10_init 209 = .ok (.putfield 84, 3) := by decide +kernel
theorem dX10_init_212 : decode cX10_init 212 = .ok (.aload_n 0, 1) := by decide +kernel
theorem dX10_init_213 : decode cX10_init 213 = .ok (.bipush 7, 2) := by decide +kernel
theorem dX10_init_215 : decode cX10_init 215 = .ok (.newarray .int, 2) := by decide +kernel
theorem dX10_init_217 : decode cX10_init 217 = .ok (.putfield 87, 3) := by decide +kernel
theorem dX10_init_220 : decode cX10_init 220 = .ok (.aload_n 0, 1) := by decide +kernel
theorem dX10_init_221 : decode cX10_init 221 = .ok (.bipush 7, 2) := by decide +kernel
theorem dX10_init_223 : decode cX10_init 223 = .ok (.newarray .int, 2) := by decide +kernel
theorem dX10_init_225 : decode cX10_init 225 = .ok (.putfield 90, 3) := by decide +kernel
theorem dX10_init_228 : decode cX10_init 228 = .ok (.aload_n 0, 1) := by decide +kernel
theorem dX10_init_229 : decode cX10_init 229 = .ok (.bipush 7, 2) := by decide +kernel
theorem dX10_init_231 : decode cX10_init 231 = .ok (.newarray .int, 2) := by decide +kernel
theorem dX10_init_233 : decode cX10_init 233 = .ok (.putfield 93, 3) := by decide +kernel
theorem dX10_init_236 : decode cX10_init 236 = .ok (.aload_n 0, 1) := by decide +kernel
theorem dX10_init_237 : decode cX10_init 237 = .ok (.bipush 8, 2) := by decide +kernel
theorem dX10_init_239 : decode cX10_init 239 = .ok (.newarray .int, 2) := by decide +kernel
theorem dX10_init_241 : decode cX10_init 241 = .ok (.putfield 96, 3) := by decide +kernel
theorem dX10_init_244 : decode cX10_init 244 = .ok (.aload_n 0, 1) := by decide +kernel
theorem dX10_init_245 : decode cX10_init 245 = .ok (.sipush 208, 3) := by decide +kernel
theorem dX10_init_248 : decode cX10_init 248 = .ok (.newarray .int, 2) := by decide +kernel
theorem dX10_init_250 : decode cX10_init 250 = .ok (.putfield 99, 3) := by decide +kernel
theorem dX10_init_253 : decode cX10_init 253 = .ok (.aload_n 0, 1) := by decide +kernel
theorem dX10_init_254 : decode cX10_init 254 = .ok (.iload_n 1, 1) := by decide +kernel
theorem dX10_init_255 : decode cX10_init 255 = .ok (.iconst 2, 1) := by decide +kernel
theorem dX10_init_256 : decode cX10_init 256 = .ok (.sipush 200, 3) := by decide +kernel
theorem dX10_init_259 : decode cX10_init 259 = .ok (.invokestatic 102, 3) := by decide +kernel
theorem dX10_init_262 : decode cX10_init 262 = .ok (.putfield 106, 3) := by decide +kernel
theorem dX10_init_265 : decode cX10_init 265 = .ok (.aload_n 0, 1) := by decide +kernel
theorem dX10_init_266 : decode cX10_init 266 = .ok (.iload_n 2, 1) := by decide +kernel
theorem dX10_init_267 : decode cX10_init 267 = .ok (.iconst 5, 1) := by decide +kernel
theorem dX10_init_268 : decode cX10_init 268 = .ok (.bipush 64, 2) := by decide +kernel
theorem dX10_init_270 : decode cX10_init 270 = .ok (.invokestatic 102, 3) := by decide +kernel
theorem dX10_init_273 : decode cX10_init 273 = .ok (.putfield 110, 3) := by decide +kernel
theorem dX10_init_276 : decode cX10_init 276 = .ok (.aload_n 0, 1) := by decide +kernel
theorem dX10_init_277 : decode cX10_init 277 = .ok (.iload_n 3, 1) := by decide +kernel
theorem dX10_init_278 : decode cX10_init 278 = .ok (.iconst 2, 1) := by decide +kernel
theorem dX10_init_279 : decode cX10_init 279 = .ok (.bipush 64, 2) := by decide +kernel
theorem dX10_init_281 : decode cX10_init 281 = .ok (.invokestatic 102, 3) := by decide +kernel
theorem dX10_init_284 : decode cX10_init 284 = .ok (.putfield 113, 3) := by decide +kernel
theorem dX10_init_287 : decode cX10_init 287 = .ok (.aload_n 0, 1) := by decide +kernel
theorem dX10_init_288 : decode cX10_init 288 = .ok (.iconst 1, 1) := by decide +kernel
theorem dX10_init_289 : decode cX10_init 289 = .ok (.putfield 116, 3) := by decide +kernel
theorem dX10_init_292 : decode cX10_init 292 = .ok (.aload_n 0, 1) := by decide +kernel
theorem dX10_init_293 : decode cX10_init 293 = .ok (.iconst (-1), 1) := by decide +kernel
theorem dX10_init_294 : decode cX10_init 294 = .ok (.putfield 119, 3) := by decide +kernel
theorem dX10_init_297 : decode cX10_init 297 = .ok (.aload_n 0, 1) := by decide +kernel
theorem dX10_init_298 : decode cX10_init 298 = .ok (.iconst (-1), 1) := by decide +kernel
theorem dX10_init_299 : decode cX10_init 299 = .ok (.putfield 122, 3) := by decide +kernel
theorem dX10_init_302 : decode cX10_init 302 = .ok (.aload_n 0, 1) := by decide +kernel
theorem dX10_init_303 : decode cX10_init 303 = .ok (.getfield 24, 3) := by decide +kernel
theorem dX10_init_306 : decode cX10_init 306 = .ok (.iconst 0, 1) := by decide +kernel
theorem dX10_init_307 : decode cX10_init 307 = .ok (.iconst (-1), 1) := by decide +kernel
theorem dX10_init_308 : decode cX10_init 308 = .ok (.iastore, 1) := by decide +kernel
theorem dX10_init_309 : decode cX10_init 309 = .ok (.aload_n 0, 1) := by decide +kernel
theorem dX10_init_310 : decode cX10_init 310 = .ok (.getfield 27, 3) := by decide +kernel
theorem dX10_init_313 : decode cX10_init 313 = .ok (.iconst 0, 1) := by decide +kernel
theorem dX10_init_314 : decode cX10_init 314 = .ok (.iconst (-1), 1) := by decide +kernel
theorem dX10_init_315 : decode cX10_init 315 = .ok (.iastore, 1) := by decide +kernel
theorem dX10_init_316 : decode cX10_init 316 = .ok (.aload_n 0, 1) := by decide +kernel
theorem dX10_init_317 : decode cX10_init 317 = .ok (.getfield 33, 3) := by decide +kernel
theorem dX10_init_320 : decode cX10_init 320 = .ok (.iconst 0, 1) := by decide +kernel
theorem dX10_init_321 : decode cX10_init 321 = .ok (.iconst 1, 1) := by decide +kernel
theorem dX10_init_322 : decode cX10_init 322 = .ok (.bastore, 1) := by decide +kernel
theorem dX10_init_323 : decode cX10_init 323 = .ok (.return_, 1) := by decide +kernel
theorem dX10_thrown_0 : decode cX10_thrown 0 = .ok (.aload_n 0, 1) := by decide +kernel
theorem dX10_thrown_1 : decode cX10_thrown 1 = .ok (.getfield 125, 3) := by decide +kernel
theorem dX10_thrown_4 : decode cX10_thrown 4 = .ok (.ireturn, 1) := by decide +kernel
theorem dX10_near_0 : decode cX10_near 0 = .ok (.iload_n 0, 1) := by decide +kernel
theorem dX10_near_1 : decode cX10_near 1 = .ok (.iload_n 1, 1) := by decide +kernel
theorem dX10_near_2 : decode cX10_near 2 = .ok (.if_icmp .ge 7, 3) := by decide +kernel
theorem dX10_near_5 : decode cX10_near 5 = .ok (.iload_n 1, 1) := by decide +kernel
theorem dX10_near_6 : decode cX10_near 6 = .ok (.goto 13, 3) := by decide +kernel
theorem dX10_near_9 : decode cX10_near 9 = .ok (.iload_n 0, 1) := by decide +kernel
theorem dX10_near_10 : decode cX10_near 10 = .ok (.iload_n 2, 1) := by decide +kernel
theorem dX10_near_11 : decode cX10_near 11 = .ok (.if_icmp .le 7, 3) := by decide +kernel
theorem dX10_near_14 : decode cX10_near 14 = .ok (.iload_n 2, 1) := by decide +kernel
theorem dX10_near_15 : decode cX10_near 15 = .ok (.goto 4, 3) := by decide +kernel
theorem dX10_near_18 : decode cX10_near 18 = .ok (.iload_n 0, 1) := by decide +kernel
theorem dX10_near_19 : decode cX10_near 19 = .ok (.ireturn, 1) := by decide +kernel
theorem dX10_isIn_0 : decode cX10_isIn 0 = .ok (.iload_n 0, 1) := by decide +kernel
theorem dX10_isIn_1 : decode cX10_isIn 1 = .ok (.iload_n 1, 1) := by decide +kernel
theorem dX10_isIn_2 : decode cX10_isIn 2 = .ok (.if_icmp .lt 12, 3) := by decide +kernel
theorem dX10_isIn_5 : decode cX10_isIn 5 = .ok (.iload_n 0, 1) := by decide +kernel
theorem dX10_isIn_6 : decode cX10_isIn 6 = .ok (.iload_n 2, 1) := by decide +kernel
theorem dX10_isIn_7 : decode cX10_isIn 7 = .ok (.if_icmp .gt 7, 3) := by decide +kernel
theorem dX10_isIn_10 : decode cX10_isIn 10 = .ok (.iconst 1, 1) := by decide +kernel
theorem dX10_isIn_11 : decode cX10_isIn 11 = .ok (.goto 4, 3) := by decide +kernel
theorem dX10_isIn_14 : decode cX10_isIn 14 = .ok (.iconst 0, 1) := by decide +kernel
theorem dX10_isIn_15 : decode cX10_isIn 15 = .ok (.ireturn, 1) := by decide +kernel
theorem dX10_per_0 : decode cX10_per 0 = .ok (.aload_n 0, 1) := by decide +kernel
theorem dX10_per_1 : decode cX10_per 1 = .ok (.getfield 110, 3) := by decide +kernel
theorem dX10_per_4 : decode cX10_per 4 = .ok (.aload_n 0, 1) := by decide +kernel
theorem dX10_per_5 : decode cX10_per 5 = .ok (.getfield 116, 3) := by decide +kernel
theorem dX10_per_8 : decode cX10_per 8 = .ok (.iconst 1, 1) := by decide +kernel
theorem dX10_per_9 : decode cX10_per 9 = .ok (.iadd, 1) := by decide +kernel
theorem dX10_per_10 : decode cX10_per 10 = .ok (.idiv, 1) := by decide +kernel
theorem dX10_per_11 : decode cX10_per 11 = .ok (.ireturn, 1) := by decide +kernel
theorem dX10_go_0 : decode cX10_go 0 = .ok (.aload_n 0, 1) := by decide +kernel
theorem dX10_go_1 : decode cX10_go 1 = .ok (.dup, 1) := by decide +kernel
theorem dX10_go_2 : decode cX10_go 2 = .ok (.getfield 128, 3) := by decide +kernel
theorem dX10_go_5 : decode cX10_go 5 = .ok (.iload_n 1, 1) := by decide +kernel
theorem dX10_go_6 : decode cX10_go 6 = .ok (.aload_n 0, 1) := by decide +kernel
theorem dX10_go_7 : decode cX10_go 7 = .ok (.getfield 131, 3) := by decide +kernel
theorem dX10_go_10 : decode cX10_go 10 = .ok (.if_icmp .le 12, 3) := by decide +kernel
theorem dX10_go_13 : decode cX10_go 13 = .ok (.iload_n 1, 1) := by decide +kernel
theorem dX10_go_14 : decode cX10_go 14 = .ok (.aload_n 0, 1) := by decide +kernel
theorem dX10_go_15 : decode cX10_go 15 = .ok (.getfield 131, 3) := by decide +kernel
theorem dX10_go_18 : decode cX10_go 18 = .ok (.isub, 1) := by decide +kernel
theorem dX10_go_19 : decode cX10_go 19 = .ok (.goto 9, 3) := by decide +kernel
theorem dX10_go_22 : decode cX10_go 22 = .ok (.aload_n 0, 1) := by decide +kernel
theorem dX10_go_23 : decode cX10_go 23 = .ok (.getfield 131, 3) := by decide +kernel
theorem dX10_go_26 : decode cX10_go 26 = .ok (.iload_n 1, 1) := by decide +kernel
theorem dX10_go_27 : decode cX10_go 27 = .ok (.isub, 1) := by decide +kernel
theorem dX10_go_28 : decode cX10_go 28 = .ok (.iadd, 1) := by decide +kernel
theorem dX10_go_29 : decode cX10_go 29 = .ok (.putfield 128, 3) := by decide +kernel
theorem dX10_go_32 : decode cX10_go 32 = .ok (.aload_n 0, 1) := by decide +kernel
theorem dX10_go_33 : decode cX10_go 33 = .ok (.iload_n 1, 1) := by decide +kernel
theorem dX10_go_34 : decode cX10_go 34 = .ok (.putfield 131, 3) := by decide +kernel
theorem dX10_go_37 : decode cX10_go 37 = .ok (.aload_n 0, 1) := by decide +kernel
theorem dX10_go_38 : decode cX10_go 38 = .ok (.iload_n 1, 1) := by decide +kernel
theorem dX10_go_39 : decode cX10_go 39 = .ok (.putfield 119, 3) := by decide +kernel
theorem dX10_go_42 : decode cX10_go 42 = .ok (.return_, 1) := by decide +kernel
set_option maxRecDepth 20000 in
theorem ggX10_read_X10_go : GoodIn wsX10_read wsX10_go := goodIn_r _ [7, 8, 9, 10, 11, 12, 13, 14, 15, 16, 17, 18, 19, 20, 21, 22, 23, 24, 25, 26, 27, 28, 29, 30, 31, 32, 33, 34, 35, 36, 37, 38, 39, 40, 41, 42, 43, 44, 45, 46, 47, 48, 49, 50, 51, 52, 53, 54, 55, 56, 57, 58, 59, 60, 61, 62, 63, 64, 65, 66, 67] (by decide +kernel) (by decide +kernel)
set_option maxRecDepth 20000 in
theorem gX10_read_X10_go : GoodIn wsX10_read (wsV RX10 140 RX10 yX10_go wsX10_go) := goodIn_app (goodIn_of _ (by decide +kernel)) ggX10_read_X10_go
theorem dX10_read_0 : decode cX10_read 0 = .ok (.aload_n 0, 1) := by decide +kernel
theorem dX10_read_1 : decode cX10_read 1 = .ok (.getfield 134, 3) := by decide +kernel
theorem dX10_read_4 : decode cX10_read 4 = .ok (.ifCond .ne 18, 3) := by decide +kernel
theorem dX10_read_7 : decode cX10_read 7 = .ok (.aload_n 0, 1) := by decide +kernel
theorem dX10_read_8 : decode cX10_read 8 = .ok (.dup, 1) := by decide +kernel
theorem dX10_read_9 : decode cX10_read 9 = .ok (.getfield 137, 3) := by decide +kernel
theorem dX10_read_12 : decode cX10_read 12 = .ok (.iconst 1, 1) := by decide +kernel
theorem dX10_read_13 : decode cX10_read 13 = .ok (.iadd, 1) := by decide +kernel
theorem dX10_read_14 : decode cX10_read 14 = .ok (.putfield 137, 3) := by decide +kernel
theorem dX10_read_17 : decode cX10_read 17 = .ok (.aload_n 0, 1) := by decide +kernel
theorem dX10_read_18 : decode cX10_read 18 = .ok (.iload_n 1, 1) := by decide +kernel
theorem dX10_read_19 : decode cX10_read 19 = .ok (.invokevirtual 140, 3) := by decide +kernel
theorem dX10_read_22 : decode cX10_read 22 = .ok (.return_, 1) := by decide +kernel
set_option maxRecDepth 20000 in
theorem ggX10_write_X10_go : GoodIn wsX10_write wsX10_go := goodIn_r _ [14, 15, 16, 17, 18, 19, 20, 21, 22, 23, 24, 25, 26, 27, 28, 29, 30, 31, 32, 33, 34, 35, 36, 37, 38, 39, 40, 41, 42, 43, 44, 45, 46, 47, 48, 49, 50, 51, 52, 53, 54, 55, 56, 57, 58, 59, 60, 61, 62, 63, 64, 65, 66, 67, 68, 69, 70, 71, 72, 73, 74] (by decide +kernel) (by decide +kernel)
set_option maxRecDepth 20000 in
theorem gX10_write_X10_go : GoodIn wsX10_write (wsV RX10 140 RX10 yX10_go wsX10_go) := goodIn_app (goodIn_of _ (by decide +kernel)) ggX10_write_X10_go
theorem dX10_write_0 : decode cX10_write 0 = .ok (.iconst 0, 1) := by decide +kernel
theorem dX10_write_1 : decode cX10_write 1 = .ok (.istore_n 3, 1) := by decide +kernel
theorem dX10_write_2 : decode cX10_write 2 = .ok (.iload_n 3, 1) := by decide +kernel
theorem dX10_write_3 : decode cX10_write 3 = .ok (.aload_n 0, 1) := by decide +kernel
theorem dX10_write_4 : decode cX10_write 4 = .ok (.getfield 106, 3) := by decide +kernel
theorem dX10_write_7 : decode cX10_write 7 = .ok (.if_icmp .ge 18, 3) := by decide +kernel
theorem dX10_write_10 : decode cX10_write 10 = .ok (.aload_n 0, 1) := by decide +kernel
theorem dX10_write_11 : decode cX10_write 11 = .ok (.getfield 13, 3) := by decide +kernel
theorem dX10_write_14 : decode cX10_write 14 = .ok (.iload_n 3, 1) := by decide +kernel
theorem dX10_write_15 : decode cX10_write 15 = .ok (.baload, 1) := by decide +kernel
theorem dX10_write_16 : decode cX10_write 16 = .ok (.ifCond .eq 9, 3) := by decide +kernel
theorem dX10_write_19 : decode cX10_write 19 = .ok (.iinc 3 1, 3) := by decide +kernel
theorem dX10_write_22 : decode cX10_write 22 = .ok (.goto (-20), 3) := by decide +kernel
theorem dX10_write_25 : decode cX10_write 25 = .ok (.aload_n 0, 1) := by decide +kernel
theorem dX10_write_26 : decode cX10_write 26 = .ok (.getfield 134, 3) := by decide +kernel
theorem dX10_write_29 : decode cX10_write 29 = .ok (.ifCond .ne 31, 3) := by decide +kernel
theorem dX10_write_32 : decode cX10_write 32 = .ok (.aload_n 0, 1) := by decide +kernel
theorem dX10_write_33 : decode cX10_write 33 = .ok (.iload_n 3, 1) := by decide +kernel
theorem dX10_write_34 : decode cX10_write 34 = .ok (.aload_n 0, 1) := by decide +kernel
theorem dX10_write_35 : decode cX10_write 35 = .ok (.getfield 106, 3) := by decide +kernel
theorem dX10_write_38 : decode cX10_write 38 = .ok (.if_icmp .ne 7, 3) := by decide +kernel
theorem dX10_write_41 : decode cX10_write 41 = .ok (.iconst 2, 1) := by decide +kernel
theorem dX10_write_42 : decode cX10_write 42 = .ok (.goto 15, 3) := by decide +kernel
theorem dX10_write_45 : decode cX10_write 45 = .ok (.aload_n 0, 1) := by decide +kernel
theorem dX10_write_46 : decode cX10_write 46 = .ok (.getfield 122, 3) := by decide +kernel
theorem dX10_write_49 : decode cX10_write 49 = .ok (.ifCond .ne 7, 3) := by decide +kernel
theorem dX10_write_52 : decode cX10_write 52 = .ok (.iconst 1, 1) := by decide +kernel
theorem dX10_write_53 : decode cX10_write 53 = .ok (.goto 4, 3) := by decide +kernel
theorem dX10_write_56 : decode cX10_write 56 = .ok (.iconst 0, 1) := by decide +kernel
theorem dX10_write_57 : decode cX10_write 57 = .ok (.putfield 134, 3) := by decide +kernel
theorem dX10_write_60 : decode cX10_write 60 = .ok (.aload_n 0, 1) := by decide +kernel
theorem dX10_write_61 : decode cX10_write 61 = .ok (.getfield 134, 3) := by decide +kernel
theorem dX10_write_64 : decode cX10_write 64 = .ok (.ifCond .le 5, 3) := by decide +kernel
theorem dX10_write_67 : decode cX10_write 67 = .ok (.iconst (-1), 1) := by decide +kernel
theorem dX10_write_68 : decode cX10_write 68 = .ok (.ireturn, 1) := by decide +kernel
theorem dX10_write_69 : decode cX10_write 69 = .ok (.aload_n 0, 1) := by decide +kernel
theorem dX10_write_70 : decode cX10_write 70 = .ok (.aload_n 0, 1) := by decide +kernel
theorem dX10_write_71 : decode cX10_write 71 = .ok (.getfield 122, 3) := by decide +kernel
theorem dX10_write_74 : decode cX10_write 74 = .ok (.ifCond .le 12, 3) := by decide +kernel
theorem dX10_write_77 : decode cX10_write 77 = .ok (.aload_n 0, 1) := by decide +kernel
theorem dX10_write_78 : decode cX10_write 78 = .ok (.getfield 122, 3) := by decide +kernel
theorem dX10_write_81 : decode cX10_write 81 = .ok (.iconst 1, 1) := by decide +kernel
theorem dX10_write_82 : decode cX10_write 82 = .ok (.isub, 1) := by decide +kernel
theorem dX10_write_83 : decode cX10_write 83 = .ok (.goto 7, 3) := by decide +kernel
theorem dX10_write_86 : decode cX10_write 86 = .ok (.aload_n 0, 1) := by decide +kernel
theorem dX10_write_87 : decode cX10_write 87 = .ok (.getfield 122, 3) := by decide +kernel
theorem dX10_write_90 : decode cX10_write 90 = .ok (.putfield 122, 3) := by decide +kernel
theorem dX10_write_93 : decode cX10_write 93 = .ok (.aload_n 0, 1) := by decide +kernel
theorem dX10_write_94 : decode cX10_write 94 = .ok (.getfield 13, 3) := by decide +kernel
theorem dX10_write_97 : decode cX10_write 97 = .ok (.iload_n 3, 1) := by decide +kernel
theorem dX10_write_98 : decode cX10_write 98 = .ok (.iconst 1, 1) := by decide +kernel
theorem dX10_write_99 : decode cX10_write 99 = .ok (.bastore, 1) := by decide +kernel
theorem dX10_write_100 : decode cX10_write 100 = .ok (.aload_n 0, 1) := by decide +kernel
theorem dX10_write_101 : decode cX10_write 101 = .ok (.getfield 17, 3) := by decide +kernel
theorem dX10_write_104 : decode cX10_write 104 = .ok (.iload_n 3, 1) := by decide +kernel
theorem dX10_write_105 : decode cX10_write 105 = .ok (.iconst 1, 1) := by decide +kernel
theorem dX10_write_106 : decode cX10_write 106 = .ok (.bastore, 1) := by decide +kernel
theorem dX10_write_107 : decode cX10_write 107 = .ok (.aload_n 0, 1) := by decide +kernel
theorem dX10_write_108 : decode cX10_write 108 = .ok (.getfield 20, 3) := by decide +kernel
theorem dX10_write_111 : decode cX10_write 111 = .ok (.iload_n 3, 1) := by decide +kernel
theorem dX10_write_112 : decode cX10_write 112 = .ok (.iconst (-1), 1) := by decide +kernel
theorem dX10_write_113 : decode cX10_write 113 = .ok (.iastore, 1) := by decide +kernel
theorem dX10_write_114 : decode cX10_write 114 = .ok (.aload_n 0, 1) := by decide +kernel
theorem dX10_write_115 : decode cX10_write 115 = .ok (.dup, 1) := by decide +kernel
theorem dX10_write_116 : decode cX10_write 116 = .ok (.getfield 144, 3) := by decide +kernel
theorem dX10_write_119 : decode cX10_write 119 = .ok (.iconst 1, 1) := by decide +kernel
theorem dX10_write_120 : decode cX10_write 120 = .ok (.iadd, 1) := by decide +kernel
theorem dX10_write_121 : decode cX10_write 121 = .ok (.putfield 144, 3) := by decide +kernel
theorem dX10_write_124 : decode cX10_write 124 = .ok (.aload_n 0, 1) := by decide +kernel
theorem dX10_write_125 : decode cX10_write 125 = .ok (.iload_n 3, 1) := by decide +kernel
theorem dX10_write_126 : decode cX10_write 126 = .ok (.invokevirtual 140, 3) := by decide +kernel
theorem dX10_write_129 : decode cX10_write 129 = .ok (.iconst 0, 1) := by decide +kernel
theorem dX10_write_130 : decode cX10_write 130 = .ok (.istore 4, 2) := by decide +kernel
theorem dX10_write_132 : decode cX10_write 132 = .ok (.iload 4, 2) := by decide +kernel
theorem dX10_write_134 : decode cX10_write 134 = .ok (.iload_n 2, 1) := by decide +kernel
theorem dX10_write_135 : decode cX10_write 135 = .ok (.aload_n 0, 1) := by decide +kernel
theorem dX10_write_136 : decode cX10_write 136 = .ok (.getfield 116, 3) := by decide +kernel
theorem dX10_write_139 : decode cX10_write 139 = .ok (.iconst 1, 1) := by decide +kernel
theorem dX10_write_140 : decode cX10_write 140 = .ok (.iadd, 1) := by decide +kernel
theorem dX10_write_141 : decode cX10_write 141 = .ok (.imul, 1) := by decide +kernel
theorem dX10_write_142 : decode cX10_write 142 = .ok (.if_icmp .ge 25, 3) := by decide +kernel
theorem dX10_write_145 : decode cX10_write 145 = .ok (.aload_n 0, 1) := by decide +kernel
theorem dX10_write_146 : decode cX10_write 146 = .ok (.getfield 7, 3) := by decide +kernel
theorem dX10_write_149 : decode cX10_write 149 = .ok (.bipush 64, 2) := by decide +kernel
theorem dX10_write_151 : decode cX10_write 151 = .ok (.iload_n 3, 1) := by decide +kernel
theorem dX10_write_152 : decode cX10_write 152 = .ok (.imul, 1) := by decide +kernel
theorem dX10_write_153 : decode cX10_write 153 = .ok (.iload 4, 2) := by decide +kernel
theorem dX10_write_155 : decode cX10_write 155 = .ok (.iadd, 1) := by decide +kernel
theorem dX10_write_156 : decode cX10_write 156 = .ok (.aload_n 1, 1) := by decide +kernel
theorem dX10_write_157 : decode cX10_write 157 = .ok (.iload 4, 2) := by decide +kernel
theorem dX10_write_159 : decode cX10_write 159 = .ok (.laload, 1) := by decide +kernel
theorem dX10_write_160 : decode cX10_write 160 = .ok (.lastore, 1) := by decide +kernel
theorem dX10_write_161 : decode cX10_write 161 = .ok (.iinc 4 1, 3) := by decide +kernel
theorem dX10_write_164 : decode cX10_write 164 = .ok (.goto (-32), 3) := by decide +kernel
theorem dX10_write_167 : decode cX10_write 167 = .ok (.iload_n 3, 1) := by decide +kernel
theorem dX10_write_168 : decode cX10_write 168 = .ok (.ireturn, 1) := by decide +kernel
theorem dX10_begin_0 : decode cX10_begin 0 = .ok (.aload_n 0, 1) := by decide +kernel
theorem dX10_begin_1 : decode cX10_begin 1 = .ok (.iconst 0, 1) := by decide +kernel
theorem dX10_begin_2 : decode cX10_begin 2 = .ok (.putfield 134, 3) := by decide +kernel
theorem dX10_begin_5 : decode cX10_begin 5 = .ok (.iconst 0, 1) := by decide +kernel
theorem dX10_begin_6 : decode cX10_begin 6 = .ok (.istore_n 1, 1) := by decide +kernel
theorem dX10_begin_7 : decode cX10_begin 7 = .ok (.iload_n 1, 1) := by decide +kernel
theorem dX10_begin_8 : decode cX10_begin 8 = .ok (.aload_n 0, 1) := by decide +kernel
theorem dX10_begin_9 : decode cX10_begin 9 = .ok (.getfield 106, 3) := by decide +kernel
theorem dX10_begin_12 : decode cX10_begin 12 = .ok (.if_icmp .ge 16, 3) := by decide +kernel
theorem dX10_begin_15 : decode cX10_begin 15 = .ok (.aload_n 0, 1) := by decide +kernel
theorem dX10_begin_16 : decode cX10_begin 16 = .ok (.getfield 17, 3) := by decide +kernel
theorem dX10_begin_19 : decode cX10_begin 19 = .ok (.iload_n 1, 1) := by decide +kernel
theorem dX10_begin_20 : decode cX10_begin 20 = .ok (.iconst 0, 1) := by decide +kernel
theorem dX10_begin_21 : decode cX10_begin 21 = .ok (.bastore, 1) := by decide +kernel
theorem dX10_begin_22 : decode cX10_begin 22 = .ok (.iinc 1 1, 3) := by decide +kernel
theorem dX10_begin_25 : decode cX10_begin 25 = .ok (.goto (-18), 3) := by decide +kernel
theorem dX10_begin_28 : decode cX10_begin 28 = .ok (.return_, 1) := by decide +kernel
theorem dX10_giveBack_0 : decode cX10_giveBack 0 = .ok (.iconst 0, 1) := by decide +kernel
theorem dX10_giveBack_1 : decode cX10_giveBack 1 = .ok (.istore_n 1, 1) := by decide +kernel
theorem dX10_giveBack_2 : decode cX10_giveBack 2 = .ok (.iload_n 1, 1) := by decide +kernel
theorem dX10_giveBack_3 : decode cX10_giveBack 3 = .ok (.aload_n 0, 1) := by decide +kernel
theorem dX10_giveBack_4 : decode cX10_giveBack 4 = .ok (.getfield 106, 3) := by decide +kernel
theorem dX10_giveBack_7 : decode cX10_giveBack 7 = .ok (.if_icmp .ge 38, 3) := by decide +kernel
theorem dX10_giveBack_10 : decode cX10_giveBack 10 = .ok (.aload_n 0, 1) := by decide +kernel
theorem dX10_giveBack_11 : decode cX10_giveBack 11 = .ok (.getfield 13, 3) := by decide +kernel
theorem dX10_giveBack_14 : decode cX10_giveBack 14 = .ok (.iload_n 1, 1) := by decide +kernel
theorem dX10_giveBack_15 : decode cX10_giveBack 15 = .ok (.aload_n 0, 1) := by decide +kernel
theorem dX10_giveBack_16 : decode cX10_giveBack 16 = .ok (.getfield 13, 3) := by decide +kernel
theorem dX10_giveBack_19 : decode cX10_giveBack 19 = .ok (.iload_n 1, 1) := by decide +kernel
theorem dX10_giveBack_20 : decode cX10_giveBack 20 = .ok (.baload, 1) := by decide +kernel
theorem dX10_giveBack_21 : decode cX10_giveBack 21 = .ok (.ifCond .eq 16, 3) := by decide +kernel
theorem dX10_giveBack_24 : decode cX10_giveBack 24 = .ok (.aload_n 0, 1) := by decide +kernel
theorem dX10_giveBack_25 : decode cX10_giveBack 25 = .ok (.getfield 17, 3) := by decide +kernel
theorem dX10_giveBack_28 : decode cX10_giveBack 28 = .ok (.iload_n 1, 1) := by decide +kernel
theorem dX10_giveBack_29 : decode cX10_giveBack 29 = .ok (.baload, 1) := by decide +kernel
theorem dX10_giveBack_30 : decode cX10_giveBack 30 = .ok (.ifCond .ne 7, 3) := by decide +kernel
theorem dX10_giveBack_33 : decode cX10_giveBack 33 = .ok (.iconst 1, 1) := by decide +kernel
theorem dX10_giveBack_34 : decode cX10_giveBack 34 = .ok (.goto 4, 3) := by decide +kernel
theorem dX10_giveBack_37 : decode cX10_giveBack 37 = .ok (.iconst 0, 1) := by decide +kernel
theorem dX10_giveBack_38 : decode cX10_giveBack 38 = .ok (.bastore, 1) := by decide +kernel
theorem dX10_giveBack_39 : decode cX10_giveBack 39 = .ok (.iinc 1 1, 3) := by decide +kernel
theorem dX10_giveBack_42 : decode cX10_giveBack 42 = .ok (.goto (-40), 3) := by decide +kernel
theorem dX10_giveBack_45 : decode cX10_giveBack 45 = .ok (.return_, 1) := by decide +kernel
theorem dX10_hang_0 : decode cX10_hang 0 = .ok (.iload_n 2, 1) := by decide +kernel
theorem dX10_hang_1 : decode cX10_hang 1 = .ok (.iconst (-1), 1) := by decide +kernel
theorem dX10_hang_2 : decode cX10_hang 2 = .ok (.if_icmp .ne 4, 3) := by decide +kernel
theorem dX10_hang_5 : decode cX10_hang 5 = .ok (.return_, 1) := by decide +kernel
theorem dX10_hang_6 : decode cX10_hang 6 = .ok (.aload_n 0, 1) := by decide +kernel
theorem dX10_hang_7 : decode cX10_hang 7 = .ok (.getfield 24, 3) := by decide +kernel
theorem dX10_hang_10 : decode cX10_hang 10 = .ok (.iload_n 1, 1) := by decide +kernel
theorem dX10_hang_11 : decode cX10_hang 11 = .ok (.iaload, 1) := by decide +kernel
theorem dX10_hang_12 : decode cX10_hang 12 = .ok (.iconst (-1), 1) := by decide +kernel
theorem dX10_hang_13 : decode cX10_hang 13 = .ok (.if_icmp .ne 13, 3) := by decide +kernel
theorem dX10_hang_16 : decode cX10_hang 16 = .ok (.aload_n 0, 1) := by decide +kernel
theorem dX10_hang_17 : decode cX10_hang 17 = .ok (.getfield 24, 3) := by decide +kernel
theorem dX10_hang_20 : decode cX10_hang 20 = .ok (.iload_n 1, 1) := by decide +kernel
theorem dX10_hang_21 : decode cX10_hang 21 = .ok (.iload_n 2, 1) := by decide +kernel
theorem dX10_hang_22 : decode cX10_hang 22 = .ok (.iastore, 1) := by decide +kernel
theorem dX10_hang_23 : decode cX10_hang 23 = .ok (.goto 15, 3) := by decide +kernel
theorem dX10_hang_26 : decode cX10_hang 26 = .ok (.aload_n 0, 1) := by decide +kernel
theorem dX10_hang_27 : decode cX10_hang 27 = .ok (.getfield 20, 3) := by decide +kernel
theorem dX10_hang_30 : decode cX10_hang 30 = .ok (.aload_n 0, 1) := by decide +kernel
theorem dX10_hang_31 : decode cX10_hang 31 = .ok (.getfield 27, 3) := by decide +kernel
theorem dX10_hang_34 : decode cX10_hang 34 = .ok (.iload_n 1, 1) := by decide +kernel
theorem dX10_hang_35 : decode cX10_hang 35 = .ok (.iaload, 1) := by decide +kernel
theorem dX10_hang_36 : decode cX10_hang 36 = .ok (.iload_n 2, 1) := by decide +kernel
theorem dX10_hang_37 : decode cX10_hang 37 = .ok (.iastore, 1) := by decide +kernel
theorem dX10_hang_38 : decode cX10_hang 38 = .ok (.aload_n 0, 1) := by decide +kernel
theorem dX10_hang_39 : decode cX10_hang 39 = .ok (.getfield 27, 3) := by decide +kernel
theorem dX10_hang_42 : decode cX10_hang 42 = .ok (.iload_n 1, 1) := by decide +kernel
theorem dX10_hang_43 : decode cX10_hang 43 = .ok (.iload_n 2, 1) := by decide +kernel
theorem dX10_hang_44 : decode cX10_hang 44 = .ok (.iastore, 1) := by decide +kernel
theorem dX10_hang_45 : decode cX10_hang 45 = .ok (.aload_n 0, 1) := by decide +kernel
theorem dX10_hang_46 : decode cX10_hang 46 = .ok (.getfield 30, 3) := by decide +kernel
theorem dX10_hang_49 : decode cX10_hang 49 = .ok (.iload_n 1, 1) := by decide +kernel
theorem dX10_hang_50 : decode cX10_hang 50 = .ok (.dup2, 1) := by decide +kernel
theorem dX10_hang_51 : decode cX10_hang 51 = .ok (.iaload, 1) := by decide +kernel
theorem dX10_hang_52 : decode cX10_hang 52 = .ok (.iload_n 3, 1) := by decide +kernel
theorem dX10_hang_53 : decode cX10_hang 53 = .ok (.iadd, 1) := by decide +kernel
theorem dX10_hang_54 : decode cX10_hang 54 = .ok (.iastore, 1) := by decide +kernel
theorem dX10_hang_55 : decode cX10_hang 55 = .ok (.return_, 1) := by decide +kernel
theorem dX10_free_0 : decode cX10_free 0 = .ok (.aload_n 0, 1) := by decide +kernel
theorem dX10_free_1 : decode cX10_free 1 = .ok (.getfield 24, 3) := by decide +kernel
theorem dX10_free_4 : decode cX10_free 4 = .ok (.iload_n 1, 1) := by decide +kernel
theorem dX10_free_5 : decode cX10_free 5 = .ok (.iaload, 1) := by decide +kernel
theorem dX10_free_6 : decode cX10_free 6 = .ok (.istore_n 2, 1) := by decide +kernel
theorem dX10_free_7 : decode cX10_free 7 = .ok (.iload_n 2, 1) := by decide +kernel
theorem dX10_free_8 : decode cX10_free 8 = .ok (.iconst (-1), 1) := by decide +kernel
theorem dX10_free_9 : decode cX10_free 9 = .ok (.if_icmp .eq 20, 3) := by decide +kernel
theorem dX10_free_12 : decode cX10_free 12 = .ok (.aload_n 0, 1) := by decide +kernel
theorem dX10_free_13 : decode cX10_free 13 = .ok (.getfield 13, 3) := by decide +kernel
theorem dX10_free_16 : decode cX10_free 16 = .ok (.iload_n 2, 1) := by decide +kernel
theorem dX10_free_17 : decode cX10_free 17 = .ok (.iconst 0, 1) := by decide +kernel
theorem dX10_free_18 : decode cX10_free 18 = .ok (.bastore, 1) := by decide +kernel
theorem dX10_free_19 : decode cX10_free 19 = .ok (.aload_n 0, 1) := by decide +kernel
theorem dX10_free_20 : decode cX10_free 20 = .ok (.getfield 20, 3) := by decide +kernel
theorem dX10_free_23 : decode cX10_free 23 = .ok (.iload_n 2, 1) := by decide +kernel
theorem dX10_free_24 : decode cX10_free 24 = .ok (.iaload, 1) := by decide +kernel
theorem dX10_free_25 : decode cX10_free 25 = .ok (.istore_n 2, 1) := by decide +kernel
theorem dX10_free_26 : decode cX10_free 26 = .ok (.goto (-19), 3) := by decide +kernel
theorem dX10_free_29 : decode cX10_free 29 = .ok (.aload_n 0, 1) := by decide +kernel
theorem dX10_free_30 : decode cX10_free 30 = .ok (.getfield 24, 3) := by decide +kernel
theorem dX10_free_33 : decode cX10_free 33 = .ok (.iload_n 1, 1) := by decide +kernel
theorem dX10_free_34 : decode cX10_free 34 = .ok (.iconst (-1), 1) := by decide +kernel
theorem dX10_free_35 : decode cX10_free 35 = .ok (.iastore, 1) := by decide +kernel
theorem dX10_free_36 : decode cX10_free 36 = .ok (.aload_n 0, 1) := by decide +kernel
theorem dX10_free_37 : decode cX10_free 37 = .ok (.getfield 27, 3) := by decide +kernel
theorem dX10_free_40 : decode cX10_free 40 = .ok (.iload_n 1, 1) := by decide +kernel
theorem dX10_free_41 : decode cX10_free 41 = .ok (.iconst (-1), 1) := by decide +kernel
theorem dX10_free_42 : decode cX10_free 42 = .ok (.iastore, 1) := by decide +kernel
theorem dX10_free_43 : decode cX10_free 43 = .ok (.aload_n 0, 1) := by decide +kernel
theorem dX10_free_44 : decode cX10_free 44 = .ok (.getfield 30, 3) := by decide +kernel
theorem dX10_free_47 : decode cX10_free 47 = .ok (.iload_n 1, 1) := by decide +kernel
theorem dX10_free_48 : decode cX10_free 48 = .ok (.iconst 0, 1) := by decide +kernel
theorem dX10_free_49 : decode cX10_free 49 = .ok (.iastore, 1) := by decide +kernel
theorem dX10_free_50 : decode cX10_free 50 = .ok (.aload_n 0, 1) := by decide +kernel
theorem dX10_free_51 : decode cX10_free 51 = .ok (.getfield 33, 3) := by decide +kernel
theorem dX10_free_54 : decode cX10_free 54 = .ok (.iload_n 1, 1) := by decide +kernel
theorem dX10_free_55 : decode cX10_free 55 = .ok (.iload_n 1, 1) := by decide +kernel
theorem dX10_free_56 : decode cX10_free 56 = .ok (.ifCond .ne 7, 3) := by decide +kernel
theorem dX10_free_59 : decode cX10_free 59 = .ok (.iconst 1, 1) := by decide +kernel
theorem dX10_free_60 : decode cX10_free 60 = .ok (.goto 4, 3) := by decide +kernel
theorem dX10_free_63 : decode cX10_free 63 = .ok (.iconst 0, 1) := by decide +kernel
theorem dX10_free_64 : decode cX10_free 64 = .ok (.bastore, 1) := by decide +kernel
theorem dX10_free_65 : decode cX10_free 65 = .ok (.return_, 1) := by decide +kernel
theorem dX10_newFile_0 : decode cX10_newFile 0 = .ok (.iconst 1, 1) := by decide +kernel
theorem dX10_newFile_1 : decode cX10_newFile 1 = .ok (.istore_n 1, 1) := by decide +kernel
theorem dX10_newFile_2 : decode cX10_newFile 2 = .ok (.aload_n 0, 1) := by decide +kernel
theorem dX10_newFile_3 : decode cX10_newFile 3 = .ok (.getfield 33, 3) := by decide +kernel
theorem dX10_newFile_6 : decode cX10_newFile 6 = .ok (.iload_n 1, 1) := by decide +kernel
theorem dX10_newFile_7 : decode cX10_newFile 7 = .ok (.baload, 1) := by decide +kernel
theorem dX10_newFile_8 : decode cX10_newFile 8 = .ok (.ifCond .eq 9, 3) := by decide +kernel
theorem dX10_newFile_11 : decode cX10_newFile 11 = .ok (.iinc 1 1, 3) := by decide +kernel
theorem dX10_newFile_14 : decode cX10_newFile 14 = .ok (.goto (-12), 3) := by decide +kernel
theorem dX10_newFile_17 : decode cX10_newFile 17 = .ok (.aload_n 0, 1) := by decide +kernel
theorem dX10_newFile_18 : decode cX10_newFile 18 = .ok (.getfield 33, 3) := by decide +kernel
theorem dX10_newFile_21 : decode cX10_newFile 21 = .ok (.iload_n 1, 1) := by decide +kernel
theorem dX10_newFile_22 : decode cX10_newFile 22 = .ok (.iconst 1, 1) := by decide +kernel
theorem dX10_newFile_23 : decode cX10_newFile 23 = .ok (.bastore, 1) := by decide +kernel
theorem dX10_newFile_24 : decode cX10_newFile 24 = .ok (.aload_n 0, 1) := by decide +kernel
theorem dX10_newFile_25 : decode cX10_newFile 25 = .ok (.getfield 24, 3) := by decide +kernel
theorem dX10_newFile_28 : decode cX10_newFile 28 = .ok (.iload_n 1, 1) := by decide +kernel
theorem dX10_newFile_29 : decode cX10_newFile 29 = .ok (.iconst (-1), 1) := by decide +kernel
theorem dX10_newFile_30 : decode cX10_newFile 30 = .ok (.iastore, 1) := by decide +kernel
theorem dX10_newFile_31 : decode cX10_newFile 31 = .ok (.aload_n 0, 1) := by decide +kernel
theorem dX10_newFile_32 : decode cX10_newFile 32 = .ok (.getfield 27, 3) := by decide +kernel
theorem dX10_newFile_35 : decode cX10_newFile 35 = .ok (.iload_n 1, 1) := by decide +kernel
theorem dX10_newFile_36 : decode cX10_newFile 36 = .ok (.iconst (-1), 1) := by decide +kernel
theorem dX10_newFile_37 : decode cX10_newFile 37 = .ok (.iastore, 1) := by decide +kernel
theorem dX10_newFile_38 : decode cX10_newFile 38 = .ok (.aload_n 0, 1) := by decide +kernel
theorem dX10_newFile_39 : decode cX10_newFile 39 = .ok (.getfield 30, 3) := by decide +kernel
theorem dX10_newFile_42 : decode cX10_newFile 42 = .ok (.iload_n 1, 1) := by decide +kernel
theorem dX10_newFile_43 : decode cX10_newFile 43 = .ok (.iconst 0, 1) := by decide +kernel
theorem dX10_newFile_44 : decode cX10_newFile 44 = .ok (.iastore, 1) := by decide +kernel
theorem dX10_newFile_45 : decode cX10_newFile 45 = .ok (.iload_n 1, 1) := by decide +kernel
theorem dX10_newFile_46 : decode cX10_newFile 46 = .ok (.ireturn, 1) := by decide +kernel
theorem dX10_blockOf_0 : decode cX10_blockOf 0 = .ok (.aload_n 0, 1) := by decide +kernel
theorem dX10_blockOf_1 : decode cX10_blockOf 1 = .ok (.getfield 24, 3) := by decide +kernel
theorem dX10_blockOf_4 : decode cX10_blockOf 4 = .ok (.iload_n 1, 1) := by decide +kernel
theorem dX10_blockOf_5 : decode cX10_blockOf 5 = .ok (.iaload, 1) := by decide +kernel
theorem dX10_blockOf_6 : decode cX10_blockOf 6 = .ok (.istore_n 3, 1) := by decide +kernel
theorem dX10_blockOf_7 : decode cX10_blockOf 7 = .ok (.iconst 0, 1) := by decide +kernel
theorem dX10_blockOf_8 : decode cX10_blockOf 8 = .ok (.istore 4, 2) := by decide +kernel
theorem dX10_blockOf_10 : decode cX10_blockOf 10 = .ok (.iload 4, 2) := by decide +kernel
theorem dX10_blockOf_12 : decode cX10_blockOf 12 = .ok (.iload_n 2, 1) := by decide +kernel
theorem dX10_blockOf_13 : decode cX10_blockOf 13 = .ok (.if_icmp .ge 21, 3) := by decide +kernel
theorem dX10_blockOf_16 : decode cX10_blockOf 16 = .ok (.iload_n 3, 1) := by decide +kernel
theorem dX10_blockOf_17 : decode cX10_blockOf 17 = .ok (.iconst (-1), 1) := by decide +kernel
theorem dX10_blockOf_18 : decode cX10_blockOf 18 = .ok (.if_icmp .eq 16, 3) := by decide +kernel
theorem dX10_blockOf_21 : decode cX10_blockOf 21 = .ok (.aload_n 0, 1) := by decide +kernel
theorem dX10_blockOf_22 : decode cX10_blockOf 22 = .ok (.getfield 20, 3) := by decide +kernel
theorem dX10_blockOf_25 : decode cX10_blockOf 25 = .ok (.iload_n 3, 1) := by decide +kernel
theorem dX10_blockOf_26 : decode cX10_blockOf 26 = .ok (.iaload, 1) := by decide +kernel
theorem dX10_blockOf_27 : decode cX10_blockOf 27 = .ok (.istore_n 3, 1) := by decide +kernel
theorem dX10_blockOf_28 : decode cX10_blockOf 28 = .ok (.iinc 4 1, 3) := by decide +kernel
theorem dX10_blockOf_31 : decode cX10_blockOf 31 = .ok (.goto (-21), 3) := by decide +kernel
theorem dX10_blockOf_34 : decode cX10_blockOf 34 = .ok (.iload_n 3, 1) := by decide +kernel
theorem dX10_blockOf_35 : decode cX10_blockOf 35 = .ok (.ireturn, 1) := by decide +kernel
theorem dX10_byKeys_0 : decode cX10_byKeys 0 = .ok (.aload_n 0, 1) := by decide +kernel
theorem dX10_byKeys_1 : decode cX10_byKeys 1 = .ok (.getfield 147, 3) := by decide +kernel
theorem dX10_byKeys_4 : decode cX10_byKeys 4 = .ok (.ifCond .ne 10, 3) := by decide +kernel
theorem dX10_byKeys_7 : decode cX10_byKeys 7 = .ok (.aload_n 0, 1) := by decide +kernel
theorem dX10_byKeys_8 : decode cX10_byKeys 8 = .ok (.getfield 116, 3) := by decide +kernel
theorem dX10_byKeys_11 : decode cX10_byKeys 11 = .ok (.goto 7, 3) := by decide +kernel
theorem dX10_byKeys_14 : decode cX10_byKeys 14 = .ok (.aload_n 0, 1) := by decide +kernel
theorem dX10_byKeys_15 : decode cX10_byKeys 15 = .ok (.getfield 147, 3) := by decide +kernel
theorem dX10_byKeys_18 : decode cX10_byKeys 18 = .ok (.istore 4, 2) := by decide +kernel
theorem dX10_byKeys_20 : decode cX10_byKeys 20 = .ok (.iconst 0, 1) := by decide +kernel
theorem dX10_byKeys_21 : decode cX10_byKeys 21 = .ok (.istore 5, 2) := by decide +kernel
theorem dX10_byKeys_23 : decode cX10_byKeys 23 = .ok (.iload 5, 2) := by decide +kernel
theorem dX10_byKeys_25 : decode cX10_byKeys 25 = .ok (.iload 4, 2) := by decide +kernel
theorem dX10_byKeys_27 : decode cX10_byKeys 27 = .ok (.if_icmp .ge 101, 3) := by decide +kernel
theorem dX10_byKeys_30 : decode cX10_byKeys 30 = .ok (.aload_n 0, 1) := by decide +kernel
theorem dX10_byKeys_31 : decode cX10_byKeys 31 = .ok (.getfield 147, 3) := by decide +kernel
theorem dX10_byKeys_34 : decode cX10_byKeys 34 = .ok (.ifCond .ne 8, 3) := by decide +kernel
theorem dX10_byKeys_37 : decode cX10_byKeys 37 = .ok (.iload 5, 2) := by decide +kernel
theorem dX10_byKeys_39 : decode cX10_byKeys 39 = .ok (.goto 10, 3) := by decide +kernel
theorem dX10_byKeys_42 : decode cX10_byKeys 42 = .ok (.aload_n 0, 1) := by decide +kernel
theorem dX10_byKeys_43 : decode cX10_byKeys 43 = .ok (.getfield 42, 3) := by decide +kernel
theorem dX10_byKeys_46 : decode cX10_byKeys 46 = .ok (.iload 5, 2) := by decide +kernel
theorem dX10_byKeys_48 : decode cX10_byKeys 48 = .ok (.iaload, 1) := by decide +kernel
theorem dX10_byKeys_49 : decode cX10_byKeys 49 = .ok (.istore 6, 2) := by decide +kernel
theorem dX10_byKeys_51 : decode cX10_byKeys 51 = .ok (.aload_n 1, 1) := by decide +kernel
theorem dX10_byKeys_52 : decode cX10_byKeys 52 = .ok (.iload_n 2, 1) := by decide +kernel
theorem dX10_byKeys_53 : decode cX10_byKeys 53 = .ok (.iload 6, 2) := by decide +kernel
theorem dX10_byKeys_55 : decode cX10_byKeys 55 = .ok (.iadd, 1) := by decide +kernel
theorem dX10_byKeys_56 : decode cX10_byKeys 56 = .ok (.laload, 1) := by decide +kernel
theorem dX10_byKeys_57 : decode cX10_byKeys 57 = .ok (.lstore 7, 2) := by decide +kernel
theorem dX10_byKeys_59 : decode cX10_byKeys 59 = .ok (.aload_n 0, 1) := by decide +kernel
theorem dX10_byKeys_60 : decode cX10_byKeys 60 = .ok (.getfield 7, 3) := by decide +kernel
theorem dX10_byKeys_63 : decode cX10_byKeys 63 = .ok (.iload_n 3, 1) := by decide +kernel
theorem dX10_byKeys_64 : decode cX10_byKeys 64 = .ok (.iload 6, 2) := by decide +kernel
theorem dX10_byKeys_66 : decode cX10_byKeys 66 = .ok (.iadd, 1) := by decide +kernel
theorem dX10_byKeys_67 : decode cX10_byKeys 67 = .ok (.laload, 1) := by decide +kernel
theorem dX10_byKeys_68 : decode cX10_byKeys 68 = .ok (.lstore 9, 2) := by decide +kernel
theorem dX10_byKeys_70 : decode cX10_byKeys 70 = .ok (.lload 7, 2) := by decide +kernel
theorem dX10_byKeys_72 : decode cX10_byKeys 72 = .ok (.lload 9, 2) := by decide +kernel
theorem dX10_byKeys_74 : decode cX10_byKeys 74 = .ok (.lcmp, 1) := by decide +kernel
theorem dX10_byKeys_75 : decode cX10_byKeys 75 = .ok (.ifCond .eq 47, 3) := by decide +kernel
theorem dX10_byKeys_78 : decode cX10_byKeys 78 = .ok (.lload 7, 2) := by decide +kernel
theorem dX10_byKeys_80 : decode cX10_byKeys 80 = .ok (.lload 9, 2) := by decide +kernel
theorem dX10_byKeys_82 : decode cX10_byKeys 82 = .ok (.lcmp, 1) := by decide +kernel
theorem dX10_byKeys_83 : decode cX10_byKeys 83 = .ok (.ifCond .ge 7, 3) := by decide +kernel
theorem dX10_byKeys_86 : decode cX10_byKeys 86 = .ok (.iconst 1, 1) := by decide +kernel
theorem dX10_byKeys_87 : decode cX10_byKeys 87 = .ok (.goto 4, 3) := by decide +kernel
theorem dX10_byKeys_90 : decode cX10_byKeys 90 = .ok (.iconst 0, 1) := by decide +kernel
theorem dX10_byKeys_91 : decode cX10_byKeys 91 = .ok (.aload_n 0, 1) := by decide +kernel
theorem dX10_byKeys_92 : decode cX10_byKeys 92 = .ok (.getfield 147, 3) := by decide +kernel
theorem dX10_byKeys_95 : decode cX10_byKeys 95 = .ok (.ifCond .le 17, 3) := by decide +kernel
theorem dX10_byKeys_98 : decode cX10_byKeys 98 = .ok (.aload_n 0, 1) := by decide +kernel
theorem dX10_byKeys_99 : decode cX10_byKeys 99 = .ok (.getfield 45, 3) := by decide +kernel
theorem dX10_byKeys_102 : decode cX10_byKeys 102 = .ok (.iload 5, 2) := by decide +kernel
theorem dX10_byKeys_104 : decode cX10_byKeys 104 = .ok (.baload, 1) := by decide +kernel
theorem dX10_byKeys_105 : decode cX10_byKeys 105 = .ok (.ifCond .eq 7, 3) := by decide +kernel
theorem dX10_byKeys_108 : decode cX10_byKeys 108 = .ok (.iconst 1, 1) := by decide +kernel
theorem dX10_byKeys_109 : decode cX10_byKeys 109 = .ok (.goto 4, 3) := by decide +kernel
theorem dX10_byKeys_112 : decode cX10_byKeys 112 = .ok (.iconst 0, 1) := by decide +kernel
theorem dX10_byKeys_113 : decode cX10_byKeys 113 = .ok (.if_icmp .ne 7, 3) := by decide +kernel
theorem dX10_byKeys_116 : decode cX10_byKeys 116 = .ok (.iconst 1, 1) := by decide +kernel
theorem dX10_byKeys_117 : decode cX10_byKeys 117 = .ok (.goto 4, 3) := by decide +kernel
theorem dX10_byKeys_120 : decode cX10_byKeys 120 = .ok (.iconst (-1), 1) := by decide +kernel
theorem dX10_byKeys_121 : decode cX10_byKeys 121 = .ok (.ireturn, 1) := by decide +kernel
theorem dX10_byKeys_122 : decode cX10_byKeys 122 = .ok (.iinc 5 1, 3) := by decide +kernel
theorem dX10_byKeys_125 : decode cX10_byKeys 125 = .ok (.goto (-102), 3) := by decide +kernel
theorem dX10_byKeys_128 : decode cX10_byKeys 128 = .ok (.iconst 0, 1) := by decide +kernel
theorem dX10_byKeys_129 : decode cX10_byKeys 129 = .ok (.ireturn, 1) := by decide +kernel
set_option maxRecDepth 20000 in
theorem ggX10_before_X10_byKeys : GoodIn wsX10_before wsX10_byKeys := goodIn_r _ [7, 8, 2, 9, 1, 10, 11, 12, 13, 14, 15, 16, 17, 18, 19, 20, 21, 22, 23, 24, 25, 26, 27, 28, 29, 30, 31, 32, 33, 34, 35, 36, 37, 38, 39, 40, 41, 42, 43, 44, 45, 46, 47, 48, 49, 50, 51, 52, 53, 54, 55, 56, 57, 58, 59, 60, 61, 62, 63, 64, 65, 66, 67] (by decide +kernel) (by decide +kernel)
set_option maxRecDepth 20000 in
theorem gX10_before_X10_byKeys : GoodIn wsX10_before (wsV RX10 150 RX10 yX10_byKeys wsX10_byKeys) := goodIn_app (goodIn_of _ (by decide +kernel)) ggX10_before_X10_byKeys
theorem dX10_before_0 : decode cX10_before 0 = .ok (.aload_n 0, 1) := by decide +kernel
theorem dX10_before_1 : decode cX10_before 1 = .ok (.aload_n 0, 1) := by decide +kernel
theorem dX10_before_2 : decode cX10_before 2 = .ok (.getfield 7, 3) := by decide +kernel
theorem dX10_before_5 : decode cX10_before 5 = .ok (.iload_n 1, 1) := by decide +kernel
theorem dX10_before_6 : decode cX10_before 6 = .ok (.iload_n 2, 1) := by decide +kernel
theorem dX10_before_7 : decode cX10_before 7 = .ok (.invokevirtual 150, 3) := by decide +kernel
theorem dX10_before_10 : decode cX10_before 10 = .ok (.istore_n 3, 1) := by decide +kernel
theorem dX10_before_11 : decode cX10_before 11 = .ok (.iload_n 3, 1) := by decide +kernel
theorem dX10_before_12 : decode cX10_before 12 = .ok (.ifCond .eq 15, 3) := by decide +kernel
theorem dX10_before_15 : decode cX10_before 15 = .ok (.iload_n 3, 1) := by decide +kernel
theorem dX10_before_16 : decode cX10_before 16 = .ok (.ifCond .ge 7, 3) := by decide +kernel
theorem dX10_before_19 : decode cX10_before 19 = .ok (.iconst 1, 1) := by decide +kernel
theorem dX10_before_20 : decode cX10_before 20 = .ok (.goto 38, 3) := by decide +kernel
theorem dX10_before_23 : decode cX10_before 23 = .ok (.iconst 0, 1) := by decide +kernel
theorem dX10_before_24 : decode cX10_before 24 = .ok (.goto 34, 3) := by decide +kernel
theorem dX10_before_27 : decode cX10_before 27 = .ok (.aload_n 0, 1) := by decide +kernel
theorem dX10_before_28 : decode cX10_before 28 = .ok (.getfield 7, 3) := by decide +kernel
theorem dX10_before_31 : decode cX10_before 31 = .ok (.iload_n 1, 1) := by decide +kernel
theorem dX10_before_32 : decode cX10_before 32 = .ok (.aload_n 0, 1) := by decide +kernel
theorem dX10_before_33 : decode cX10_before 33 = .ok (.getfield 116, 3) := by decide +kernel
theorem dX10_before_36 : decode cX10_before 36 = .ok (.iadd, 1) := by decide +kernel
theorem dX10_before_37 : decode cX10_before 37 = .ok (.laload, 1) := by decide +kernel
theorem dX10_before_38 : decode cX10_before 38 = .ok (.aload_n 0, 1) := by decide +kernel
theorem dX10_before_39 : decode cX10_before 39 = .ok (.getfield 7, 3) := by decide +kernel
theorem dX10_before_42 : decode cX10_before 42 = .ok (.iload_n 2, 1) := by decide +kernel
theorem dX10_before_43 : decode cX10_before 43 = .ok (.aload_n 0, 1) := by decide +kernel
theorem dX10_before_44 : decode cX10_before 44 = .ok (.getfield 116, 3) := by decide +kernel
theorem dX10_before_47 : decode cX10_before 47 = .ok (.iadd, 1) := by decide +kernel
theorem dX10_before_48 : decode cX10_before 48 = .ok (.laload, 1) := by decide +kernel
theorem dX10_before_49 : decode cX10_before 49 = .ok (.lcmp, 1) := by decide +kernel
theorem dX10_before_50 : decode cX10_before 50 = .ok (.ifCond .ge 7, 3) := by decide +kernel
theorem dX10_before_53 : decode cX10_before 53 = .ok (.iconst 1, 1) := by decide +kernel
theorem dX10_before_54 : decode cX10_before 54 = .ok (.goto 4, 3) := by decide +kernel
theorem dX10_before_57 : decode cX10_before 57 = .ok (.iconst 0, 1) := by decide +kernel
theorem dX10_before_58 : decode cX10_before 58 = .ok (.ireturn, 1) := by decide +kernel
theorem dX10_sums_0 : decode cX10_sums 0 = .ok (.aload_n 0, 1) := by decide +kernel
theorem dX10_sums_1 : decode cX10_sums 1 = .ok (.getfield 154, 3) := by decide +kernel
theorem dX10_sums_4 : decode cX10_sums 4 = .ok (.iconst 2, 1) := by decide +kernel
theorem dX10_sums_5 : decode cX10_sums 5 = .ok (.if_icmp .ne 14, 3) := by decide +kernel
theorem dX10_sums_8 : decode cX10_sums 8 = .ok (.aload_n 0, 1) := by decide +kernel
theorem dX10_sums_9 : decode cX10_sums 9 = .ok (.getfield 147, 3) := by decide +kernel
theorem dX10_sums_12 : decode cX10_sums 12 = .ok (.ifCond .le 7, 3) := by decide +kernel
theorem dX10_sums_15 : decode cX10_sums 15 = .ok (.iconst 1, 1) := by decide +kernel
theorem dX10_sums_16 : decode cX10_sums 16 = .ok (.goto 4, 3) := by decide +kernel
theorem dX10_sums_19 : decode cX10_sums 19 = .ok (.iconst 0, 1) := by decide +kernel
theorem dX10_sums_20 : decode cX10_sums 20 = .ok (.istore_n 1, 1) := by decide +kernel
theorem dX10_sums_21 : decode cX10_sums 21 = .ok (.iconst 0, 1) := by decide +kernel
theorem dX10_sums_22 : decode cX10_sums 22 = .ok (.istore_n 2, 1) := by decide +kernel
theorem dX10_sums_23 : decode cX10_sums 23 = .ok (.iload_n 2, 1) := by decide +kernel
theorem dX10_sums_24 : decode cX10_sums 24 = .ok (.aload_n 0, 1) := by decide +kernel
theorem dX10_sums_25 : decode cX10_sums 25 = .ok (.getfield 147, 3) := by decide +kernel
theorem dX10_sums_28 : decode cX10_sums 28 = .ok (.if_icmp .ge 34, 3) := by decide +kernel
theorem dX10_sums_31 : decode cX10_sums 31 = .ok (.iload_n 1, 1) := by decide +kernel
theorem dX10_sums_32 : decode cX10_sums 32 = .ok (.ifCond .eq 22, 3) := by decide +kernel
theorem dX10_sums_35 : decode cX10_sums 35 = .ok (.aload_n 0, 1) := by decide +kernel
theorem dX10_sums_36 : decode cX10_sums 36 = .ok (.getfield 42, 3) := by decide +kernel
theorem dX10_sums_39 : decode cX10_sums 39 = .ok (.iload_n 2, 1) := by decide +kernel
theorem dX10_sums_40 : decode cX10_sums 40 = .ok (.iaload, 1) := by decide +kernel
theorem dX10_sums_41 : decode cX10_sums 41 = .ok (.aload_n 0, 1) := by decide +kernel
theorem dX10_sums_42 : decode cX10_sums 42 = .ok (.getfield 116, 3) := by decide +kernel
theorem dX10_sums_45 : decode cX10_sums 45 = .ok (.iconst 1, 1) := by decide +kernel
theorem dX10_sums_46 : decode cX10_sums 46 = .ok (.isub, 1) := by decide +kernel
theorem dX10_sums_47 : decode cX10_sums 47 = .ok (.if_icmp .eq 7, 3) := by decide +kernel
theorem dX10_sums_50 : decode cX10_sums 50 = .ok (.iconst 1, 1) := by decide +kernel
theorem dX10_sums_51 : decode cX10_sums 51 = .ok (.goto 4, 3) := by decide +kernel
theorem dX10_sums_54 : decode cX10_sums 54 = .ok (.iconst 0, 1) := by decide +kernel
theorem dX10_sums_55 : decode cX10_sums 55 = .ok (.istore_n 1, 1) := by decide +kernel
theorem dX10_sums_56 : decode cX10_sums 56 = .ok (.iinc 2 1, 3) := by decide +kernel
theorem dX10_sums_59 : decode cX10_sums 59 = .ok (.goto (-36), 3) := by decide +kernel
theorem dX10_sums_62 : decode cX10_sums 62 = .ok (.iload_n 1, 1) := by decide +kernel
theorem dX10_sums_63 : decode cX10_sums 63 = .ok (.ireturn, 1) := by decide +kernel
set_option maxRecDepth 20000 in
theorem ggX10_beginRun_X10_newFile : GoodIn wsX10_beginRun wsX10_newFile := goodIn_r _ [8, 9, 10, 11, 12, 13, 14, 15, 16, 17, 18, 19, 20, 21, 22, 23, 24, 25, 26, 27, 28, 29, 30, 31, 32, 33, 34, 35, 36, 37, 38, 39, 40, 41, 42, 43, 44, 45, 46, 47, 48, 49, 50, 51, 52, 53, 54, 55, 56, 57, 58, 59, 60, 61, 62, 63, 64, 65, 66, 67, 68, 69] (by decide +kernel) (by decide +kernel)
set_option maxRecDepth 20000 in
theorem gX10_beginRun_X10_newFile : GoodIn wsX10_beginRun (wsV RX10 157 RX10 yX10_newFile wsX10_newFile) := goodIn_app (goodIn_of _ (by decide +kernel)) ggX10_beginRun_X10_newFile
theorem dX10_beginRun_0 : decode cX10_beginRun 0 = .ok (.aload_n 0, 1) := by decide +kernel
theorem dX10_beginRun_1 : decode cX10_beginRun 1 = .ok (.aload_n 0, 1) := by decide +kernel
theorem dX10_beginRun_2 : decode cX10_beginRun 2 = .ok (.invokevirtual 157, 3) := by decide +kernel
theorem dX10_beginRun_5 : decode cX10_beginRun 5 = .ok (.putfield 161, 3) := by decide +kernel
theorem dX10_beginRun_8 : decode cX10_beginRun 8 = .ok (.aload_n 0, 1) := by decide +kernel
theorem dX10_beginRun_9 : decode cX10_beginRun 9 = .ok (.iconst 0, 1) := by decide +kernel
theorem dX10_beginRun_10 : decode cX10_beginRun 10 = .ok (.putfield 164, 3) := by decide +kernel
theorem dX10_beginRun_13 : decode cX10_beginRun 13 = .ok (.aload_n 0, 1) := by decide +kernel
theorem dX10_beginRun_14 : decode cX10_beginRun 14 = .ok (.iconst 0, 1) := by decide +kernel
theorem dX10_beginRun_15 : decode cX10_beginRun 15 = .ok (.putfield 167, 3) := by decide +kernel
theorem dX10_beginRun_18 : decode cX10_beginRun 18 = .ok (.return_, 1) := by decide +kernel
set_option maxRecDepth 20000 in
theorem ggX10_writePage_X10_write : GoodIn wsX10_writePage wsX10_write := goodIn_r _ [8, 9, 10, 11, 12, 13, 14, 15, 16, 17, 18, 19, 20, 7, 21, 22, 23, 24, 32, 33, 34, 35, 36, 37, 38, 39, 40, 41, 42, 43, 44, 45, 46, 47, 48, 49, 50, 51, 52, 53, 54, 55, 56, 57, 58, 59, 60, 61, 62, 63, 64, 65, 66, 67, 68, 69, 70, 71, 72, 73, 74, 75, 76, 77, 78, 79, 80, 81, 82, 83, 84, 85, 86, 87, 88] (by decide +kernel) (by decide +kernel)
set_option maxRecDepth 20000 in
theorem gX10_writePage_X10_write : GoodIn wsX10_writePage (wsV RX10 171 RX10 yX10_write wsX10_write) := goodIn_app (goodIn_of _ (by decide +kernel)) ggX10_writePage_X10_write
set_option maxRecDepth 20000 in
theorem ggX10_writePage_X10_hang : GoodIn wsX10_writePage wsX10_hang := goodIn_r _ [28, 29, 14, 30, 31, 32, 33, 34, 35, 36, 37, 38, 39, 40, 41, 42, 43, 44, 45, 46, 47, 48, 49, 50, 51, 52, 53, 54, 55, 56, 57, 58, 59, 60, 61, 62, 63, 64, 65, 66, 67, 68, 69, 70, 71, 72, 73, 74, 75, 76, 77, 78, 79, 80, 81, 82, 83, 84, 85, 86, 87, 88] (by decide +kernel) (by decide +kernel)
set_option maxRecDepth 20000 in
theorem gX10_writePage_X10_hang : GoodIn wsX10_writePage (wsV RX10 175 RX10 yX10_hang wsX10_hang) := goodIn_app (goodIn_of _ (by decide +kernel)) ggX10_writePage_X10_hang
theorem dX10_writePage_0 : decode cX10_writePage 0 = .ok (.aload_n 0, 1) := by decide +kernel
theorem dX10_writePage_1 : decode cX10_writePage 1 = .ok (.getfield 164, 3) := by decide +kernel
theorem dX10_writePage_4 : decode cX10_writePage 4 = .ok (.istore_n 1, 1) := by decide +kernel
theorem dX10_writePage_5 : decode cX10_writePage 5 = .ok (.aload_n 0, 1) := by decide +kernel
theorem dX10_writePage_6 : decode cX10_writePage 6 = .ok (.aload_n 0, 1) := by decide +kernel
theorem dX10_writePage_7 : decode cX10_writePage 7 = .ok (.getfield 48, 3) := by decide +kernel
theorem dX10_writePage_10 : decode cX10_writePage 10 = .ok (.iload_n 1, 1) := by decide +kernel
theorem dX10_writePage_11 : decode cX10_writePage 11 = .ok (.invokevirtual 171, 3) := by decide +kernel
theorem dX10_writePage_14 : decode cX10_writePage 14 = .ok (.istore_n 2, 1) := by decide +kernel
theorem dX10_writePage_15 : decode cX10_writePage 15 = .ok (.aload_n 0, 1) := by decide +kernel
theorem dX10_writePage_16 : decode cX10_writePage 16 = .ok (.aload_n 0, 1) := by decide +kernel
theorem dX10_writePage_17 : decode cX10_writePage 17 = .ok (.getfield 161, 3) := by decide +kernel
theorem dX10_writePage_20 : decode cX10_writePage 20 = .ok (.iload_n 2, 1) := by decide +kernel
theorem dX10_writePage_21 : decode cX10_writePage 21 = .ok (.iload_n 1, 1) := by decide +kernel
theorem dX10_writePage_22 : decode cX10_writePage 22 = .ok (.invokevirtual 175, 3) := by decide +kernel
theorem dX10_writePage_25 : decode cX10_writePage 25 = .ok (.aload_n 0, 1) := by decide +kernel
theorem dX10_writePage_26 : decode cX10_writePage 26 = .ok (.iconst 0, 1) := by decide +kernel
theorem dX10_writePage_27 : decode cX10_writePage 27 = .ok (.putfield 164, 3) := by decide +kernel
theorem dX10_writePage_30 : decode cX10_writePage 30 = .ok (.return_, 1) := by decide +kernel
set_option maxRecDepth 20000 in
theorem ggX10_toPage_X10_per : GoodIn wsX10_toPage wsX10_per := goodIn_r _ [8, 9, 1, 41, 42, 43, 44, 45, 46, 47, 48, 49, 50, 51, 52, 53, 54, 55, 56, 57, 58, 59, 60, 61, 62, 63, 64, 65, 66, 67, 68, 69, 70, 71, 72, 73, 74, 75, 76, 77, 78, 79, 80, 81, 82, 83, 84, 85, 86, 87, 88, 89, 90, 91, 92, 93, 94, 95, 96, 97] (by decide +kernel) (by decide +kernel)
set_option maxRecDepth 20000 in
theorem gX10_toPage_X10_per : GoodIn wsX10_toPage (wsV RX10 179 RX10 yX10_per wsX10_per) := goodIn_app (goodIn_of _ (by decide +kernel)) ggX10_toPage_X10_per
set_option maxRecDepth 20000 in
theorem ggX10_toPage_X10_writePage : GoodIn wsX10_toPage wsX10_writePage := goodIn_r _ [13, 3, 2, 14, 15, 16, 17, 7, 18, 19, 20, 21, 22, 23, 24, 25, 1, 26, 27, 28, 29, 30, 31, 32, 33, 34, 35, 36, 37, 38, 39, 40, 41, 42, 43, 44, 45, 46, 47, 48, 49, 50, 51, 52, 53, 54, 55, 56, 57, 58, 59, 60, 61, 62, 63, 64, 65, 66, 67, 68, 69, 70, 71, 72, 73, 74, 75, 76, 77, 78, 79, 80, 81, 82, 83, 84, 85, 86, 87, 88, 89, 90, 91, 92, 93, 94, 95, 96, 97] (by decide +kernel) (by decide +kernel)
set_option maxRecDepth 20000 in
theorem gX10_toPage_X10_writePage : GoodIn wsX10_toPage (wsV RX10 182 RX10 yX10_writePage wsX10_writePage) := goodIn_app (goodIn_of _ (by decide +kernel)) ggX10_toPage_X10_writePage
theorem dX10_toPage_0 : decode cX10_toPage 0 = .ok (.iconst 0, 1) := by decide +kernel
theorem dX10_toPage_1 : decode cX10_toPage 1 = .ok (.istore_n 3, 1) := by decide +kernel
theorem dX10_toPage_2 : decode cX10_toPage 2 = .ok (.iload_n 3, 1) := by decide +kernel
theorem dX10_toPage_3 : decode cX10_toPage 3 = .ok (.aload_n 0, 1) := by decide +kernel
theorem dX10_toPage_4 : decode cX10_toPage 4 = .ok (.getfield 116, 3) := by decide +kernel
theorem dX10_toPage_7 : decode cX10_toPage 7 = .ok (.if_icmp .gt 32, 3) := by decide +kernel
theorem dX10_toPage_10 : decode cX10_toPage 10 = .ok (.aload_n 0, 1) := by decide +kernel
theorem dX10_toPage_11 : decode cX10_toPage 11 = .ok (.getfield 48, 3) := by decide +kernel
theorem dX10_toPage_14 : decode cX10_toPage 14 = .ok (.aload_n 0, 1) := by decide +kernel
theorem dX10_toPage_15 : decode cX10_toPage 15 = .ok (.getfield 164, 3) := by decide +kernel
theorem dX10_toPage_18 : decode cX10_toPage 18 = .ok (.aload_n 0, 1) := by decide +kernel
theorem dX10_toPage_19 : decode cX10_toPage 19 = .ok (.getfield 116, 3) := by decide +kernel
theorem dX10_toPage_22 : decode cX10_toPage 22 = .ok (.iconst 1, 1) := by decide +kernel
theorem dX10_toPage_23 : decode cX10_toPage 23 = .ok (.iadd, 1) := by decide +kernel
theorem dX10_toPage_24 : decode cX10_toPage 24 = .ok (.imul, 1) := by decide +kernel
theorem dX10_toPage_25 : decode cX10_toPage 25 = .ok (.iload_n 3, 1) := by decide +kernel
theorem dX10_toPage_26 : decode cX10_toPage 26 = .ok (.iadd, 1) := by decide +kernel
theorem dX10_toPage_27 : decode cX10_toPage 27 = .ok (.aload_n 1, 1) := by decide +kernel
theorem dX10_toPage_28 : decode cX10_toPage 28 = .ok (.iload_n 2, 1) := by decide +kernel
theorem dX10_toPage_29 : decode cX10_toPage 29 = .ok (.iload_n 3, 1) := by decide +kernel
theorem dX10_toPage_30 : decode cX10_toPage 30 = .ok (.iadd, 1) := by decide +kernel
theorem dX10_toPage_31 : decode cX10_toPage 31 = .ok (.laload, 1) := by decide +kernel
theorem dX10_toPage_32 : decode cX10_toPage 32 = .ok (.lastore, 1) := by decide +kernel
theorem dX10_toPage_33 : decode cX10_toPage 33 = .ok (.iinc 3 1, 3) := by decide +kernel
theorem dX10_toPage_36 : decode cX10_toPage 36 = .ok (.goto (-34), 3) := by decide +kernel
theorem dX10_toPage_39 : decode cX10_toPage 39 = .ok (.aload_n 0, 1) := by decide +kernel
theorem dX10_toPage_40 : decode cX10_toPage 40 = .ok (.dup, 1) := by decide +kernel
theorem dX10_toPage_41 : decode cX10_toPage 41 = .ok (.getfield 164, 3) := by decide +kernel
theorem dX10_toPage_44 : decode cX10_toPage 44 = .ok (.iconst 1, 1) := by decide +kernel
theorem dX10_toPage_45 : decode cX10_toPage 45 = .ok (.iadd, 1) := by decide +kernel
theorem dX10_toPage_46 : decode cX10_toPage 46 = .ok (.putfield 164, 3) := by decide +kernel
theorem dX10_toPage_49 : decode cX10_toPage 49 = .ok (.aload_n 0, 1) := by decide +kernel
theorem dX10_toPage_50 : decode cX10_toPage 50 = .ok (.getfield 164, 3) := by decide +kernel
theorem dX10_toPage_53 : decode cX10_toPage 53 = .ok (.aload_n 0, 1) := by decide +kernel
theorem dX10_toPage_54 : decode cX10_toPage 54 = .ok (.invokevirtual 179, 3) := by decide +kernel
theorem dX10_toPage_57 : decode cX10_toPage 57 = .ok (.if_icmp .ne 7, 3) := by decide +kernel
theorem dX10_toPage_60 : decode cX10_toPage 60 = .ok (.aload_n 0, 1) := by decide +kernel
theorem dX10_toPage_61 : decode cX10_toPage 61 = .ok (.invokevirtual 182, 3) := by decide +kernel
theorem dX10_toPage_64 : decode cX10_toPage 64 = .ok (.return_, 1) := by decide +kernel
set_option maxRecDepth 20000 in
theorem ggX10_out_X10_toPage : GoodIn wsX10_out wsX10_toPage := goodIn_r _ [10, 5, 11, 12, 13, 14, 15, 9, 16, 17, 18, 19, 20, 21, 22, 23, 24, 25, 26, 27, 28, 29, 30, 31, 32, 33, 2, 34, 35, 36, 37, 38, 39, 40, 41, 42, 43, 44, 45, 46, 47, 59, 60, 61, 62, 63, 64, 65, 66, 67, 68, 69, 70, 71, 72, 73, 74, 75, 76, 77, 78, 79, 80, 81, 82, 83, 84, 85, 86, 87, 88, 89, 90, 91, 92, 93, 94, 95, 96, 97, 98, 99, 100, 101, 102, 103, 104, 105, 106, 107, 108, 109, 110, 111, 112, 113, 114, 115] (by decide +kernel) (by decide +kernel)
set_option maxRecDepth 20000 in
theorem gX10_out_X10_toPage : GoodIn wsX10_out (wsV RX10 185 RX10 yX10_toPage wsX10_toPage) := goodIn_app (goodIn_of _ (by decide +kernel)) ggX10_out_X10_toPage
set_option maxRecDepth 20000 in
theorem ggX10_out_X10_byKeys : GoodIn wsX10_out wsX10_byKeys := goodIn_r _ [51, 52, 5, 53, 2, 54, 59, 60, 61, 62, 63, 64, 65, 66, 67, 68, 69, 70, 71, 72, 73, 74, 75, 76, 77, 78, 79, 80, 81, 82, 83, 84, 85, 86, 87, 88, 89, 90, 91, 92, 93, 94, 95, 96, 97, 98, 99, 100, 101, 102, 103, 104, 105, 106, 107, 108, 109, 110, 111, 112, 113, 114, 115] (by decide +kernel) (by decide +kernel)
set_option maxRecDepth 20000 in
theorem gX10_out_X10_byKeys : GoodIn wsX10_out (wsV RX10 150 RX10 yX10_byKeys wsX10_byKeys) := goodIn_app (goodIn_of _ (by decide +kernel)) ggX10_out_X10_byKeys
set_option maxRecDepth 20000 in
theorem ggX10_out_X10_sums : GoodIn wsX10_out wsX10_sums := goodIn_r _ [58, 1, 52, 53, 5, 59, 60, 61, 62, 63, 64, 65, 66, 67, 68, 69, 70, 71, 72, 73, 74, 75, 76, 77, 78, 79, 80, 81, 82, 83, 84, 85, 86, 87, 88, 89, 90, 91, 92, 93, 94, 95, 96, 97, 98, 99, 100, 101, 102, 103, 104, 105, 106, 107, 108, 109, 110, 111, 112, 113, 114, 115] (by decide +kernel) (by decide +kernel)
set_option maxRecDepth 20000 in
theorem gX10_out_X10_sums : GoodIn wsX10_out (wsV RX10 189 RX10 yX10_sums wsX10_sums) := goodIn_app (goodIn_of _ (by decide +kernel)) ggX10_out_X10_sums
