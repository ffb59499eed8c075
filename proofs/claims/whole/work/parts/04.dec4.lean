theorem dX10_out_0 : decode cX10_out 0 = .ok (.aload_n 0, 1) := by decide +kernel
theorem dX10_out_1 : decode cX10_out 1 = .ok (.getfield 154, 3) := by decide +kernel
theorem dX10_out_4 : decode cX10_out 4 = .ok (.ifCond .ne 13, 3) := by decide +kernel
theorem dX10_out_7 : decode cX10_out 7 = .ok (.aload_n 0, 1) := by decide +kernel
theorem dX10_out_8 : decode cX10_out 8 = .ok (.aload_n 0, 1) := by decide +kernel
theorem dX10_out_9 : decode cX10_out 9 = .ok (.getfield 7, 3) := by decide +kernel
theorem dX10_out_12 : decode cX10_out 12 = .ok (.iload_n 1, 1) := by decide +kernel
theorem dX10_out_13 : decode cX10_out 13 = .ok (.invokevirtual 185, 3) := by decide +kernel
theorem dX10_out_16 : decode cX10_out 16 = .ok (.return_, 1) := by decide +kernel
theorem dX10_out_17 : decode cX10_out 17 = .ok (.aload_n 0, 1) := by decide +kernel
theorem dX10_out_18 : decode cX10_out 18 = .ok (.getfield 167, 3) := by decide +kernel
theorem dX10_out_21 : decode cX10_out 21 = .ok (.ifCond .eq 51, 3) := by decide +kernel
theorem dX10_out_24 : decode cX10_out 24 = .ok (.aload_n 0, 1) := by decide +kernel
theorem dX10_out_25 : decode cX10_out 25 = .ok (.aload_n 0, 1) := by decide +kernel
theorem dX10_out_26 : decode cX10_out 26 = .ok (.getfield 51, 3) := by decide +kernel
theorem dX10_out_29 : decode cX10_out 29 = .ok (.iconst 0, 1) := by decide +kernel
theorem dX10_out_30 : decode cX10_out 30 = .ok (.iload_n 1, 1) := by decide +kernel
theorem dX10_out_31 : decode cX10_out 31 = .ok (.invokevirtual 150, 3) := by decide +kernel
theorem dX10_out_34 : decode cX10_out 34 = .ok (.ifCond .ne 38, 3) := by decide +kernel
theorem dX10_out_37 : decode cX10_out 37 = .ok (.aload_n 0, 1) := by decide +kernel
theorem dX10_out_38 : decode cX10_out 38 = .ok (.invokevirtual 189, 3) := by decide +kernel
theorem dX10_out_41 : decode cX10_out 41 = .ok (.ifCond .eq 30, 3) := by decide +kernel
theorem dX10_out_44 : decode cX10_out 44 = .ok (.aload_n 0, 1) := by decide +kernel
theorem dX10_out_45 : decode cX10_out 45 = .ok (.getfield 51, 3) := by decide +kernel
theorem dX10_out_48 : decode cX10_out 48 = .ok (.aload_n 0, 1) := by decide +kernel
theorem dX10_out_49 : decode cX10_out 49 = .ok (.getfield 116, 3) := by decide +kernel
theorem dX10_out_52 : decode cX10_out 52 = .ok (.iconst 1, 1) := by decide +kernel
theorem dX10_out_53 : decode cX10_out 53 = .ok (.isub, 1) := by decide +kernel
theorem dX10_out_54 : decode cX10_out 54 = .ok (.dup2, 1) := by decide +kernel
theorem dX10_out_55 : decode cX10_out 55 = .ok (.laload, 1) := by decide +kernel
theorem dX10_out_56 : decode cX10_out 56 = .ok (.aload_n 0, 1) := by decide +kernel
theorem dX10_out_57 : decode cX10_out 57 = .ok (.getfield 7, 3) := by decide +kernel
theorem dX10_out_60 : decode cX10_out 60 = .ok (.iload_n 1, 1) := by decide +kernel
theorem dX10_out_61 : decode cX10_out 61 = .ok (.aload_n 0, 1) := by decide +kernel
theorem dX10_out_62 : decode cX10_out 62 = .ok (.getfield 116, 3) := by decide +kernel
theorem dX10_out_65 : decode cX10_out 65 = .ok (.iadd, 1) := by decide +kernel
theorem dX10_out_66 : decode cX10_out 66 = .ok (.iconst 1, 1) := by decide +kernel
theorem dX10_out_67 : decode cX10_out 67 = .ok (.isub, 1) := by decide +kernel
theorem dX10_out_68 : decode cX10_out 68 = .ok (.laload, 1) := by decide +kernel
theorem dX10_out_69 : decode cX10_out 69 = .ok (.ladd, 1) := by decide +kernel
theorem dX10_out_70 : decode cX10_out 70 = .ok (.lastore, 1) := by decide +kernel
theorem dX10_out_71 : decode cX10_out 71 = .ok (.return_, 1) := by decide +kernel
theorem dX10_out_72 : decode cX10_out 72 = .ok (.aload_n 0, 1) := by decide +kernel
theorem dX10_out_73 : decode cX10_out 73 = .ok (.getfield 167, 3) := by decide +kernel
theorem dX10_out_76 : decode cX10_out 76 = .ok (.ifCond .eq 12, 3) := by decide +kernel
theorem dX10_out_79 : decode cX10_out 79 = .ok (.aload_n 0, 1) := by decide +kernel
theorem dX10_out_80 : decode cX10_out 80 = .ok (.aload_n 0, 1) := by decide +kernel
theorem dX10_out_81 : decode cX10_out 81 = .ok (.getfield 51, 3) := by decide +kernel
theorem dX10_out_84 : decode cX10_out 84 = .ok (.iconst 0, 1) := by decide +kernel
theorem dX10_out_85 : decode cX10_out 85 = .ok (.invokevirtual 185, 3) := by decide +kernel
theorem dX10_out_88 : decode cX10_out 88 = .ok (.iconst 0, 1) := by decide +kernel
theorem dX10_out_89 : decode cX10_out 89 = .ok (.istore_n 2, 1) := by decide +kernel
theorem dX10_out_90 : decode cX10_out 90 = .ok (.iload_n 2, 1) := by decide +kernel
theorem dX10_out_91 : decode cX10_out 91 = .ok (.aload_n 0, 1) := by decide +kernel
theorem dX10_out_92 : decode cX10_out 92 = .ok (.getfield 116, 3) := by decide +kernel
theorem dX10_out_95 : decode cX10_out 95 = .ok (.if_icmp .gt 23, 3) := by decide +kernel
theorem dX10_out_98 : decode cX10_out 98 = .ok (.aload_n 0, 1) := by decide +kernel
theorem dX10_out_99 : decode cX10_out 99 = .ok (.getfield 51, 3) := by decide +kernel
theorem dX10_out_102 : decode cX10_out 102 = .ok (.iload_n 2, 1) := by decide +kernel
theorem dX10_out_103 : decode cX10_out 103 = .ok (.aload_n 0, 1) := by decide +kernel
theorem dX10_out_104 : decode cX10_out 104 = .ok (.getfield 7, 3) := by decide +kernel
theorem dX10_out_107 : decode cX10_out 107 = .ok (.iload_n 1, 1) := by decide +kernel
theorem dX10_out_108 : decode cX10_out 108 = .ok (.iload_n 2, 1) := by decide +kernel
theorem dX10_out_109 : decode cX10_out 109 = .ok (.iadd, 1) := by decide +kernel
theorem dX10_out_110 : decode cX10_out 110 = .ok (.laload, 1) := by decide +kernel
theorem dX10_out_111 : decode cX10_out 111 = .ok (.lastore, 1) := by decide +kernel
theorem dX10_out_112 : decode cX10_out 112 = .ok (.iinc 2 1, 3) := by decide +kernel
theorem dX10_out_115 : decode cX10_out 115 = .ok (.goto (-25), 3) := by decide +kernel
theorem dX10_out_118 : decode cX10_out 118 = .ok (.aload_n 0, 1) := by decide +kernel
theorem dX10_out_119 : decode cX10_out 119 = .ok (.iconst 1, 1) := by decide +kernel
theorem dX10_out_120 : decode cX10_out 120 = .ok (.putfield 167, 3) := by decide +kernel
theorem dX10_out_123 : decode cX10_out 123 = .ok (.return_, 1) := by decide +kernel
set_option maxRecDepth 20000 in
theorem ggX10_endRun_X10_toPage : GoodIn wsX10_endRun wsX10_toPage := goodIn_r _ [8, 9, 10, 3, 11, 12, 13, 7, 14, 15, 16, 17, 18, 19, 20, 21, 22, 23, 24, 25, 26, 27, 28, 29, 30, 31, 32, 33, 34, 35, 36, 37, 38, 39, 40, 41, 42, 43, 44, 45, 46, 47, 48, 49, 50, 51, 52, 53, 54, 55, 56, 57, 58, 59, 60, 61, 62, 63, 64, 65, 66, 67, 68, 69, 70, 71, 72, 73, 74, 75, 76, 77, 78, 79, 80, 81, 82, 83, 84, 85, 86, 87, 88, 89, 90, 91, 92, 93, 94, 95, 96, 97, 98, 99, 100, 101, 102, 103] (by decide +kernel) (by decide +kernel)
set_option maxRecDepth 20000 in
theorem gX10_endRun_X10_toPage : GoodIn wsX10_endRun (wsV RX10 185 RX10 yX10_toPage wsX10_toPage) := goodIn_app (goodIn_of _ (by decide +kernel)) ggX10_endRun_X10_toPage
set_option maxRecDepth 20000 in
theorem ggX10_endRun_X10_writePage : GoodIn wsX10_endRun wsX10_writePage := goodIn_r _ [19, 3, 10, 20, 21, 22, 23, 7, 24, 25, 26, 27, 28, 29, 30, 31, 9, 32, 33, 34, 35, 36, 37, 38, 39, 40, 41, 42, 43, 44, 45, 46, 47, 48, 49, 50, 51, 52, 53, 54, 55, 56, 57, 58, 59, 60, 61, 62, 63, 64, 65, 66, 67, 68, 69, 70, 71, 72, 73, 74, 75, 76, 77, 78, 79, 80, 81, 82, 83, 84, 85, 86, 87, 88, 89, 90, 91, 92, 93, 94, 95, 96, 97, 98, 99, 100, 101, 102, 103] (by decide +kernel) (by decide +kernel)
set_option maxRecDepth 20000 in
theorem gX10_endRun_X10_writePage : GoodIn wsX10_endRun (wsV RX10 182 RX10 yX10_writePage wsX10_writePage) := goodIn_app (goodIn_of _ (by decide +kernel)) ggX10_endRun_X10_writePage
theorem dX10_endRun_0 : decode cX10_endRun 0 = .ok (.aload_n 0, 1) := by decide +kernel
theorem dX10_endRun_1 : decode cX10_endRun 1 = .ok (.getfield 167, 3) := by decide +kernel
theorem dX10_endRun_4 : decode cX10_endRun 4 = .ok (.ifCond .eq 12, 3) := by decide +kernel
theorem dX10_endRun_7 : decode cX10_endRun 7 = .ok (.aload_n 0, 1) := by decide +kernel
theorem dX10_endRun_8 : decode cX10_endRun 8 = .ok (.aload_n 0, 1) := by decide +kernel
theorem dX10_endRun_9 : decode cX10_endRun 9 = .ok (.getfield 51, 3) := by decide +kernel
theorem dX10_endRun_12 : decode cX10_endRun 12 = .ok (.iconst 0, 1) := by decide +kernel
theorem dX10_endRun_13 : decode cX10_endRun 13 = .ok (.invokevirtual 185, 3) := by decide +kernel
theorem dX10_endRun_16 : decode cX10_endRun 16 = .ok (.aload_n 0, 1) := by decide +kernel
theorem dX10_endRun_17 : decode cX10_endRun 17 = .ok (.iconst 0, 1) := by decide +kernel
theorem dX10_endRun_18 : decode cX10_endRun 18 = .ok (.putfield 167, 3) := by decide +kernel
theorem dX10_endRun_21 : decode cX10_endRun 21 = .ok (.aload_n 0, 1) := by decide +kernel
theorem dX10_endRun_22 : decode cX10_endRun 22 = .ok (.getfield 164, 3) := by decide +kernel
theorem dX10_endRun_25 : decode cX10_endRun 25 = .ok (.ifCond .le 7, 3) := by decide +kernel
theorem dX10_endRun_28 : decode cX10_endRun 28 = .ok (.aload_n 0, 1) := by decide +kernel
theorem dX10_endRun_29 : decode cX10_endRun 29 = .ok (.invokevirtual 182, 3) := by decide +kernel
theorem dX10_endRun_32 : decode cX10_endRun 32 = .ok (.return_, 1) := by decide +kernel
set_option maxRecDepth 20000 in
theorem ggX10_width_X10_isIn : GoodIn wsX10_width wsX10_isIn := goodIn_r _ [11] (by decide +kernel) (by decide +kernel)
set_option maxRecDepth 20000 in
theorem gX10_width_X10_isIn : GoodIn wsX10_width (va_wsS RX10 193 yX10_isIn wsX10_isIn) := goodIn_app (goodIn_of _ (by decide +kernel)) ggX10_width_X10_isIn
theorem dX10_width_0 : decode cX10_width 0 = .ok (.aload_n 0, 1) := by decide +kernel
theorem dX10_width_1 : decode cX10_width 1 = .ok (.iload_n 1, 1) := by decide +kernel
theorem dX10_width_2 : decode cX10_width 2 = .ok (.iconst 1, 1) := by decide +kernel
theorem dX10_width_3 : decode cX10_width 3 = .ok (.iconst 4, 1) := by decide +kernel
theorem dX10_width_4 : decode cX10_width 4 = .ok (.invokestatic 193, 3) := by decide +kernel
theorem dX10_width_7 : decode cX10_width 7 = .ok (.ifCond .ne 7, 3) := by decide +kernel
theorem dX10_width_10 : decode cX10_width 10 = .ok (.iconst 1, 1) := by decide +kernel
theorem dX10_width_11 : decode cX10_width 11 = .ok (.goto 36, 3) := by decide +kernel
theorem dX10_width_14 : decode cX10_width 14 = .ok (.aload_n 0, 1) := by decide +kernel
theorem dX10_width_15 : decode cX10_width 15 = .ok (.getfield 197, 3) := by decide +kernel
theorem dX10_width_18 : decode cX10_width 18 = .ok (.ifCond .ne 24, 3) := by decide +kernel
theorem dX10_width_21 : decode cX10_width 21 = .ok (.aload_n 0, 1) := by decide +kernel
theorem dX10_width_22 : decode cX10_width 22 = .ok (.getfield 200, 3) := by decide +kernel
theorem dX10_width_25 : decode cX10_width 25 = .ok (.ifCond .gt 17, 3) := by decide +kernel
theorem dX10_width_28 : decode cX10_width 28 = .ok (.aload_n 0, 1) := by decide +kernel
theorem dX10_width_29 : decode cX10_width 29 = .ok (.getfield 30, 3) := by decide +kernel
theorem dX10_width_32 : decode cX10_width 32 = .ok (.iconst 0, 1) := by decide +kernel
theorem dX10_width_33 : decode cX10_width 33 = .ok (.iaload, 1) := by decide +kernel
theorem dX10_width_34 : decode cX10_width 34 = .ok (.aload_n 0, 1) := by decide +kernel
theorem dX10_width_35 : decode cX10_width 35 = .ok (.getfield 203, 3) := by decide +kernel
theorem dX10_width_38 : decode cX10_width 38 = .ok (.iadd, 1) := by decide +kernel
theorem dX10_width_39 : decode cX10_width 39 = .ok (.ifCond .le 7, 3) := by decide +kernel
theorem dX10_width_42 : decode cX10_width 42 = .ok (.iconst 2, 1) := by decide +kernel
theorem dX10_width_43 : decode cX10_width 43 = .ok (.goto 4, 3) := by decide +kernel
theorem dX10_width_46 : decode cX10_width 46 = .ok (.iconst 0, 1) := by decide +kernel
theorem dX10_width_47 : decode cX10_width 47 = .ok (.putfield 125, 3) := by decide +kernel
theorem dX10_width_50 : decode cX10_width 50 = .ok (.aload_n 0, 1) := by decide +kernel
theorem dX10_width_51 : decode cX10_width 51 = .ok (.getfield 125, 3) := by decide +kernel
theorem dX10_width_54 : decode cX10_width 54 = .ok (.ifCond .le 4, 3) := by decide +kernel
theorem dX10_width_57 : decode cX10_width 57 = .ok (.return_, 1) := by decide +kernel
theorem dX10_width_58 : decode cX10_width 58 = .ok (.aload_n 0, 1) := by decide +kernel
theorem dX10_width_59 : decode cX10_width 59 = .ok (.iload_n 1, 1) := by decide +kernel
theorem dX10_width_60 : decode cX10_width 60 = .ok (.putfield 116, 3) := by decide +kernel
theorem dX10_width_63 : decode cX10_width 63 = .ok (.aload_n 0, 1) := by decide +kernel
theorem dX10_width_64 : decode cX10_width 64 = .ok (.iconst 0, 1) := by decide +kernel
theorem dX10_width_65 : decode cX10_width 65 = .ok (.putfield 147, 3) := by decide +kernel
theorem dX10_width_68 : decode cX10_width 68 = .ok (.return_, 1) := by decide +kernel
set_option maxRecDepth 20000 in
theorem ggX10_key_X10_isIn : GoodIn wsX10_key wsX10_isIn := goodIn_r _ [11] (by decide +kernel) (by decide +kernel)
set_option maxRecDepth 20000 in
theorem gX10_key_X10_isIn : GoodIn wsX10_key (va_wsS RX10 193 yX10_isIn wsX10_isIn) := goodIn_app (goodIn_of _ (by decide +kernel)) ggX10_key_X10_isIn
theorem dX10_key_0 : decode cX10_key 0 = .ok (.iconst 0, 1) := by decide +kernel
theorem dX10_key_1 : decode cX10_key 1 = .ok (.istore_n 3, 1) := by decide +kernel
theorem dX10_key_2 : decode cX10_key 2 = .ok (.iconst 0, 1) := by decide +kernel
theorem dX10_key_3 : decode cX10_key 3 = .ok (.istore 4, 2) := by decide +kernel
theorem dX10_key_5 : decode cX10_key 5 = .ok (.iload 4, 2) := by decide +kernel
theorem dX10_key_7 : decode cX10_key 7 = .ok (.aload_n 0, 1) := by decide +kernel
theorem dX10_key_8 : decode cX10_key 8 = .ok (.getfield 147, 3) := by decide +kernel
theorem dX10_key_11 : decode cX10_key 11 = .ok (.if_icmp .ge 30, 3) := by decide +kernel
theorem dX10_key_14 : decode cX10_key 14 = .ok (.iload_n 3, 1) := by decide +kernel
theorem dX10_key_15 : decode cX10_key 15 = .ok (.ifCond .ne 14, 3) := by decide +kernel
theorem dX10_key_18 : decode cX10_key 18 = .ok (.aload_n 0, 1) := by decide +kernel
theorem dX10_key_19 : decode cX10_key 19 = .ok (.getfield 42, 3) := by decide +kernel
theorem dX10_key_22 : decode cX10_key 22 = .ok (.iload 4, 2) := by decide +kernel
theorem dX10_key_24 : decode cX10_key 24 = .ok (.iaload, 1) := by decide +kernel
theorem dX10_key_25 : decode cX10_key 25 = .ok (.iload_n 1, 1) := by decide +kernel
theorem dX10_key_26 : decode cX10_key 26 = .ok (.if_icmp .ne 7, 3) := by decide +kernel
theorem dX10_key_29 : decode cX10_key 29 = .ok (.iconst 1, 1) := by decide +kernel
theorem dX10_key_30 : decode cX10_key 30 = .ok (.goto 4, 3) := by decide +kernel
theorem dX10_key_33 : decode cX10_key 33 = .ok (.iconst 0, 1) := by decide +kernel
theorem dX10_key_34 : decode cX10_key 34 = .ok (.istore_n 3, 1) := by decide +kernel
theorem dX10_key_35 : decode cX10_key 35 = .ok (.iinc 4 1, 3) := by decide +kernel
theorem dX10_key_38 : decode cX10_key 38 = .ok (.goto (-33), 3) := by decide +kernel
theorem dX10_key_41 : decode cX10_key 41 = .ok (.aload_n 0, 1) := by decide +kernel
theorem dX10_key_42 : decode cX10_key 42 = .ok (.iload_n 1, 1) := by decide +kernel
theorem dX10_key_43 : decode cX10_key 43 = .ok (.iconst 0, 1) := by decide +kernel
theorem dX10_key_44 : decode cX10_key 44 = .ok (.aload_n 0, 1) := by decide +kernel
theorem dX10_key_45 : decode cX10_key 45 = .ok (.getfield 116, 3) := by decide +kernel
theorem dX10_key_48 : decode cX10_key 48 = .ok (.iconst 1, 1) := by decide +kernel
theorem dX10_key_49 : decode cX10_key 49 = .ok (.isub, 1) := by decide +kernel
theorem dX10_key_50 : decode cX10_key 50 = .ok (.invokestatic 193, 3) := by decide +kernel
theorem dX10_key_53 : decode cX10_key 53 = .ok (.ifCond .ne 7, 3) := by decide +kernel
theorem dX10_key_56 : decode cX10_key 56 = .ok (.iconst 1, 1) := by decide +kernel
theorem dX10_key_57 : decode cX10_key 57 = .ok (.goto 30, 3) := by decide +kernel
theorem dX10_key_60 : decode cX10_key 60 = .ok (.iload_n 3, 1) := by decide +kernel
theorem dX10_key_61 : decode cX10_key 61 = .ok (.ifCond .eq 7, 3) := by decide +kernel
theorem dX10_key_64 : decode cX10_key 64 = .ok (.iconst 2, 1) := by decide +kernel
theorem dX10_key_65 : decode cX10_key 65 = .ok (.goto 22, 3) := by decide +kernel
theorem dX10_key_68 : decode cX10_key 68 = .ok (.aload_n 0, 1) := by decide +kernel
theorem dX10_key_69 : decode cX10_key 69 = .ok (.getfield 197, 3) := by decide +kernel
theorem dX10_key_72 : decode cX10_key 72 = .ok (.ifCond .ne 10, 3) := by decide +kernel
theorem dX10_key_75 : decode cX10_key 75 = .ok (.aload_n 0, 1) := by decide +kernel
theorem dX10_key_76 : decode cX10_key 76 = .ok (.getfield 200, 3) := by decide +kernel
theorem dX10_key_79 : decode cX10_key 79 = .ok (.ifCond .le 7, 3) := by decide +kernel
theorem dX10_key_82 : decode cX10_key 82 = .ok (.iconst 3, 1) := by decide +kernel
theorem dX10_key_83 : decode cX10_key 83 = .ok (.goto 4, 3) := by decide +kernel
theorem dX10_key_86 : decode cX10_key 86 = .ok (.iconst 0, 1) := by decide +kernel
theorem dX10_key_87 : decode cX10_key 87 = .ok (.putfield 125, 3) := by decide +kernel
theorem dX10_key_90 : decode cX10_key 90 = .ok (.aload_n 0, 1) := by decide +kernel
theorem dX10_key_91 : decode cX10_key 91 = .ok (.getfield 125, 3) := by decide +kernel
theorem dX10_key_94 : decode cX10_key 94 = .ok (.ifCond .le 5, 3) := by decide +kernel
theorem dX10_key_97 : decode cX10_key 97 = .ok (.iconst 0, 1) := by decide +kernel
theorem dX10_key_98 : decode cX10_key 98 = .ok (.ireturn, 1) := by decide +kernel
theorem dX10_key_99 : decode cX10_key 99 = .ok (.aload_n 0, 1) := by decide +kernel
theorem dX10_key_100 : decode cX10_key 100 = .ok (.getfield 42, 3) := by decide +kernel
theorem dX10_key_103 : decode cX10_key 103 = .ok (.aload_n 0, 1) := by decide +kernel
theorem dX10_key_104 : decode cX10_key 104 = .ok (.getfield 147, 3) := by decide +kernel
theorem dX10_key_107 : decode cX10_key 107 = .ok (.iload_n 1, 1) := by decide +kernel
theorem dX10_key_108 : decode cX10_key 108 = .ok (.iastore, 1) := by decide +kernel
theorem dX10_key_109 : decode cX10_key 109 = .ok (.aload_n 0, 1) := by decide +kernel
theorem dX10_key_110 : decode cX10_key 110 = .ok (.getfield 45, 3) := by decide +kernel
theorem dX10_key_113 : decode cX10_key 113 = .ok (.aload_n 0, 1) := by decide +kernel
theorem dX10_key_114 : decode cX10_key 114 = .ok (.getfield 147, 3) := by decide +kernel
theorem dX10_key_117 : decode cX10_key 117 = .ok (.iload_n 2, 1) := by decide +kernel
theorem dX10_key_118 : decode cX10_key 118 = .ok (.bastore, 1) := by decide +kernel
theorem dX10_key_119 : decode cX10_key 119 = .ok (.aload_n 0, 1) := by decide +kernel
theorem dX10_key_120 : decode cX10_key 120 = .ok (.dup, 1) := by decide +kernel
theorem dX10_key_121 : decode cX10_key 121 = .ok (.getfield 147, 3) := by decide +kernel
theorem dX10_key_124 : decode cX10_key 124 = .ok (.iconst 1, 1) := by decide +kernel
theorem dX10_key_125 : decode cX10_key 125 = .ok (.iadd, 1) := by decide +kernel
theorem dX10_key_126 : decode cX10_key 126 = .ok (.putfield 147, 3) := by decide +kernel
theorem dX10_key_129 : decode cX10_key 129 = .ok (.aload_n 0, 1) := by decide +kernel
theorem dX10_key_130 : decode cX10_key 130 = .ok (.getfield 147, 3) := by decide +kernel
theorem dX10_key_133 : decode cX10_key 133 = .ok (.ireturn, 1) := by decide +kernel
set_option maxRecDepth 20000 in
theorem ggX10_mode_X10_isIn : GoodIn wsX10_mode wsX10_isIn := goodIn_r _ [7] (by decide +kernel) (by decide +kernel)
set_option maxRecDepth 20000 in
theorem gX10_mode_X10_isIn : GoodIn wsX10_mode (va_wsS RX10 193 yX10_isIn wsX10_isIn) := goodIn_app (goodIn_of _ (by decide +kernel)) ggX10_mode_X10_isIn
theorem dX10_mode_0 : decode cX10_mode 0 = .ok (.aload_n 0, 1) := by decide +kernel
theorem dX10_mode_1 : decode cX10_mode 1 = .ok (.iload_n 1, 1) := by decide +kernel
theorem dX10_mode_2 : decode cX10_mode 2 = .ok (.iconst 0, 1) := by decide +kernel
theorem dX10_mode_3 : decode cX10_mode 3 = .ok (.iconst 2, 1) := by decide +kernel
theorem dX10_mode_4 : decode cX10_mode 4 = .ok (.invokestatic 193, 3) := by decide +kernel
theorem dX10_mode_7 : decode cX10_mode 7 = .ok (.ifCond .ne 7, 3) := by decide +kernel
theorem dX10_mode_10 : decode cX10_mode 10 = .ok (.iconst 1, 1) := by decide +kernel
theorem dX10_mode_11 : decode cX10_mode 11 = .ok (.goto 15, 3) := by decide +kernel
theorem dX10_mode_14 : decode cX10_mode 14 = .ok (.aload_n 0, 1) := by decide +kernel
theorem dX10_mode_15 : decode cX10_mode 15 = .ok (.getfield 197, 3) := by decide +kernel
theorem dX10_mode_18 : decode cX10_mode 18 = .ok (.ifCond .eq 7, 3) := by decide +kernel
theorem dX10_mode_21 : decode cX10_mode 21 = .ok (.iconst 2, 1) := by decide +kernel
theorem dX10_mode_22 : decode cX10_mode 22 = .ok (.goto 4, 3) := by decide +kernel
theorem dX10_mode_25 : decode cX10_mode 25 = .ok (.iconst 0, 1) := by decide +kernel
theorem dX10_mode_26 : decode cX10_mode 26 = .ok (.putfield 125, 3) := by decide +kernel
theorem dX10_mode_29 : decode cX10_mode 29 = .ok (.aload_n 0, 1) := by decide +kernel
theorem dX10_mode_30 : decode cX10_mode 30 = .ok (.getfield 125, 3) := by decide +kernel
theorem dX10_mode_33 : decode cX10_mode 33 = .ok (.ifCond .le 5, 3) := by decide +kernel
theorem dX10_mode_36 : decode cX10_mode 36 = .ok (.iconst 0, 1) := by decide +kernel
theorem dX10_mode_37 : decode cX10_mode 37 = .ok (.ireturn, 1) := by decide +kernel
theorem dX10_mode_38 : decode cX10_mode 38 = .ok (.aload_n 0, 1) := by decide +kernel
theorem dX10_mode_39 : decode cX10_mode 39 = .ok (.getfield 154, 3) := by decide +kernel
theorem dX10_mode_42 : decode cX10_mode 42 = .ok (.istore_n 2, 1) := by decide +kernel
theorem dX10_mode_43 : decode cX10_mode 43 = .ok (.aload_n 0, 1) := by decide +kernel
theorem dX10_mode_44 : decode cX10_mode 44 = .ok (.iload_n 1, 1) := by decide +kernel
theorem dX10_mode_45 : decode cX10_mode 45 = .ok (.putfield 154, 3) := by decide +kernel
theorem dX10_mode_48 : decode cX10_mode 48 = .ok (.iload_n 2, 1) := by decide +kernel
theorem dX10_mode_49 : decode cX10_mode 49 = .ok (.ireturn, 1) := by decide +kernel
set_option maxRecDepth 20000 in
theorem ggX10_come_X10_begin : GoodIn wsX10_come wsX10_begin := goodIn_r _ [12, 6, 13, 14, 43, 44, 45, 46, 47, 48, 49, 50, 51, 52, 53, 54, 55, 56, 57, 58, 59, 60, 61, 62, 63, 64, 65, 66, 67, 68, 69, 70, 71, 72, 73, 74, 75, 76, 77, 78, 79, 80, 81, 82, 83, 84, 85, 86, 87, 88, 89, 90, 91, 92, 93, 94, 95, 96, 97, 98, 99] (by decide +kernel) (by decide +kernel)
set_option maxRecDepth 20000 in
theorem gX10_come_X10_begin : GoodIn wsX10_come (wsV RX10 209 RX10 yX10_begin wsX10_begin) := goodIn_app (goodIn_of _ (by decide +kernel)) ggX10_come_X10_begin
set_option maxRecDepth 20000 in
theorem ggX10_come_X10_per : GoodIn wsX10_come wsX10_per := goodIn_r _ [18, 19, 2, 43, 44, 45, 46, 47, 48, 49, 50, 51, 52, 53, 54, 55, 56, 57, 58, 59, 60, 61, 62, 63, 64, 65, 66, 67, 68, 69, 70, 71, 72, 73, 74, 75, 76, 77, 78, 79, 80, 81, 82, 83, 84, 85, 86, 87, 88, 89, 90, 91, 92, 93, 94, 95, 96, 97, 98, 99] (by decide +kernel) (by decide +kernel)
set_option maxRecDepth 20000 in
theorem gX10_come_X10_per : GoodIn wsX10_come (wsV RX10 179 RX10 yX10_per wsX10_per) := goodIn_app (goodIn_of _ (by decide +kernel)) ggX10_come_X10_per
set_option maxRecDepth 20000 in
theorem ggX10_come_X10_write : GoodIn wsX10_come wsX10_write := goodIn_r _ [23, 13, 24, 6, 25, 14, 26, 27, 2, 28, 29, 30, 31, 11, 32, 33, 34, 35, 43, 44, 45, 46, 47, 48, 49, 50, 51, 52, 53, 54, 55, 56, 57, 58, 59, 60, 61, 62, 63, 64, 65, 66, 67, 68, 69, 70, 71, 72, 73, 74, 75, 76, 77, 78, 79, 80, 81, 82, 83, 84, 85, 86, 87, 88, 89, 90, 91, 92, 93, 94, 95, 96, 97, 98, 99] (by decide +kernel) (by decide +kernel)
set_option maxRecDepth 20000 in
theorem gX10_come_X10_write : GoodIn wsX10_come (wsV RX10 171 RX10 yX10_write wsX10_write) := goodIn_app (goodIn_of _ (by decide +kernel)) ggX10_come_X10_write
set_option maxRecDepth 20000 in
theorem ggX10_come_X10_hang : GoodIn wsX10_come wsX10_hang := goodIn_r _ [39, 40, 26, 41, 42, 43, 44, 45, 46, 47, 48, 49, 50, 51, 52, 53, 54, 55, 56, 57, 58, 59, 60, 61, 62, 63, 64, 65, 66, 67, 68, 69, 70, 71, 72, 73, 74, 75, 76, 77, 78, 79, 80, 81, 82, 83, 84, 85, 86, 87, 88, 89, 90, 91, 92, 93, 94, 95, 96, 97, 98, 99] (by decide +kernel) (by decide +kernel)
set_option maxRecDepth 20000 in
theorem gX10_come_X10_hang : GoodIn wsX10_come (wsV RX10 175 RX10 yX10_hang wsX10_hang) := goodIn_app (goodIn_of _ (by decide +kernel)) ggX10_come_X10_hang
theorem dX10_come_0 : decode cX10_come 0 = .ok (.aload_n 0, 1) := by decide +kernel
theorem dX10_come_1 : decode cX10_come 1 = .ok (.getfield 203, 3) := by decide +kernel
theorem dX10_come_4 : decode cX10_come 4 = .ok (.aload_n 0, 1) := by decide +kernel
theorem dX10_come_5 : decode cX10_come 5 = .ok (.getfield 116, 3) := by decide +kernel
theorem dX10_come_8 : decode cX10_come 8 = .ok (.iconst 1, 1) := by decide +kernel
theorem dX10_come_9 : decode cX10_come 9 = .ok (.iadd, 1) := by decide +kernel
theorem dX10_come_10 : decode cX10_come 10 = .ok (.imul, 1) := by decide +kernel
theorem dX10_come_11 : decode cX10_come 11 = .ok (.istore_n 1, 1) := by decide +kernel
theorem dX10_come_12 : decode cX10_come 12 = .ok (.iconst 0, 1) := by decide +kernel
theorem dX10_come_13 : decode cX10_come 13 = .ok (.istore_n 2, 1) := by decide +kernel
theorem dX10_come_14 : decode cX10_come 14 = .ok (.iload_n 2, 1) := by decide +kernel
theorem dX10_come_15 : decode cX10_come 15 = .ok (.aload_n 0, 1) := by decide +kernel
theorem dX10_come_16 : decode cX10_come 16 = .ok (.getfield 116, 3) := by decide +kernel
theorem dX10_come_19 : decode cX10_come 19 = .ok (.if_icmp .ge 23, 3) := by decide +kernel
theorem dX10_come_22 : decode cX10_come 22 = .ok (.aload_n 0, 1) := by decide +kernel
theorem dX10_come_23 : decode cX10_come 23 = .ok (.getfield 39, 3) := by decide +kernel
theorem dX10_come_26 : decode cX10_come 26 = .ok (.iload_n 1, 1) := by decide +kernel
theorem dX10_come_27 : decode cX10_come 27 = .ok (.iload_n 2, 1) := by decide +kernel
theorem dX10_come_28 : decode cX10_come 28 = .ok (.iadd, 1) := by decide +kernel
theorem dX10_come_29 : decode cX10_come 29 = .ok (.aload_n 0, 1) := by decide +kernel
theorem dX10_come_30 : decode cX10_come 30 = .ok (.getfield 54, 3) := by decide +kernel
theorem dX10_come_33 : decode cX10_come 33 = .ok (.iload_n 2, 1) := by decide +kernel
theorem dX10_come_34 : decode cX10_come 34 = .ok (.laload, 1) := by decide +kernel
theorem dX10_come_35 : decode cX10_come 35 = .ok (.lastore, 1) := by decide +kernel
theorem dX10_come_36 : decode cX10_come 36 = .ok (.iinc 2 1, 3) := by decide +kernel
theorem dX10_come_39 : decode cX10_come 39 = .ok (.goto (-25), 3) := by decide +kernel
theorem dX10_come_42 : decode cX10_come 42 = .ok (.aload_n 0, 1) := by decide +kernel
theorem dX10_come_43 : decode cX10_come 43 = .ok (.getfield 39, 3) := by decide +kernel
theorem dX10_come_46 : decode cX10_come 46 = .ok (.iload_n 1, 1) := by decide +kernel
theorem dX10_come_47 : decode cX10_come 47 = .ok (.aload_n 0, 1) := by decide +kernel
theorem dX10_come_48 : decode cX10_come 48 = .ok (.getfield 116, 3) := by decide +kernel
theorem dX10_come_51 : decode cX10_come 51 = .ok (.iadd, 1) := by decide +kernel
theorem dX10_come_52 : decode cX10_come 52 = .ok (.aload_n 0, 1) := by decide +kernel
theorem dX10_come_53 : decode cX10_come 53 = .ok (.getfield 206, 3) := by decide +kernel
theorem dX10_come_56 : decode cX10_come 56 = .ok (.i2l, 1) := by decide +kernel
theorem dX10_come_57 : decode cX10_come 57 = .ok (.lastore, 1) := by decide +kernel
theorem dX10_come_58 : decode cX10_come 58 = .ok (.aload_n 0, 1) := by decide +kernel
theorem dX10_come_59 : decode cX10_come 59 = .ok (.invokevirtual 209, 3) := by decide +kernel
theorem dX10_come_62 : decode cX10_come 62 = .ok (.aload_n 0, 1) := by decide +kernel
theorem dX10_come_63 : decode cX10_come 63 = .ok (.getfield 203, 3) := by decide +kernel
theorem dX10_come_66 : decode cX10_come 66 = .ok (.iconst 1, 1) := by decide +kernel
theorem dX10_come_67 : decode cX10_come 67 = .ok (.iadd, 1) := by decide +kernel
theorem dX10_come_68 : decode cX10_come 68 = .ok (.aload_n 0, 1) := by decide +kernel
theorem dX10_come_69 : decode cX10_come 69 = .ok (.invokevirtual 179, 3) := by decide +kernel
theorem dX10_come_72 : decode cX10_come 72 = .ok (.if_icmp .ge 25, 3) := by decide +kernel
theorem dX10_come_75 : decode cX10_come 75 = .ok (.aload_n 0, 1) := by decide +kernel
theorem dX10_come_76 : decode cX10_come 76 = .ok (.dup, 1) := by decide +kernel
theorem dX10_come_77 : decode cX10_come 77 = .ok (.getfield 203, 3) := by decide +kernel
theorem dX10_come_80 : decode cX10_come 80 = .ok (.iconst 1, 1) := by decide +kernel
theorem dX10_come_81 : decode cX10_come 81 = .ok (.iadd, 1) := by decide +kernel
theorem dX10_come_82 : decode cX10_come 82 = .ok (.putfield 203, 3) := by decide +kernel
theorem dX10_come_85 : decode cX10_come 85 = .ok (.aload_n 0, 1) := by decide +kernel
theorem dX10_come_86 : decode cX10_come 86 = .ok (.dup, 1) := by decide +kernel
theorem dX10_come_87 : decode cX10_come 87 = .ok (.getfield 206, 3) := by decide +kernel
theorem dX10_come_90 : decode cX10_come 90 = .ok (.iconst 1, 1) := by decide +kernel
theorem dX10_come_91 : decode cX10_come 91 = .ok (.iadd, 1) := by decide +kernel
theorem dX10_come_92 : decode cX10_come 92 = .ok (.putfield 206, 3) := by decide +kernel
theorem dX10_come_95 : decode cX10_come 95 = .ok (.iconst 1, 1) := by decide +kernel
theorem dX10_come_96 : decode cX10_come 96 = .ok (.ireturn, 1) := by decide +kernel
theorem dX10_come_97 : decode cX10_come 97 = .ok (.aload_n 0, 1) := by decide +kernel
theorem dX10_come_98 : decode cX10_come 98 = .ok (.aload_n 0, 1) := by decide +kernel
theorem dX10_come_99 : decode cX10_come 99 = .ok (.getfield 39, 3) := by decide +kernel
theorem dX10_come_102 : decode cX10_come 102 = .ok (.aload_n 0, 1) := by decide +kernel
theorem dX10_come_103 : decode cX10_come 103 = .ok (.getfield 203, 3) := by decide +kernel
theorem dX10_come_106 : decode cX10_come 106 = .ok (.iconst 1, 1) := by decide +kernel
theorem dX10_come_107 : decode cX10_come 107 = .ok (.iadd, 1) := by decide +kernel
theorem dX10_come_108 : decode cX10_come 108 = .ok (.invokevirtual 171, 3) := by decide +kernel
theorem dX10_come_111 : decode cX10_come 111 = .ok (.istore_n 2, 1) := by decide +kernel
theorem dX10_come_112 : decode cX10_come 112 = .ok (.aload_n 0, 1) := by decide +kernel
theorem dX10_come_113 : decode cX10_come 113 = .ok (.aload_n 0, 1) := by decide +kernel
theorem dX10_come_114 : decode cX10_come 114 = .ok (.getfield 134, 3) := by decide +kernel
theorem dX10_come_117 : decode cX10_come 117 = .ok (.iconst 1, 1) := by decide +kernel
theorem dX10_come_118 : decode cX10_come 118 = .ok (.if_icmp .ne 7, 3) := by decide +kernel
theorem dX10_come_121 : decode cX10_come 121 = .ok (.iconst 1, 1) := by decide +kernel
theorem dX10_come_122 : decode cX10_come 122 = .ok (.goto 4, 3) := by decide +kernel
theorem dX10_come_125 : decode cX10_come 125 = .ok (.iconst 0, 1) := by decide +kernel
theorem dX10_come_126 : decode cX10_come 126 = .ok (.putfield 197, 3) := by decide +kernel
theorem dX10_come_129 : decode cX10_come 129 = .ok (.aload_n 0, 1) := by decide +kernel
theorem dX10_come_130 : decode cX10_come 130 = .ok (.getfield 134, 3) := by decide +kernel
theorem dX10_come_133 : decode cX10_come 133 = .ok (.ifCond .le 5, 3) := by decide +kernel
theorem dX10_come_136 : decode cX10_come 136 = .ok (.iconst 0, 1) := by decide +kernel
theorem dX10_come_137 : decode cX10_come 137 = .ok (.ireturn, 1) := by decide +kernel
theorem dX10_come_138 : decode cX10_come 138 = .ok (.aload_n 0, 1) := by decide +kernel
theorem dX10_come_139 : decode cX10_come 139 = .ok (.iconst 0, 1) := by decide +kernel
theorem dX10_come_140 : decode cX10_come 140 = .ok (.iload_n 2, 1) := by decide +kernel
theorem dX10_come_141 : decode cX10_come 141 = .ok (.aload_n 0, 1) := by decide +kernel
theorem dX10_come_142 : decode cX10_come 142 = .ok (.getfield 203, 3) := by decide +kernel
theorem dX10_come_145 : decode cX10_come 145 = .ok (.iconst 1, 1) := by decide +kernel
theorem dX10_come_146 : decode cX10_come 146 = .ok (.iadd, 1) := by decide +kernel
theorem dX10_come_147 : decode cX10_come 147 = .ok (.invokevirtual 175, 3) := by decide +kernel
theorem dX10_come_150 : decode cX10_come 150 = .ok (.aload_n 0, 1) := by decide +kernel
theorem dX10_come_151 : decode cX10_come 151 = .ok (.iconst 0, 1) := by decide +kernel
theorem dX10_come_152 : decode cX10_come 152 = .ok (.putfield 203, 3) := by decide +kernel
theorem dX10_come_155 : decode cX10_come 155 = .ok (.aload_n 0, 1) := by decide +kernel
theorem dX10_come_156 : decode cX10_come 156 = .ok (.dup, 1) := by decide +kernel
theorem dX10_come_157 : decode cX10_come 157 = .ok (.getfield 206, 3) := by decide +kernel
theorem dX10_come_160 : decode cX10_come 160 = .ok (.iconst 1, 1) := by decide +kernel
theorem dX10_come_161 : decode cX10_come 161 = .ok (.iadd, 1) := by decide +kernel
theorem dX10_come_162 : decode cX10_come 162 = .ok (.putfield 206, 3) := by decide +kernel
theorem dX10_come_165 : decode cX10_come 165 = .ok (.iconst 1, 1) := by decide +kernel
theorem dX10_come_166 : decode cX10_come 166 = .ok (.ireturn, 1) := by decide +kernel
set_option maxRecDepth 20000 in
theorem ggX10_feed_X10_come : GoodIn wsX10_feed wsX10_come := goodIn_r _ [10, 11, 12, 13, 3, 5, 4, 1, 14, 15, 16, 9, 17, 18, 19, 20, 21, 22, 23, 24, 25, 26, 27, 28, 29, 30, 31, 32, 33, 34, 35, 36, 37, 38, 39, 40, 41, 42, 43, 44, 45, 46, 47, 48, 49, 50, 51, 52, 53, 54, 55, 56, 57, 58, 59, 60, 61, 62, 63, 64, 65, 66, 67, 68, 69, 70, 71, 72, 73, 74, 75, 76, 77, 78, 79, 80, 81, 82, 83, 84, 85, 86, 87, 88, 89, 90, 91, 92, 93, 94, 95, 96, 97, 98, 99, 100, 101, 102, 103, 104] (by decide +kernel) (by decide +kernel)
set_option maxRecDepth 20000 in
theorem gX10_feed_X10_come : GoodIn wsX10_feed (wsV RX10 212 RX10 yX10_come wsX10_come) := goodIn_app (goodIn_of _ (by decide +kernel)) ggX10_feed_X10_come
theorem dX10_feed_0 : decode cX10_feed 0 = .ok (.aload_n 0, 1) := by decide +kernel
theorem dX10_feed_1 : decode cX10_feed 1 = .ok (.aload_n 0, 1) := by decide +kernel
theorem dX10_feed_2 : decode cX10_feed 2 = .ok (.getfield 197, 3) := by decide +kernel
theorem dX10_feed_5 : decode cX10_feed 5 = .ok (.ifCond .eq 7, 3) := by decide +kernel
theorem dX10_feed_8 : decode cX10_feed 8 = .ok (.iconst 1, 1) := by decide +kernel
theorem dX10_feed_9 : decode cX10_feed 9 = .ok (.goto 4, 3) := by decide +kernel
theorem dX10_feed_12 : decode cX10_feed 12 = .ok (.iconst 0, 1) := by decide +kernel
theorem dX10_feed_13 : decode cX10_feed 13 = .ok (.putfield 125, 3) := by decide +kernel
theorem dX10_feed_16 : decode cX10_feed 16 = .ok (.aload_n 0, 1) := by decide +kernel
theorem dX10_feed_17 : decode cX10_feed 17 = .ok (.getfield 125, 3) := by decide +kernel
theorem dX10_feed_20 : decode cX10_feed 20 = .ok (.ifCond .le 5, 3) := by decide +kernel
theorem dX10_feed_23 : decode cX10_feed 23 = .ok (.iconst 0, 1) := by decide +kernel
theorem dX10_feed_24 : decode cX10_feed 24 = .ok (.ireturn, 1) := by decide +kernel
theorem dX10_feed_25 : decode cX10_feed 25 = .ok (.aload_n 0, 1) := by decide +kernel
theorem dX10_feed_26 : decode cX10_feed 26 = .ok (.getfield 54, 3) := by decide +kernel
theorem dX10_feed_29 : decode cX10_feed 29 = .ok (.iconst 0, 1) := by decide +kernel
theorem dX10_feed_30 : decode cX10_feed 30 = .ok (.lload_n 1, 1) := by decide +kernel
theorem dX10_feed_31 : decode cX10_feed 31 = .ok (.lastore, 1) := by decide +kernel
theorem dX10_feed_32 : decode cX10_feed 32 = .ok (.aload_n 0, 1) := by decide +kernel
theorem dX10_feed_33 : decode cX10_feed 33 = .ok (.getfield 54, 3) := by decide +kernel
theorem dX10_feed_36 : decode cX10_feed 36 = .ok (.iconst 1, 1) := by decide +kernel
theorem dX10_feed_37 : decode cX10_feed 37 = .ok (.lload_n 3, 1) := by decide +kernel
theorem dX10_feed_38 : decode cX10_feed 38 = .ok (.lastore, 1) := by decide +kernel
theorem dX10_feed_39 : decode cX10_feed 39 = .ok (.aload_n 0, 1) := by decide +kernel
theorem dX10_feed_40 : decode cX10_feed 40 = .ok (.getfield 54, 3) := by decide +kernel
theorem dX10_feed_43 : decode cX10_feed 43 = .ok (.iconst 2, 1) := by decide +kernel
theorem dX10_feed_44 : decode cX10_feed 44 = .ok (.lload 5, 2) := by decide +kernel
theorem dX10_feed_46 : decode cX10_feed 46 = .ok (.lastore, 1) := by decide +kernel
theorem dX10_feed_47 : decode cX10_feed 47 = .ok (.aload_n 0, 1) := by decide +kernel
theorem dX10_feed_48 : decode cX10_feed 48 = .ok (.getfield 54, 3) := by decide +kernel
theorem dX10_feed_51 : decode cX10_feed 51 = .ok (.iconst 3, 1) := by decide +kernel
theorem dX10_feed_52 : decode cX10_feed 52 = .ok (.lload 7, 2) := by decide +kernel
theorem dX10_feed_54 : decode cX10_feed 54 = .ok (.lastore, 1) := by decide +kernel
theorem dX10_feed_55 : decode cX10_feed 55 = .ok (.aload_n 0, 1) := by decide +kernel
theorem dX10_feed_56 : decode cX10_feed 56 = .ok (.invokevirtual 212, 3) := by decide +kernel
theorem dX10_feed_59 : decode cX10_feed 59 = .ok (.istore 9, 2) := by decide +kernel
theorem dX10_feed_61 : decode cX10_feed 61 = .ok (.aload_n 0, 1) := by decide +kernel
theorem dX10_feed_62 : decode cX10_feed 62 = .ok (.aload_n 0, 1) := by decide +kernel
theorem dX10_feed_63 : decode cX10_feed 63 = .ok (.getfield 134, 3) := by decide +kernel
theorem dX10_feed_66 : decode cX10_feed 66 = .ok (.iconst 2, 1) := by decide +kernel
theorem dX10_feed_67 : decode cX10_feed 67 = .ok (.if_icmp .ne 7, 3) := by decide +kernel
theorem dX10_feed_70 : decode cX10_feed 70 = .ok (.iconst 2, 1) := by decide +kernel
theorem dX10_feed_71 : decode cX10_feed 71 = .ok (.goto 4, 3) := by decide +kernel
theorem dX10_feed_74 : decode cX10_feed 74 = .ok (.iconst 0, 1) := by decide +kernel
theorem dX10_feed_75 : decode cX10_feed 75 = .ok (.putfield 125, 3) := by decide +kernel
theorem dX10_feed_78 : decode cX10_feed 78 = .ok (.iload 9, 2) := by decide +kernel
theorem dX10_feed_80 : decode cX10_feed 80 = .ok (.ifCond .eq 12, 3) := by decide +kernel
theorem dX10_feed_83 : decode cX10_feed 83 = .ok (.aload_n 0, 1) := by decide +kernel
theorem dX10_feed_84 : decode cX10_feed 84 = .ok (.getfield 206, 3) := by decide +kernel
theorem dX10_feed_87 : decode cX10_feed 87 = .ok (.iconst 1, 1) := by decide +kernel
theorem dX10_feed_88 : decode cX10_feed 88 = .ok (.isub, 1) := by decide +kernel
theorem dX10_feed_89 : decode cX10_feed 89 = .ok (.goto 5, 3) := by decide +kernel
theorem dX10_feed_92 : decode cX10_feed 92 = .ok (.bipush (-2), 2) := by decide +kernel
theorem dX10_feed_94 : decode cX10_feed 94 = .ok (.ireturn, 1) := by decide +kernel
set_option maxRecDepth 20000 in
theorem ggX10_run_X10_isIn : GoodIn wsX10_run wsX10_isIn := goodIn_r _ [11] (by decide +kernel) (by decide +kernel)
set_option maxRecDepth 20000 in
theorem gX10_run_X10_isIn : GoodIn wsX10_run (va_wsS RX10 193 yX10_isIn wsX10_isIn) := goodIn_app (goodIn_of _ (by decide +kernel)) ggX10_run_X10_isIn
set_option maxRecDepth 20000 in
theorem ggX10_run_X10_come : GoodIn wsX10_run wsX10_come := goodIn_r _ [15, 16, 4, 17, 7, 18, 19, 2, 20, 21, 22, 10, 23, 24, 25, 26, 27, 28, 29, 30, 31, 32, 33, 34, 35, 36, 37, 38, 39, 40, 41, 42, 43, 44, 45, 46, 47, 48, 49, 50, 51, 52, 53, 54, 55, 56, 57, 58, 59, 60, 61, 62, 63, 64, 65, 66, 67, 68, 69, 70, 71, 72, 73, 74, 75, 76, 77, 78, 79, 80, 81, 82, 83, 84, 85, 86, 87, 88, 89, 90, 91, 92, 93, 94, 95, 96, 97, 98, 99, 100, 101, 102, 103, 104, 105, 106, 107, 108, 109, 110] (by decide +kernel) (by decide +kernel)
set_option maxRecDepth 20000 in
theorem gX10_run_X10_come : GoodIn wsX10_run (wsV RX10 212 RX10 yX10_come wsX10_come) := goodIn_app (goodIn_of _ (by decide +kernel)) ggX10_run_X10_come
theorem dX10_run_0 : decode cX10_run 0 = .ok (.aload_n 0, 1) := by decide +kernel
theorem dX10_run_1 : decode cX10_run 1 = .ok (.iload_n 3, 1) := by decide +kernel
theorem dX10_run_2 : decode cX10_run 2 = .ok (.iconst 1, 1) := by decide +kernel
theorem dX10_run_3 : decode cX10_run 3 = .ok (.ldc 215, 2) := by decide +kernel
theorem dX10_run_5 : decode cX10_run 5 = .ok (.invokestatic 193, 3) := by decide +kernel
theorem dX10_run_8 : decode cX10_run 8 = .ok (.ifCond .eq 15, 3) := by decide +kernel
theorem dX10_run_11 : decode cX10_run 11 = .ok (.iload 4, 2) := by decide +kernel
theorem dX10_run_13 : decode cX10_run 13 = .ok (.iconst 0, 1) := by decide +kernel
theorem dX10_run_14 : decode cX10_run 14 = .ok (.sipush 300, 3) := by decide +kernel
theorem dX10_run_17 : decode cX10_run 17 = .ok (.invokestatic 193, 3) := by decide +kernel
theorem dX10_run_20 : decode cX10_run 20 = .ok (.ifCond .ne 7, 3) := by decide +kernel
theorem dX10_run_23 : decode cX10_run 23 = .ok (.iconst 1, 1) := by decide +kernel
theorem dX10_run_24 : decode cX10_run 24 = .ok (.goto 15, 3) := by decide +kernel
theorem dX10_run_27 : decode cX10_run 27 = .ok (.aload_n 0, 1) := by decide +kernel
theorem dX10_run_28 : decode cX10_run 28 = .ok (.getfield 197, 3) := by decide +kernel
theorem dX10_run_31 : decode cX10_run 31 = .ok (.ifCond .eq 7, 3) := by decide +kernel
theorem dX10_run_34 : decode cX10_run 34 = .ok (.iconst 2, 1) := by decide +kernel
theorem dX10_run_35 : decode cX10_run 35 = .ok (.goto 4, 3) := by decide +kernel
theorem dX10_run_38 : decode cX10_run 38 = .ok (.iconst 0, 1) := by decide +kernel
theorem dX10_run_39 : decode cX10_run 39 = .ok (.putfield 125, 3) := by decide +kernel
theorem dX10_run_42 : decode cX10_run 42 = .ok (.aload_n 0, 1) := by decide +kernel
theorem dX10_run_43 : decode cX10_run 43 = .ok (.getfield 125, 3) := by decide +kernel
theorem dX10_run_46 : decode cX10_run 46 = .ok (.ifCond .le 5, 3) := by decide +kernel
theorem dX10_run_49 : decode cX10_run 49 = .ok (.iconst 0, 1) := by decide +kernel
theorem dX10_run_50 : decode cX10_run 50 = .ok (.ireturn, 1) := by decide +kernel
theorem dX10_run_51 : decode cX10_run 51 = .ok (.lload_n 1, 1) := by decide +kernel
theorem dX10_run_52 : decode cX10_run 52 = .ok (.lstore 5, 2) := by decide +kernel
theorem dX10_run_54 : decode cX10_run 54 = .ok (.iconst 0, 1) := by decide +kernel
theorem dX10_run_55 : decode cX10_run 55 = .ok (.istore 7, 2) := by decide +kernel
theorem dX10_run_57 : decode cX10_run 57 = .ok (.iconst 1, 1) := by decide +kernel
theorem dX10_run_58 : decode cX10_run 58 = .ok (.istore 8, 2) := by decide +kernel
theorem dX10_run_60 : decode cX10_run 60 = .ok (.iload 7, 2) := by decide +kernel
theorem dX10_run_62 : decode cX10_run 62 = .ok (.iload 4, 2) := by decide +kernel
theorem dX10_run_64 : decode cX10_run 64 = .ok (.if_icmp .ge 78, 3) := by decide +kernel
theorem dX10_run_67 : decode cX10_run 67 = .ok (.iload 8, 2) := by decide +kernel
theorem dX10_run_69 : decode cX10_run 69 = .ok (.ifCond .eq 73, 3) := by decide +kernel
theorem dX10_run_72 : decode cX10_run 72 = .ok (.iconst 0, 1) := by decide +kernel
theorem dX10_run_73 : decode cX10_run 73 = .ok (.istore 9, 2) := by decide +kernel
theorem dX10_run_75 : decode cX10_run 75 = .ok (.iload 9, 2) := by decide +kernel
theorem dX10_run_77 : decode cX10_run 77 = .ok (.aload_n 0, 1) := by decide +kernel
theorem dX10_run_78 : decode cX10_run 78 = .ok (.getfield 116, 3) := by decide +kernel
theorem dX10_run_81 : decode cX10_run 81 = .ok (.if_icmp .ge 36, 3) := by decide +kernel
theorem dX10_run_84 : decode cX10_run 84 = .ok (.lload 5, 2) := by decide +kernel
theorem dX10_run_86 : decode cX10_run 86 = .ok (.ldc2_w 216, 3) := by decide +kernel
theorem dX10_run_89 : decode cX10_run 89 = .ok (.lmul, 1) := by decide +kernel
theorem dX10_run_90 : decode cX10_run 90 = .ok (.ldc2_w 218, 3) := by decide +kernel
theorem dX10_run_93 : decode cX10_run 93 = .ok (.ladd, 1) := by decide +kernel
theorem dX10_run_94 : decode cX10_run 94 = .ok (.lstore 5, 2) := by decide +kernel
theorem dX10_run_96 : decode cX10_run 96 = .ok (.aload_n 0, 1) := by decide +kernel
theorem dX10_run_97 : decode cX10_run 97 = .ok (.getfield 54, 3) := by decide +kernel
theorem dX10_run_100 : decode cX10_run 100 = .ok (.iload 9, 2) := by decide +kernel
theorem dX10_run_102 : decode cX10_run 102 = .ok (.lload 5, 2) := by decide +kernel
theorem dX10_run_104 : decode cX10_run 104 = .ok (.bipush 33, 2) := by decide +kernel
theorem dX10_run_106 : decode cX10_run 106 = .ok (.lushr, 1) := by decide +kernel
theorem dX10_run_107 : decode cX10_run 107 = .ok (.iload_n 3, 1) := by decide +kernel
theorem dX10_run_108 : decode cX10_run 108 = .ok (.i2l, 1) := by decide +kernel
theorem dX10_run_109 : decode cX10_run 109 = .ok (.lrem, 1) := by decide +kernel
theorem dX10_run_110 : decode cX10_run 110 = .ok (.lastore, 1) := by decide +kernel
theorem dX10_run_111 : decode cX10_run 111 = .ok (.iinc 9 1, 3) := by decide +kernel
theorem dX10_run_114 : decode cX10_run 114 = .ok (.goto (-39), 3) := by decide +kernel
theorem dX10_run_117 : decode cX10_run 117 = .ok (.aload_n 0, 1) := by decide +kernel
theorem dX10_run_118 : decode cX10_run 118 = .ok (.invokevirtual 212, 3) := by decide +kernel
theorem dX10_run_121 : decode cX10_run 121 = .ok (.istore 8, 2) := by decide +kernel
theorem dX10_run_123 : decode cX10_run 123 = .ok (.iload 8, 2) := by decide +kernel
theorem dX10_run_125 : decode cX10_run 125 = .ok (.ifCond .eq 10, 3) := by decide +kernel
theorem dX10_run_128 : decode cX10_run 128 = .ok (.iload 7, 2) := by decide +kernel
theorem dX10_run_130 : decode cX10_run 130 = .ok (.iconst 1, 1) := by decide +kernel
theorem dX10_run_131 : decode cX10_run 131 = .ok (.iadd, 1) := by decide +kernel
theorem dX10_run_132 : decode cX10_run 132 = .ok (.goto 5, 3) := by decide +kernel
theorem dX10_run_135 : decode cX10_run 135 = .ok (.iload 7, 2) := by decide +kernel
theorem dX10_run_137 : decode cX10_run 137 = .ok (.istore 7, 2) := by decide +kernel
theorem dX10_run_139 : decode cX10_run 139 = .ok (.goto (-79), 3) := by decide +kernel
theorem dX10_run_142 : decode cX10_run 142 = .ok (.iload 7, 2) := by decide +kernel
theorem dX10_run_144 : decode cX10_run 144 = .ok (.ireturn, 1) := by decide +kernel
set_option maxRecDepth 20000 in
theorem ggX10_nextRecord_X10_per : GoodIn wsX10_nextRecord wsX10_per := goodIn_r _ [11, 12, 6, 25, 26, 27, 28, 29, 30, 31, 32, 33, 34, 35, 36, 37, 38, 39, 40, 41, 42, 43, 44, 45, 46, 47, 48, 49, 50, 51, 52, 53, 54, 55, 56, 57, 58, 59, 60, 61, 62, 63, 64, 65, 66, 67, 68, 69, 70, 71, 72, 73, 74, 75, 76, 77, 78, 79, 80, 81] (by decide +kernel) (by decide +kernel)
set_option maxRecDepth 20000 in
theorem gX10_nextRecord_X10_per : GoodIn wsX10_nextRecord (wsV RX10 179 RX10 yX10_per wsX10_per) := goodIn_app (goodIn_of _ (by decide +kernel)) ggX10_nextRecord_X10_per
set_option maxRecDepth 20000 in
theorem ggX10_nextRecord_X10_read : GoodIn wsX10_nextRecord wsX10_read := goodIn_r _ [16, 2, 17, 18, 19, 20, 10, 21, 22, 23, 24, 25, 26, 27, 28, 29, 30, 31, 32, 33, 34, 35, 36, 37, 38, 39, 40, 41, 42, 43, 44, 45, 46, 47, 48, 49, 50, 51, 52, 53, 54, 55, 56, 57, 58, 59, 60, 61, 62, 63, 64, 65, 66, 67, 68, 69, 70, 71, 72, 73, 74, 75, 76, 77, 78, 79, 80, 81] (by decide +kernel) (by decide +kernel)
set_option maxRecDepth 20000 in
theorem gX10_nextRecord_X10_read : GoodIn wsX10_nextRecord (wsV RX10 229 RX10 yX10_read wsX10_read) := goodIn_app (goodIn_of _ (by decide +kernel)) ggX10_nextRecord_X10_read
theorem dX10_nextRecord_0 : decode cX10_nextRecord 0 = .ok (.aload_n 0, 1) := by decide +kernel
theorem dX10_nextRecord_1 : decode cX10_nextRecord 1 = .ok (.getfield 220, 3) := by decide +kernel
theorem dX10_nextRecord_4 : decode cX10_nextRecord 4 = .ok (.ifCond .eq 10, 3) := by decide +kernel
theorem dX10_nextRecord_7 : decode cX10_nextRecord 7 = .ok (.aload_n 0, 1) := by decide +kernel
theorem dX10_nextRecord_8 : decode cX10_nextRecord 8 = .ok (.getfield 134, 3) := by decide +kernel
theorem dX10_nextRecord_11 : decode cX10_nextRecord 11 = .ok (.ifCond .le 5, 3) := by decide +kernel
theorem dX10_nextRecord_14 : decode cX10_nextRecord 14 = .ok (.iconst (-1), 1) := by decide +kernel
theorem dX10_nextRecord_15 : decode cX10_nextRecord 15 = .ok (.ireturn, 1) := by decide +kernel
theorem dX10_nextRecord_16 : decode cX10_nextRecord 16 = .ok (.aload_n 0, 1) := by decide +kernel
theorem dX10_nextRecord_17 : decode cX10_nextRecord 17 = .ok (.getfield 223, 3) := by decide +kernel
theorem dX10_nextRecord_20 : decode cX10_nextRecord 20 = .ok (.aload_n 0, 1) := by decide +kernel
theorem dX10_nextRecord_21 : decode cX10_nextRecord 21 = .ok (.invokevirtual 179, 3) := by decide +kernel
theorem dX10_nextRecord_24 : decode cX10_nextRecord 24 = .ok (.if_icmp .ne 21, 3) := by decide +kernel
theorem dX10_nextRecord_27 : decode cX10_nextRecord 27 = .ok (.aload_n 0, 1) := by decide +kernel
theorem dX10_nextRecord_28 : decode cX10_nextRecord 28 = .ok (.aload_n 0, 1) := by decide +kernel
theorem dX10_nextRecord_29 : decode cX10_nextRecord 29 = .ok (.getfield 20, 3) := by decide +kernel
theorem dX10_nextRecord_32 : decode cX10_nextRecord 32 = .ok (.aload_n 0, 1) := by decide +kernel
theorem dX10_nextRecord_33 : decode cX10_nextRecord 33 = .ok (.getfield 226, 3) := by decide +kernel
theorem dX10_nextRecord_36 : decode cX10_nextRecord 36 = .ok (.iaload, 1) := by decide +kernel
theorem dX10_nextRecord_37 : decode cX10_nextRecord 37 = .ok (.putfield 226, 3) := by decide +kernel
theorem dX10_nextRecord_40 : decode cX10_nextRecord 40 = .ok (.aload_n 0, 1) := by decide +kernel
theorem dX10_nextRecord_41 : decode cX10_nextRecord 41 = .ok (.iconst 0, 1) := by decide +kernel
theorem dX10_nextRecord_42 : decode cX10_nextRecord 42 = .ok (.putfield 223, 3) := by decide +kernel
theorem dX10_nextRecord_45 : decode cX10_nextRecord 45 = .ok (.aload_n 0, 1) := by decide +kernel
theorem dX10_nextRecord_46 : decode cX10_nextRecord 46 = .ok (.getfield 223, 3) := by decide +kernel
theorem dX10_nextRecord_49 : decode cX10_nextRecord 49 = .ok (.ifCond .ne 11, 3) := by decide +kernel
theorem dX10_nextRecord_52 : decode cX10_nextRecord 52 = .ok (.aload_n 0, 1) := by decide +kernel
theorem dX10_nextRecord_53 : decode cX10_nextRecord 53 = .ok (.aload_n 0, 1) := by decide +kernel
theorem dX10_nextRecord_54 : decode cX10_nextRecord 54 = .ok (.getfield 226, 3) := by decide +kernel
theorem dX10_nextRecord_57 : decode cX10_nextRecord 57 = .ok (.invokevirtual 229, 3) := by decide +kernel
theorem dX10_nextRecord_60 : decode cX10_nextRecord 60 = .ok (.bipush 64, 2) := by decide +kernel
theorem dX10_nextRecord_62 : decode cX10_nextRecord 62 = .ok (.aload_n 0, 1) := by decide +kernel
theorem dX10_nextRecord_63 : decode cX10_nextRecord 63 = .ok (.getfield 226, 3) := by decide +kernel
theorem dX10_nextRecord_66 : decode cX10_nextRecord 66 = .ok (.imul, 1) := by decide +kernel
theorem dX10_nextRecord_67 : decode cX10_nextRecord 67 = .ok (.aload_n 0, 1) := by decide +kernel
theorem dX10_nextRecord_68 : decode cX10_nextRecord 68 = .ok (.getfield 223, 3) := by decide +kernel
theorem dX10_nextRecord_71 : decode cX10_nextRecord 71 = .ok (.aload_n 0, 1) := by decide +kernel
theorem dX10_nextRecord_72 : decode cX10_nextRecord 72 = .ok (.getfield 116, 3) := by decide +kernel
theorem dX10_nextRecord_75 : decode cX10_nextRecord 75 = .ok (.iconst 1, 1) := by decide +kernel
theorem dX10_nextRecord_76 : decode cX10_nextRecord 76 = .ok (.iadd, 1) := by decide +kernel
theorem dX10_nextRecord_77 : decode cX10_nextRecord 77 = .ok (.imul, 1) := by decide +kernel
theorem dX10_nextRecord_78 : decode cX10_nextRecord 78 = .ok (.iadd, 1) := by decide +kernel
theorem dX10_nextRecord_79 : decode cX10_nextRecord 79 = .ok (.istore_n 1, 1) := by decide +kernel
theorem dX10_nextRecord_80 : decode cX10_nextRecord 80 = .ok (.aload_n 0, 1) := by decide +kernel
theorem dX10_nextRecord_81 : decode cX10_nextRecord 81 = .ok (.dup, 1) := by decide +kernel
theorem dX10_nextRecord_82 : decode cX10_nextRecord 82 = .ok (.getfield 223, 3) := by decide +kernel
theorem dX10_nextRecord_85 : decode cX10_nextRecord 85 = .ok (.iconst 1, 1) := by decide +kernel
theorem dX10_nextRecord_86 : decode cX10_nextRecord 86 = .ok (.iadd, 1) := by decide +kernel
theorem dX10_nextRecord_87 : decode cX10_nextRecord 87 = .ok (.putfield 223, 3) := by decide +kernel
theorem dX10_nextRecord_90 : decode cX10_nextRecord 90 = .ok (.aload_n 0, 1) := by decide +kernel
theorem dX10_nextRecord_91 : decode cX10_nextRecord 91 = .ok (.dup, 1) := by decide +kernel
theorem dX10_nextRecord_92 : decode cX10_nextRecord 92 = .ok (.getfield 220, 3) := by decide +kernel
theorem dX10_nextRecord_95 : decode cX10_nextRecord 95 = .ok (.iconst 1, 1) := by decide +kernel
theorem dX10_nextRecord_96 : decode cX10_nextRecord 96 = .ok (.isub, 1) := by decide +kernel
theorem dX10_nextRecord_97 : decode cX10_nextRecord 97 = .ok (.putfield 220, 3) := by decide +kernel
theorem dX10_nextRecord_100 : decode cX10_nextRecord 100 = .ok (.iload_n 1, 1) := by decide +kernel
theorem dX10_nextRecord_101 : decode cX10_nextRecord 101 = .ok (.ireturn, 1) := by decide +kernel
set_option maxRecDepth 20000 in
theorem ggX10_nextRun_X10_beginRun : GoodIn wsX10_nextRun wsX10_beginRun := goodIn_r _ [8, 3, 9, 10, 11, 12, 13, 7, 14, 15, 16, 17, 18, 19, 20, 21, 22, 23, 24, 25, 26, 27, 28, 29, 30, 31, 32, 33, 34, 35, 36, 37, 38, 39, 40, 41, 42, 43, 44, 45, 46, 47, 48, 49, 50, 51, 52, 53, 54, 55, 56, 57, 58, 59, 60, 61, 62, 63, 64, 65, 66, 67, 68, 69, 70, 71, 72, 73, 74, 75] (by decide +kernel) (by decide +kernel)
set_option maxRecDepth 20000 in
theorem gX10_nextRun_X10_beginRun : GoodIn wsX10_nextRun (wsV RX10 232 RX10 yX10_beginRun wsX10_beginRun) := goodIn_app (goodIn_of _ (by decide +kernel)) ggX10_nextRun_X10_beginRun
theorem dX10_nextRun_0 : decode cX10_nextRun 0 = .ok (.aload_n 0, 1) := by decide +kernel
theorem dX10_nextRun_1 : decode cX10_nextRun 1 = .ok (.invokevirtual 232, 3) := by decide +kernel
theorem dX10_nextRun_4 : decode cX10_nextRun 4 = .ok (.aload_n 0, 1) := by decide +kernel
theorem dX10_nextRun_5 : decode cX10_nextRun 5 = .ok (.getfield 63, 3) := by decide +kernel
theorem dX10_nextRun_8 : decode cX10_nextRun 8 = .ok (.aload_n 0, 1) := by decide +kernel
theorem dX10_nextRun_9 : decode cX10_nextRun 9 = .ok (.getfield 235, 3) := by decide +kernel
theorem dX10_nextRun_12 : decode cX10_nextRun 12 = .ok (.aload_n 0, 1) := by decide +kernel
theorem dX10_nextRun_13 : decode cX10_nextRun 13 = .ok (.getfield 161, 3) := by decide +kernel
theorem dX10_nextRun_16 : decode cX10_nextRun 16 = .ok (.iastore, 1) := by decide +kernel
theorem dX10_nextRun_17 : decode cX10_nextRun 17 = .ok (.aload_n 0, 1) := by decide +kernel
theorem dX10_nextRun_18 : decode cX10_nextRun 18 = .ok (.dup, 1) := by decide +kernel
theorem dX10_nextRun_19 : decode cX10_nextRun 19 = .ok (.getfield 235, 3) := by decide +kernel
theorem dX10_nextRun_22 : decode cX10_nextRun 22 = .ok (.iconst 1, 1) := by decide +kernel
theorem dX10_nextRun_23 : decode cX10_nextRun 23 = .ok (.iadd, 1) := by decide +kernel
theorem dX10_nextRun_24 : decode cX10_nextRun 24 = .ok (.putfield 235, 3) := by decide +kernel
theorem dX10_nextRun_27 : decode cX10_nextRun 27 = .ok (.return_, 1) := by decide +kernel
set_option maxRecDepth 20000 in
theorem ggX10_firstHeld_X10_before : GoodIn wsX10_firstHeld wsX10_before := goodIn_r _ [9, 10, 11, 12, 13, 14, 8, 15, 16, 17, 18, 19, 20, 21, 22, 23, 24, 25, 26, 27, 28, 29, 30, 31, 32, 33, 34, 35, 36, 37, 38, 39, 40, 41, 42, 43, 44, 45, 46, 47, 48, 49, 50, 51, 52, 53, 54, 55, 56, 57, 58, 59, 60, 61, 62, 63, 64, 65, 66, 67, 68, 69, 70, 71, 72, 73, 74, 75] (by decide +kernel) (by decide +kernel)
set_option maxRecDepth 20000 in
theorem gX10_firstHeld_X10_before : GoodIn wsX10_firstHeld (wsV RX10 241 RX10 yX10_before wsX10_before) := goodIn_app (goodIn_of _ (by decide +kernel)) ggX10_firstHeld_X10_before
theorem dX10_firstHeld_0 : decode cX10_firstHeld 0 = .ok (.iconst (-1), 1) := by decide +kernel
theorem dX10_firstHeld_1 : decode cX10_firstHeld 1 = .ok (.istore_n 1, 1) := by decide +kernel
theorem dX10_firstHeld_2 : decode cX10_firstHeld 2 = .ok (.iconst 0, 1) := by decide +kernel
theorem dX10_firstHeld_3 : decode cX10_firstHeld 3 = .ok (.istore_n 2, 1) := by decide +kernel
theorem dX10_firstHeld_4 : decode cX10_firstHeld 4 = .ok (.iload_n 2, 1) := by decide +kernel
theorem dX10_firstHeld_5 : decode cX10_firstHeld 5 = .ok (.aload_n 0, 1) := by decide +kernel
theorem dX10_firstHeld_6 : decode cX10_firstHeld 6 = .ok (.getfield 238, 3) := by decide +kernel
theorem dX10_firstHeld_9 : decode cX10_firstHeld 9 = .ok (.if_icmp .ge 50, 3) := by decide +kernel
theorem dX10_firstHeld_12 : decode cX10_firstHeld 12 = .ok (.aload_n 0, 1) := by decide +kernel
theorem dX10_firstHeld_13 : decode cX10_firstHeld 13 = .ok (.getfield 134, 3) := by decide +kernel
theorem dX10_firstHeld_16 : decode cX10_firstHeld 16 = .ok (.ifCond .ne 43, 3) := by decide +kernel
theorem dX10_firstHeld_19 : decode cX10_firstHeld 19 = .ok (.aload_n 0, 1) := by decide +kernel
theorem dX10_firstHeld_20 : decode cX10_firstHeld 20 = .ok (.getfield 60, 3) := by decide +kernel
theorem dX10_firstHeld_23 : decode cX10_firstHeld 23 = .ok (.iload_n 2, 1) := by decide +kernel
theorem dX10_firstHeld_24 : decode cX10_firstHeld 24 = .ok (.baload, 1) := by decide +kernel
theorem dX10_firstHeld_25 : decode cX10_firstHeld 25 = .ok (.ifCond .ne 28, 3) := by decide +kernel
theorem dX10_firstHeld_28 : decode cX10_firstHeld 28 = .ok (.iload_n 1, 1) := by decide +kernel
theorem dX10_firstHeld_29 : decode cX10_firstHeld 29 = .ok (.ifCond .lt 22, 3) := by decide +kernel
theorem dX10_firstHeld_32 : decode cX10_firstHeld 32 = .ok (.aload_n 0, 1) := by decide +kernel
theorem dX10_firstHeld_33 : decode cX10_firstHeld 33 = .ok (.aload_n 0, 1) := by decide +kernel
theorem dX10_firstHeld_34 : decode cX10_firstHeld 34 = .ok (.getfield 57, 3) := by decide +kernel
theorem dX10_firstHeld_37 : decode cX10_firstHeld 37 = .ok (.iload_n 2, 1) := by decide +kernel
theorem dX10_firstHeld_38 : decode cX10_firstHeld 38 = .ok (.iaload, 1) := by decide +kernel
theorem dX10_firstHeld_39 : decode cX10_firstHeld 39 = .ok (.aload_n 0, 1) := by decide +kernel
theorem dX10_firstHeld_40 : decode cX10_firstHeld 40 = .ok (.getfield 57, 3) := by decide +kernel
theorem dX10_firstHeld_43 : decode cX10_firstHeld 43 = .ok (.iload_n 1, 1) := by decide +kernel
theorem dX10_firstHeld_44 : decode cX10_firstHeld 44 = .ok (.iaload, 1) := by decide +kernel
theorem dX10_firstHeld_45 : decode cX10_firstHeld 45 = .ok (.invokevirtual 241, 3) := by decide +kernel
theorem dX10_firstHeld_48 : decode cX10_firstHeld 48 = .ok (.ifCond .eq 5, 3) := by decide +kernel
theorem dX10_firstHeld_51 : decode cX10_firstHeld 51 = .ok (.iload_n 2, 1) := by decide +kernel
theorem dX10_firstHeld_52 : decode cX10_firstHeld 52 = .ok (.istore_n 1, 1) := by decide +kernel
theorem dX10_firstHeld_53 : decode cX10_firstHeld 53 = .ok (.iinc 2 1, 3) := by decide +kernel
theorem dX10_firstHeld_56 : decode cX10_firstHeld 56 = .ok (.goto (-52), 3) := by decide +kernel
theorem dX10_firstHeld_59 : decode cX10_firstHeld 59 = .ok (.iload_n 1, 1) := by decide +kernel
theorem dX10_firstHeld_60 : decode cX10_firstHeld 60 = .ok (.ireturn, 1) := by decide +kernel
set_option maxRecDepth 20000 in
theorem ggX10_fill_X10_nextRecord : GoodIn wsX10_fill wsX10_nextRecord := goodIn_r _ [10, 3, 11, 12, 13, 14, 15, 16, 17, 18, 9, 19, 20, 21, 22, 23, 24, 25, 26, 27, 28, 29, 30, 31, 32, 33, 34, 35, 36, 37, 38, 39, 40, 41, 42, 43, 44, 45, 46, 47, 48, 49, 50, 51, 52, 53, 54, 55, 56, 57, 58, 59, 60, 61, 62, 63, 64, 65, 66, 67, 68, 69, 70, 71, 72, 73, 74, 75, 76, 77, 78, 79, 80, 81, 82, 83, 84, 85, 86, 87, 88, 89] (by decide +kernel) (by decide +kernel)
set_option maxRecDepth 20000 in
theorem gX10_fill_X10_nextRecord : GoodIn wsX10_fill (wsV RX10 245 RX10 yX10_nextRecord wsX10_nextRecord) := goodIn_app (goodIn_of _ (by decide +kernel)) ggX10_fill_X10_nextRecord
theorem dX10_fill_0 : decode cX10_fill 0 = .ok (.aload_n 0, 1) := by decide +kernel
theorem dX10_fill_1 : decode cX10_fill 1 = .ok (.iconst 0, 1) := by decide +kernel
theorem dX10_fill_2 : decode cX10_fill 2 = .ok (.putfield 238, 3) := by decide +kernel
theorem dX10_fill_5 : decode cX10_fill 5 = .ok (.aload_n 0, 1) := by decide +kernel
theorem dX10_fill_6 : decode cX10_fill 6 = .ok (.getfield 238, 3) := by decide +kernel
theorem dX10_fill_9 : decode cX10_fill 9 = .ok (.aload_n 0, 1) := by decide +kernel
theorem dX10_fill_10 : decode cX10_fill 10 = .ok (.getfield 113, 3) := by decide +kernel
theorem dX10_fill_13 : decode cX10_fill 13 = .ok (.if_icmp .ge 46, 3) := by decide +kernel
theorem dX10_fill_16 : decode cX10_fill 16 = .ok (.aload_n 0, 1) := by decide +kernel
theorem dX10_fill_17 : decode cX10_fill 17 = .ok (.getfield 220, 3) := by decide +kernel
theorem dX10_fill_20 : decode cX10_fill 20 = .ok (.ifCond .le 39, 3) := by decide +kernel
theorem dX10_fill_23 : decode cX10_fill 23 = .ok (.aload_n 0, 1) := by decide +kernel
theorem dX10_fill_24 : decode cX10_fill 24 = .ok (.getfield 57, 3) := by decide +kernel
theorem dX10_fill_27 : decode cX10_fill 27 = .ok (.aload_n 0, 1) := by decide +kernel
theorem dX10_fill_28 : decode cX10_fill 28 = .ok (.getfield 238, 3) := by decide +kernel
theorem dX10_fill_31 : decode cX10_fill 31 = .ok (.aload_n 0, 1) := by decide +kernel
theorem dX10_fill_32 : decode cX10_fill 32 = .ok (.invokevirtual 245, 3) := by decide +kernel
theorem dX10_fill_35 : decode cX10_fill 35 = .ok (.iastore, 1) := by decide +kernel
theorem dX10_fill_36 : decode cX10_fill 36 = .ok (.aload_n 0, 1) := by decide +kernel
theorem dX10_fill_37 : decode cX10_fill 37 = .ok (.getfield 60, 3) := by decide +kernel
theorem dX10_fill_40 : decode cX10_fill 40 = .ok (.aload_n 0, 1) := by decide +kernel
theorem dX10_fill_41 : decode cX10_fill 41 = .ok (.getfield 238, 3) := by decide +kernel
theorem dX10_fill_44 : decode cX10_fill 44 = .ok (.iconst 0, 1) := by decide +kernel
theorem dX10_fill_45 : decode cX10_fill 45 = .ok (.bastore, 1) := by decide +kernel
theorem dX10_fill_46 : decode cX10_fill 46 = .ok (.aload_n 0, 1) := by decide +kernel
theorem dX10_fill_47 : decode cX10_fill 47 = .ok (.dup, 1) := by decide +kernel
theorem dX10_fill_48 : decode cX10_fill 48 = .ok (.getfield 238, 3) := by decide +kernel
theorem dX10_fill_51 : decode cX10_fill 51 = .ok (.iconst 1, 1) := by decide +kernel
theorem dX10_fill_52 : decode cX10_fill 52 = .ok (.iadd, 1) := by decide +kernel
theorem dX10_fill_53 : decode cX10_fill 53 = .ok (.putfield 238, 3) := by decide +kernel
theorem dX10_fill_56 : decode cX10_fill 56 = .ok (.goto (-51), 3) := by decide +kernel
theorem dX10_fill_59 : decode cX10_fill 59 = .ok (.return_, 1) := by decide +kernel
set_option maxRecDepth 20000 in
theorem ggX10_loading_X10_fill : GoodIn wsX10_loading wsX10_fill := goodIn_r _ [9, 10, 11, 1, 3, 4, 12, 13, 14, 8, 15, 2, 16, 17, 18, 19, 20, 21, 22, 23, 24, 25, 26, 27, 28, 29, 30, 31, 32, 33, 34, 35, 36, 110, 111, 112, 113, 114, 115, 116, 117, 118, 119, 120, 121, 122, 123, 124, 125, 126, 127, 128, 129, 130, 131, 132, 133, 134, 135, 136, 137, 138, 139, 140, 141, 142, 143, 144, 145, 146, 147, 148, 149, 150, 151, 152, 153, 154, 155, 156, 157, 158, 159, 160, 161, 162, 163, 164, 165, 166] (by decide +kernel) (by decide +kernel)
set_option maxRecDepth 20000 in
theorem gX10_loading_X10_fill : GoodIn wsX10_loading (wsV RX10 248 RX10 yX10_fill wsX10_fill) := goodIn_app (goodIn_of _ (by decide +kernel)) ggX10_loading_X10_fill
set_option maxRecDepth 20000 in
theorem ggX10_loading_X10_nextRun : GoodIn wsX10_loading wsX10_nextRun := goodIn_r _ [40, 41, 42, 43, 44, 45, 46, 8, 47, 48, 49, 50, 51, 52, 53, 54, 55, 56, 57, 110, 111, 112, 113, 114, 115, 116, 117, 118, 119, 120, 121, 122, 123, 124, 125, 126, 127, 128, 129, 130, 131, 132, 133, 134, 135, 136, 137, 138, 139, 140, 141, 142, 143, 144, 145, 146, 147, 148, 149, 150, 151, 152, 153, 154, 155, 156, 157, 158, 159, 160, 161, 162, 163, 164, 165, 166] (by decide +kernel) (by decide +kernel)
set_option maxRecDepth 20000 in
theorem gX10_loading_X10_nextRun : GoodIn wsX10_loading (wsV RX10 251 RX10 yX10_nextRun wsX10_nextRun) := goodIn_app (goodIn_of _ (by decide +kernel)) ggX10_loading_X10_nextRun
set_option maxRecDepth 20000 in
theorem ggX10_loading_X10_firstHeld : GoodIn wsX10_loading wsX10_firstHeld := goodIn_r _ [61, 10, 2, 4, 3, 62, 63, 64, 8, 65, 66, 19, 67, 68, 69, 70, 71, 72, 73, 110, 111, 112, 113, 114, 115, 116, 117, 118, 119, 120, 121, 122, 123, 124, 125, 126, 127, 128, 129, 130, 131, 132, 133, 134, 135, 136, 137, 138, 139, 140, 141, 142, 143, 144, 145, 146, 147, 148, 149, 150, 151, 152, 153, 154, 155, 156, 157, 158, 159, 160, 161, 162, 163, 164, 165, 166] (by decide +kernel) (by decide +kernel)
set_option maxRecDepth 20000 in
theorem gX10_loading_X10_firstHeld : GoodIn wsX10_loading (wsV RX10 254 RX10 yX10_firstHeld wsX10_firstHeld) := goodIn_app (goodIn_of _ (by decide +kernel)) ggX10_loading_X10_firstHeld
set_option maxRecDepth 20000 in
theorem ggX10_loading_X10_out : GoodIn wsX10_loading wsX10_out := goodIn_r _ [77, 78, 66, 49, 79, 19, 80, 81, 82, 8, 83, 84, 48, 20, 21, 22, 23, 24, 85, 86, 87, 88, 43, 89, 90, 91, 92, 93, 94, 2, 95, 96, 17, 97, 30, 31, 32, 33, 34, 35, 36, 98, 99, 100, 101, 55, 56, 57, 67, 68, 69, 70, 71, 72, 73, 102, 103, 104, 105, 110, 111, 112, 113, 114, 115, 116, 117, 118, 119, 120, 121, 122, 123, 124, 125, 126, 127, 128, 129, 130, 131, 132, 133, 134, 135, 136, 137, 138, 139, 140, 141, 142, 143, 144, 145, 146, 147, 148, 149, 150, 151, 152, 153, 154, 155, 156, 157, 158, 159, 160, 161, 162, 163, 164, 165, 166] (by decide +kernel) (by decide +kernel)
set_option maxRecDepth 20000 in
theorem gX10_loading_X10_out : GoodIn wsX10_loading (wsV RX10 257 RX10 yX10_out wsX10_out) := goodIn_app (goodIn_of _ (by decide +kernel)) ggX10_loading_X10_out
set_option maxRecDepth 20000 in
theorem ggX10_loading_X10_endRun : GoodIn wsX10_loading wsX10_endRun := goodIn_r _ [109, 49, 79, 48, 80, 81, 82, 8, 83, 19, 84, 20, 21, 22, 23, 24, 85, 86, 87, 88, 43, 89, 90, 91, 92, 93, 94, 2, 95, 96, 17, 97, 66, 30, 31, 32, 33, 34, 35, 36, 98, 99, 100, 101, 55, 56, 57, 110, 111, 112, 113, 114, 115, 116, 117, 118, 119, 120, 121, 122, 123, 124, 125, 126, 127, 128, 129, 130, 131, 132, 133, 134, 135, 136, 137, 138, 139, 140, 141, 142, 143, 144, 145, 146, 147, 148, 149, 150, 151, 152, 153, 154, 155, 156, 157, 158, 159, 160, 161, 162, 163, 164, 165, 166] (by decide +kernel) (by decide +kernel)
set_option maxRecDepth 20000 in
theorem gX10_loading_X10_endRun : GoodIn wsX10_loading (wsV RX10 260 RX10 yX10_endRun wsX10_endRun) := goodIn_app (goodIn_of _ (by decide +kernel)) ggX10_loading_X10_endRun
theorem dX10_loading_0 : decode cX10_loading 0 = .ok (.aload_n 0, 1) := by decide +kernel
theorem dX10_loading_1 : decode cX10_loading 1 = .ok (.getfield 220, 3) := by decide +kernel
theorem dX10_loading_4 : decode cX10_loading 4 = .ok (.ifCond .le 59, 3) := by decide +kernel
theorem dX10_loading_7 : decode cX10_loading 7 = .ok (.aload_n 0, 1) := by decide +kernel
theorem dX10_loading_8 : decode cX10_loading 8 = .ok (.getfield 134, 3) := by decide +kernel
theorem dX10_loading_11 : decode cX10_loading 11 = .ok (.ifCond .ne 52, 3) := by decide +kernel
theorem dX10_loading_14 : decode cX10_loading 14 = .ok (.aload_n 0, 1) := by decide +kernel
theorem dX10_loading_15 : decode cX10_loading 15 = .ok (.invokevirtual 248, 3) := by decide +kernel
theorem dX10_loading_18 : decode cX10_loading 18 = .ok (.aload_n 0, 1) := by decide +kernel
theorem dX10_loading_19 : decode cX10_loading 19 = .ok (.invokevirtual 251, 3) := by decide +kernel
theorem dX10_loading_22 : decode cX10_loading 22 = .ok (.aload_n 0, 1) := by decide +kernel
theorem dX10_loading_23 : decode cX10_loading 23 = .ok (.invokevirtual 254, 3) := by decide +kernel
theorem dX10_loading_26 : decode cX10_loading 26 = .ok (.istore_n 1, 1) := by decide +kernel
theorem dX10_loading_27 : decode cX10_loading 27 = .ok (.iload_n 1, 1) := by decide +kernel
theorem dX10_loading_28 : decode cX10_loading 28 = .ok (.ifCond .lt 28, 3) := by decide +kernel
theorem dX10_loading_31 : decode cX10_loading 31 = .ok (.aload_n 0, 1) := by decide +kernel
theorem dX10_loading_32 : decode cX10_loading 32 = .ok (.aload_n 0, 1) := by decide +kernel
theorem dX10_loading_33 : decode cX10_loading 33 = .ok (.getfield 57, 3) := by decide +kernel
theorem dX10_loading_36 : decode cX10_loading 36 = .ok (.iload_n 1, 1) := by decide +kernel
theorem dX10_loading_37 : decode cX10_loading 37 = .ok (.iaload, 1) := by decide +kernel
theorem dX10_loading_38 : decode cX10_loading 38 = .ok (.invokevirtual 257, 3) := by decide +kernel
theorem dX10_loading_41 : decode cX10_loading 41 = .ok (.aload_n 0, 1) := by decide +kernel
theorem dX10_loading_42 : decode cX10_loading 42 = .ok (.getfield 60, 3) := by decide +kernel
theorem dX10_loading_45 : decode cX10_loading 45 = .ok (.iload_n 1, 1) := by decide +kernel
theorem dX10_loading_46 : decode cX10_loading 46 = .ok (.iconst 1, 1) := by decide +kernel
theorem dX10_loading_47 : decode cX10_loading 47 = .ok (.bastore, 1) := by decide +kernel
theorem dX10_loading_48 : decode cX10_loading 48 = .ok (.aload_n 0, 1) := by decide +kernel
theorem dX10_loading_49 : decode cX10_loading 49 = .ok (.invokevirtual 254, 3) := by decide +kernel
theorem dX10_loading_52 : decode cX10_loading 52 = .ok (.istore_n 1, 1) := by decide +kernel
theorem dX10_loading_53 : decode cX10_loading 53 = .ok (.goto (-26), 3) := by decide +kernel
theorem dX10_loading_56 : decode cX10_loading 56 = .ok (.aload_n 0, 1) := by decide +kernel
theorem dX10_loading_57 : decode cX10_loading 57 = .ok (.invokevirtual 260, 3) := by decide +kernel
theorem dX10_loading_60 : decode cX10_loading 60 = .ok (.goto (-60), 3) := by decide +kernel
theorem dX10_loading_63 : decode cX10_loading 63 = .ok (.return_, 1) := by decide +kernel
set_option maxRecDepth 20000 in
theorem ggX10_choosing_X10_fill : GoodIn wsX10_choosing wsX10_fill := goodIn_r _ [9, 1, 10, 11, 3, 4, 12, 13, 14, 8, 15, 2, 16, 17, 18, 19, 20, 21, 22, 23, 24, 25, 26, 27, 28, 29, 30, 31, 32, 33, 34, 35, 36, 110, 111, 112, 113, 114, 115, 116, 117, 118, 119, 120, 121, 122, 123, 124, 125, 126, 127, 128, 129, 130, 131, 132, 133, 134, 135, 136, 137, 138, 139, 140, 141, 142, 143, 144, 145, 146, 147, 148, 149, 150, 151, 152, 153, 154, 155, 156, 157, 158, 159, 160, 161, 162, 163, 164, 165, 166] (by decide +kernel) (by decide +kernel)
set_option maxRecDepth 20000 in
theorem gX10_choosing_X10_fill : GoodIn wsX10_choosing (wsV RX10 248 RX10 yX10_fill wsX10_fill) := goodIn_app (goodIn_of _ (by decide +kernel)) ggX10_choosing_X10_fill
set_option maxRecDepth 20000 in
theorem ggX10_choosing_X10_nextRun : GoodIn wsX10_choosing wsX10_nextRun := goodIn_r _ [40, 41, 42, 43, 44, 45, 46, 8, 47, 48, 49, 50, 51, 52, 53, 54, 55, 56, 57, 110, 111, 112, 113, 114, 115, 116, 117, 118, 119, 120, 121, 122, 123, 124, 125, 126, 127, 128, 129, 130, 131, 132, 133, 134, 135, 136, 137, 138, 139, 140, 141, 142, 143, 144, 145, 146, 147, 148, 149, 150, 151, 152, 153, 154, 155, 156, 157, 158, 159, 160, 161, 162, 163, 164, 165, 166] (by decide +kernel) (by decide +kernel)
set_option maxRecDepth 20000 in
theorem gX10_choosing_X10_nextRun : GoodIn wsX10_choosing (wsV RX10 251 RX10 yX10_nextRun wsX10_nextRun) := goodIn_app (goodIn_of _ (by decide +kernel)) ggX10_choosing_X10_nextRun
set_option maxRecDepth 20000 in
theorem ggX10_choosing_X10_firstHeld : GoodIn wsX10_choosing wsX10_firstHeld := goodIn_r _ [61, 1, 2, 4, 3, 62, 63, 64, 8, 65, 66, 19, 67, 68, 69, 70, 71, 72, 73, 110, 111, 112, 113, 114, 115, 116, 117, 118, 119, 120, 121, 122, 123, 124, 125, 126, 127, 128, 129, 130, 131, 132, 133, 134, 135, 136, 137, 138, 139, 140, 141, 142, 143, 144, 145, 146, 147, 148, 149, 150, 151, 152, 153, 154, 155, 156, 157, 158, 159, 160, 161, 162, 163, 164, 165, 166] (by decide +kernel) (by decide +kernel)
set_option maxRecDepth 20000 in
theorem gX10_choosing_X10_firstHeld : GoodIn wsX10_choosing (wsV RX10 254 RX10 yX10_firstHeld wsX10_firstHeld) := goodIn_app (goodIn_of _ (by decide +kernel)) ggX10_choosing_X10_firstHeld
set_option maxRecDepth 20000 in
theorem ggX10_choosing_X10_out : GoodIn wsX10_choosing wsX10_out := goodIn_r _ [77, 78, 66, 49, 79, 19, 80, 81, 82, 8, 83, 84, 48, 20, 21, 22, 23, 24, 85, 86, 87, 88, 43, 89, 90, 91, 92, 93, 94, 2, 95, 96, 17, 97, 30, 31, 32, 33, 34, 35, 36, 98, 99, 100, 101, 55, 56, 57, 67, 68, 69, 70, 71, 72, 73, 102, 103, 104, 105, 110, 111, 112, 113, 114, 115, 116, 117, 118, 119, 120, 121, 122, 123, 124, 125, 126, 127, 128, 129, 130, 131, 132, 133, 134, 135, 136, 137, 138, 139, 140, 141, 142, 143, 144, 145, 146, 147, 148, 149, 150, 151, 152, 153, 154, 155, 156, 157, 158, 159, 160, 161, 162, 163, 164, 165, 166] (by decide +kernel) (by decide +kernel)
set_option maxRecDepth 20000 in
theorem gX10_choosing_X10_out : GoodIn wsX10_choosing (wsV RX10 257 RX10 yX10_out wsX10_out) := goodIn_app (goodIn_of _ (by decide +kernel)) ggX10_choosing_X10_out
set_option maxRecDepth 20000 in
theorem ggX10_choosing_X10_nextRecord : GoodIn wsX10_choosing wsX10_nextRecord := goodIn_r _ [15, 11, 2, 16, 17, 18, 19, 20, 21, 22, 8, 23, 24, 25, 26, 27, 28, 29, 30, 31, 32, 33, 34, 35, 36, 110, 111, 112, 113, 114, 115, 116, 117, 118, 119, 120, 121, 122, 123, 124, 125, 126, 127, 128, 129, 130, 131, 132, 133, 134, 135, 136, 137, 138, 139, 140, 141, 142, 143, 144, 145, 146, 147, 148, 149, 150, 151, 152, 153, 154, 155, 156, 157, 158, 159, 160, 161, 162, 163, 164, 165, 166] (by decide +kernel) (by decide +kernel)
set_option maxRecDepth 20000 in
theorem gX10_choosing_X10_nextRecord : GoodIn wsX10_choosing (wsV RX10 245 RX10 yX10_nextRecord wsX10_nextRecord) := goodIn_app (goodIn_of _ (by decide +kernel)) ggX10_choosing_X10_nextRecord
set_option maxRecDepth 20000 in
theorem ggX10_choosing_X10_before : GoodIn wsX10_choosing wsX10_before := goodIn_r _ [65, 66, 19, 67, 68, 69, 8, 70, 71, 72, 73, 110, 111, 112, 113, 114, 115, 116, 117, 118, 119, 120, 121, 122, 123, 124, 125, 126, 127, 128, 129, 130, 131, 132, 133, 134, 135, 136, 137, 138, 139, 140, 141, 142, 143, 144, 145, 146, 147, 148, 149, 150, 151, 152, 153, 154, 155, 156, 157, 158, 159, 160, 161, 162, 163, 164, 165, 166] (by decide +kernel) (by decide +kernel)
set_option maxRecDepth 20000 in
theorem gX10_choosing_X10_before : GoodIn wsX10_choosing (wsV RX10 241 RX10 yX10_before wsX10_before) := goodIn_app (goodIn_of _ (by decide +kernel)) ggX10_choosing_X10_before
set_option maxRecDepth 20000 in
theorem ggX10_choosing_X10_endRun : GoodIn wsX10_choosing wsX10_endRun := goodIn_r _ [109, 49, 79, 48, 80, 81, 82, 8, 83, 19, 84, 20, 21, 22, 23, 24, 85, 86, 87, 88, 43, 89, 90, 91, 92, 93, 94, 2, 95, 96, 17, 97, 66, 30, 31, 32, 33, 34, 35, 36, 98, 99, 100, 101, 55, 56, 57, 110, 111, 112, 113, 114, 115, 116, 117, 118, 119, 120, 121, 122, 123, 124, 125, 126, 127, 128, 129, 130, 131, 132, 133, 134, 135, 136, 137, 138, 139, 140, 141, 142, 143, 144, 145, 146, 147, 148, 149, 150, 151, 152, 153, 154, 155, 156, 157, 158, 159, 160, 161, 162, 163, 164, 165, 166] (by decide +kernel) (by decide +kernel)
set_option maxRecDepth 20000 in
theorem gX10_choosing_X10_endRun : GoodIn wsX10_choosing (wsV RX10 260 RX10 yX10_endRun wsX10_endRun) := goodIn_app (goodIn_of _ (by decide +kernel)) ggX10_choosing_X10_endRun
theorem dX10_choosing_0 : decode cX10_choosing 0 = .ok (.aload_n 0, 1) := by decide +kernel
theorem dX10_choosing_1 : decode cX10_choosing 1 = .ok (.invokevirtual 248, 3) := by decide +kernel
theorem dX10_choosing_4 : decode cX10_choosing 4 = .ok (.aload_n 0, 1) := by decide +kernel
theorem dX10_choosing_5 : decode cX10_choosing 5 = .ok (.getfield 238, 3) := by decide +kernel
theorem dX10_choosing_8 : decode cX10_choosing 8 = .ok (.ifCond .le 145, 3) := by decide +kernel
theorem dX10_choosing_11 : decode cX10_choosing 11 = .ok (.aload_n 0, 1) := by decide +kernel
theorem dX10_choosing_12 : decode cX10_choosing 12 = .ok (.getfield 134, 3) := by decide +kernel
theorem dX10_choosing_15 : decode cX10_choosing 15 = .ok (.ifCond .ne 138, 3) := by decide +kernel
theorem dX10_choosing_18 : decode cX10_choosing 18 = .ok (.aload_n 0, 1) := by decide +kernel
theorem dX10_choosing_19 : decode cX10_choosing 19 = .ok (.invokevirtual 251, 3) := by decide +kernel
theorem dX10_choosing_22 : decode cX10_choosing 22 = .ok (.aload_n 0, 1) := by decide +kernel
theorem dX10_choosing_23 : decode cX10_choosing 23 = .ok (.invokevirtual 254, 3) := by decide +kernel
theorem dX10_choosing_26 : decode cX10_choosing 26 = .ok (.istore_n 1, 1) := by decide +kernel
theorem dX10_choosing_27 : decode cX10_choosing 27 = .ok (.iload_n 1, 1) := by decide +kernel
theorem dX10_choosing_28 : decode cX10_choosing 28 = .ok (.ifCond .lt 95, 3) := by decide +kernel
theorem dX10_choosing_31 : decode cX10_choosing 31 = .ok (.aload_n 0, 1) := by decide +kernel
theorem dX10_choosing_32 : decode cX10_choosing 32 = .ok (.getfield 57, 3) := by decide +kernel
theorem dX10_choosing_35 : decode cX10_choosing 35 = .ok (.iload_n 1, 1) := by decide +kernel
theorem dX10_choosing_36 : decode cX10_choosing 36 = .ok (.iaload, 1) := by decide +kernel
theorem dX10_choosing_37 : decode cX10_choosing 37 = .ok (.istore_n 2, 1) := by decide +kernel
theorem dX10_choosing_38 : decode cX10_choosing 38 = .ok (.aload_n 0, 1) := by decide +kernel
theorem dX10_choosing_39 : decode cX10_choosing 39 = .ok (.iload_n 2, 1) := by decide +kernel
theorem dX10_choosing_40 : decode cX10_choosing 40 = .ok (.invokevirtual 257, 3) := by decide +kernel
theorem dX10_choosing_43 : decode cX10_choosing 43 = .ok (.aload_n 0, 1) := by decide +kernel
theorem dX10_choosing_44 : decode cX10_choosing 44 = .ok (.invokevirtual 245, 3) := by decide +kernel
theorem dX10_choosing_47 : decode cX10_choosing 47 = .ok (.istore_n 3, 1) := by decide +kernel
theorem dX10_choosing_48 : decode cX10_choosing 48 = .ok (.iload_n 3, 1) := by decide +kernel
theorem dX10_choosing_49 : decode cX10_choosing 49 = .ok (.iconst (-1), 1) := by decide +kernel
theorem dX10_choosing_50 : decode cX10_choosing 50 = .ok (.if_icmp .ne 46, 3) := by decide +kernel
theorem dX10_choosing_53 : decode cX10_choosing 53 = .ok (.aload_n 0, 1) := by decide +kernel
theorem dX10_choosing_54 : decode cX10_choosing 54 = .ok (.dup, 1) := by decide +kernel
theorem dX10_choosing_55 : decode cX10_choosing 55 = .ok (.getfield 238, 3) := by decide +kernel
theorem dX10_choosing_58 : decode cX10_choosing 58 = .ok (.iconst 1, 1) := by decide +kernel
theorem dX10_choosing_59 : decode cX10_choosing 59 = .ok (.isub, 1) := by decide +kernel
theorem dX10_choosing_60 : decode cX10_choosing 60 = .ok (.putfield 238, 3) := by decide +kernel
theorem dX10_choosing_63 : decode cX10_choosing 63 = .ok (.aload_n 0, 1) := by decide +kernel
theorem dX10_choosing_64 : decode cX10_choosing 64 = .ok (.getfield 57, 3) := by decide +kernel
theorem dX10_choosing_67 : decode cX10_choosing 67 = .ok (.iload_n 1, 1) := by decide +kernel
theorem dX10_choosing_68 : decode cX10_choosing 68 = .ok (.aload_n 0, 1) := by decide +kernel
theorem dX10_choosing_69 : decode cX10_choosing 69 = .ok (.getfield 57, 3) := by decide +kernel
theorem dX10_choosing_72 : decode cX10_choosing 72 = .ok (.aload_n 0, 1) := by decide +kernel
theorem dX10_choosing_73 : decode cX10_choosing 73 = .ok (.getfield 238, 3) := by decide +kernel
theorem dX10_choosing_76 : decode cX10_choosing 76 = .ok (.iaload, 1) := by decide +kernel
theorem dX10_choosing_77 : decode cX10_choosing 77 = .ok (.iastore, 1) := by decide +kernel
theorem dX10_choosing_78 : decode cX10_choosing 78 = .ok (.aload_n 0, 1) := by decide +kernel
theorem dX10_choosing_79 : decode cX10_choosing 79 = .ok (.getfield 60, 3) := by decide +kernel
theorem dX10_choosing_82 : decode cX10_choosing 82 = .ok (.iload_n 1, 1) := by decide +kernel
theorem dX10_choosing_83 : decode cX10_choosing 83 = .ok (.aload_n 0, 1) := by decide +kernel
theorem dX10_choosing_84 : decode cX10_choosing 84 = .ok (.getfield 60, 3) := by decide +kernel
theorem dX10_choosing_87 : decode cX10_choosing 87 = .ok (.aload_n 0, 1) := by decide +kernel
theorem dX10_choosing_88 : decode cX10_choosing 88 = .ok (.getfield 238, 3) := by decide +kernel
theorem dX10_choosing_91 : decode cX10_choosing 91 = .ok (.baload, 1) := by decide +kernel
theorem dX10_choosing_92 : decode cX10_choosing 92 = .ok (.bastore, 1) := by decide +kernel
theorem dX10_choosing_93 : decode cX10_choosing 93 = .ok (.goto 22, 3) := by decide +kernel
theorem dX10_choosing_96 : decode cX10_choosing 96 = .ok (.aload_n 0, 1) := by decide +kernel
theorem dX10_choosing_97 : decode cX10_choosing 97 = .ok (.getfield 57, 3) := by decide +kernel
theorem dX10_choosing_100 : decode cX10_choosing 100 = .ok (.iload_n 1, 1) := by decide +kernel
theorem dX10_choosing_101 : decode cX10_choosing 101 = .ok (.iload_n 3, 1) := by decide +kernel
theorem dX10_choosing_102 : decode cX10_choosing 102 = .ok (.iastore, 1) := by decide +kernel
theorem dX10_choosing_103 : decode cX10_choosing 103 = .ok (.aload_n 0, 1) := by decide +kernel
theorem dX10_choosing_104 : decode cX10_choosing 104 = .ok (.getfield 60, 3) := by decide +kernel
theorem dX10_choosing_107 : decode cX10_choosing 107 = .ok (.iload_n 1, 1) := by decide +kernel
theorem dX10_choosing_108 : decode cX10_choosing 108 = .ok (.aload_n 0, 1) := by decide +kernel
theorem dX10_choosing_109 : decode cX10_choosing 109 = .ok (.iload_n 3, 1) := by decide +kernel
theorem dX10_choosing_110 : decode cX10_choosing 110 = .ok (.iload_n 2, 1) := by decide +kernel
theorem dX10_choosing_111 : decode cX10_choosing 111 = .ok (.invokevirtual 241, 3) := by decide +kernel
theorem dX10_choosing_114 : decode cX10_choosing 114 = .ok (.bastore, 1) := by decide +kernel
theorem dX10_choosing_115 : decode cX10_choosing 115 = .ok (.aload_n 0, 1) := by decide +kernel
theorem dX10_choosing_116 : decode cX10_choosing 116 = .ok (.invokevirtual 254, 3) := by decide +kernel
theorem dX10_choosing_119 : decode cX10_choosing 119 = .ok (.istore_n 1, 1) := by decide +kernel
theorem dX10_choosing_120 : decode cX10_choosing 120 = .ok (.goto (-93), 3) := by decide +kernel
theorem dX10_choosing_123 : decode cX10_choosing 123 = .ok (.aload_n 0, 1) := by decide +kernel
theorem dX10_choosing_124 : decode cX10_choosing 124 = .ok (.invokevirtual 260, 3) := by decide +kernel
theorem dX10_choosing_127 : decode cX10_choosing 127 = .ok (.iconst 0, 1) := by decide +kernel
theorem dX10_choosing_128 : decode cX10_choosing 128 = .ok (.istore_n 2, 1) := by decide +kernel
theorem dX10_choosing_129 : decode cX10_choosing 129 = .ok (.iload_n 2, 1) := by decide +kernel
theorem dX10_choosing_130 : decode cX10_choosing 130 = .ok (.aload_n 0, 1) := by decide +kernel
theorem dX10_choosing_131 : decode cX10_choosing 131 = .ok (.getfield 238, 3) := by decide +kernel
theorem dX10_choosing_134 : decode cX10_choosing 134 = .ok (.if_icmp .ge 16, 3) := by decide +kernel
theorem dX10_choosing_137 : decode cX10_choosing 137 = .ok (.aload_n 0, 1) := by decide +kernel
theorem dX10_choosing_138 : decode cX10_choosing 138 = .ok (.getfield 60, 3) := by decide +kernel
theorem dX10_choosing_141 : decode cX10_choosing 141 = .ok (.iload_n 2, 1) := by decide +kernel
theorem dX10_choosing_142 : decode cX10_choosing 142 = .ok (.iconst 0, 1) := by decide +kernel
theorem dX10_choosing_143 : decode cX10_choosing 143 = .ok (.bastore, 1) := by decide +kernel
theorem dX10_choosing_144 : decode cX10_choosing 144 = .ok (.iinc 2 1, 3) := by decide +kernel
theorem dX10_choosing_147 : decode cX10_choosing 147 = .ok (.goto (-18), 3) := by decide +kernel
theorem dX10_choosing_150 : decode cX10_choosing 150 = .ok (.goto (-146), 3) := by decide +kernel
theorem dX10_choosing_153 : decode cX10_choosing 153 = .ok (.return_, 1) := by decide +kernel
set_option maxRecDepth 20000 in
theorem ggX10_asTheyAre_X10_nextRecord : GoodIn wsX10_asTheyAre wsX10_nextRecord := goodIn_r _ [6, 7, 1, 8, 9, 10, 11, 12, 13, 14, 5, 15, 16, 17, 18, 19, 20, 21, 22, 23, 24, 25, 26, 27, 28, 98, 99, 100, 101, 102, 103, 104, 105, 106, 107, 108, 109, 110, 111, 112, 113, 114, 115, 116, 117, 118, 119, 120, 121, 122, 123, 124, 125, 126, 127, 128, 129, 130, 131, 132, 133, 134, 135, 136, 137, 138, 139, 140, 141, 142, 143, 144, 145, 146, 147, 148, 149, 150, 151, 152, 153, 154] (by decide +kernel) (by decide +kernel)
set_option maxRecDepth 20000 in
theorem gX10_asTheyAre_X10_nextRecord : GoodIn wsX10_asTheyAre (wsV RX10 245 RX10 yX10_nextRecord wsX10_nextRecord) := goodIn_app (goodIn_of _ (by decide +kernel)) ggX10_asTheyAre_X10_nextRecord
set_option maxRecDepth 20000 in
theorem ggX10_asTheyAre_X10_before : GoodIn wsX10_asTheyAre wsX10_before := goodIn_r _ [32, 33, 11, 34, 35, 36, 5, 37, 38, 39, 40, 98, 99, 100, 101, 102, 103, 104, 105, 106, 107, 108, 109, 110, 111, 112, 113, 114, 115, 116, 117, 118, 119, 120, 121, 122, 123, 124, 125, 126, 127, 128, 129, 130, 131, 132, 133, 134, 135, 136, 137, 138, 139, 140, 141, 142, 143, 144, 145, 146, 147, 148, 149, 150, 151, 152, 153, 154] (by decide +kernel) (by decide +kernel)
set_option maxRecDepth 20000 in
theorem gX10_asTheyAre_X10_before : GoodIn wsX10_asTheyAre (wsV RX10 241 RX10 yX10_before wsX10_before) := goodIn_app (goodIn_of _ (by decide +kernel)) ggX10_asTheyAre_X10_before
set_option maxRecDepth 20000 in
theorem ggX10_asTheyAre_X10_endRun : GoodIn wsX10_asTheyAre wsX10_endRun := goodIn_r _ [44, 45, 46, 47, 48, 49, 50, 5, 51, 11, 52, 12, 13, 14, 15, 16, 53, 54, 55, 56, 57, 58, 59, 60, 61, 62, 63, 1, 64, 65, 9, 66, 33, 22, 23, 24, 25, 26, 27, 28, 67, 68, 69, 70, 71, 72, 73, 98, 99, 100, 101, 102, 103, 104, 105, 106, 107, 108, 109, 110, 111, 112, 113, 114, 115, 116, 117, 118, 119, 120, 121, 122, 123, 124, 125, 126, 127, 128, 129, 130, 131, 132, 133, 134, 135, 136, 137, 138, 139, 140, 141, 142, 143, 144, 145, 146, 147, 148, 149, 150, 151, 152, 153, 154] (by decide +kernel) (by decide +kernel)
set_option maxRecDepth 20000 in
theorem gX10_asTheyAre_X10_endRun : GoodIn wsX10_asTheyAre (wsV RX10 260 RX10 yX10_endRun wsX10_endRun) := goodIn_app (goodIn_of _ (by decide +kernel)) ggX10_asTheyAre_X10_endRun
set_option maxRecDepth 20000 in
theorem ggX10_asTheyAre_X10_nextRun : GoodIn wsX10_asTheyAre wsX10_nextRun := goodIn_r _ [77, 78, 79, 57, 80, 81, 82, 5, 83, 47, 45, 84, 85, 86, 87, 88, 71, 72, 73, 98, 99, 100, 101, 102, 103, 104, 105, 106, 107, 108, 109, 110, 111, 112, 113, 114, 115, 116, 117, 118, 119, 120, 121, 122, 123, 124, 125, 126, 127, 128, 129, 130, 131, 132, 133, 134, 135, 136, 137, 138, 139, 140, 141, 142, 143, 144, 145, 146, 147, 148, 149, 150, 151, 152, 153, 154] (by decide +kernel) (by decide +kernel)
set_option maxRecDepth 20000 in
theorem gX10_asTheyAre_X10_nextRun : GoodIn wsX10_asTheyAre (wsV RX10 251 RX10 yX10_nextRun wsX10_nextRun) := goodIn_app (goodIn_of _ (by decide +kernel)) ggX10_asTheyAre_X10_nextRun
set_option maxRecDepth 20000 in
theorem ggX10_asTheyAre_X10_out : GoodIn wsX10_asTheyAre wsX10_out := goodIn_r _ [92, 93, 33, 45, 46, 11, 48, 49, 50, 5, 51, 52, 47, 12, 13, 14, 15, 16, 53, 54, 55, 56, 57, 58, 59, 60, 61, 62, 63, 1, 64, 65, 9, 66, 22, 23, 24, 25, 26, 27, 28, 67, 68, 69, 70, 71, 72, 73, 34, 35, 36, 37, 38, 39, 40, 94, 95, 96, 97, 98, 99, 100, 101, 102, 103, 104, 105, 106, 107, 108, 109, 110, 111, 112, 113, 114, 115, 116, 117, 118, 119, 120, 121, 122, 123, 124, 125, 126, 127, 128, 129, 130, 131, 132, 133, 134, 135, 136, 137, 138, 139, 140, 141, 142, 143, 144, 145, 146, 147, 148, 149, 150, 151, 152, 153, 154] (by decide +kernel) (by decide +kernel)
set_option maxRecDepth 20000 in
theorem gX10_asTheyAre_X10_out : GoodIn wsX10_asTheyAre (wsV RX10 257 RX10 yX10_out wsX10_out) := goodIn_app (goodIn_of _ (by decide +kernel)) ggX10_asTheyAre_X10_out
theorem dX10_asTheyAre_0 : decode cX10_asTheyAre 0 = .ok (.iconst (-1), 1) := by decide +kernel
theorem dX10_asTheyAre_1 : decode cX10_asTheyAre 1 = .ok (.istore_n 1, 1) := by decide +kernel
theorem dX10_asTheyAre_2 : decode cX10_asTheyAre 2 = .ok (.aload_n 0, 1) := by decide +kernel
theorem dX10_asTheyAre_3 : decode cX10_asTheyAre 3 = .ok (.invokevirtual 245, 3) := by decide +kernel
theorem dX10_asTheyAre_6 : decode cX10_asTheyAre 6 = .ok (.istore_n 2, 1) := by decide +kernel
theorem dX10_asTheyAre_7 : decode cX10_asTheyAre 7 = .ok (.iload_n 2, 1) := by decide +kernel
theorem dX10_asTheyAre_8 : decode cX10_asTheyAre 8 = .ok (.iconst (-1), 1) := by decide +kernel
theorem dX10_asTheyAre_9 : decode cX10_asTheyAre 9 = .ok (.if_icmp .eq 73, 3) := by decide +kernel
theorem dX10_asTheyAre_12 : decode cX10_asTheyAre 12 = .ok (.iload_n 1, 1) := by decide +kernel
theorem dX10_asTheyAre_13 : decode cX10_asTheyAre 13 = .ok (.iconst (-1), 1) := by decide +kernel
theorem dX10_asTheyAre_14 : decode cX10_asTheyAre 14 = .ok (.if_icmp .eq 12, 3) := by decide +kernel
theorem dX10_asTheyAre_17 : decode cX10_asTheyAre 17 = .ok (.aload_n 0, 1) := by decide +kernel
theorem dX10_asTheyAre_18 : decode cX10_asTheyAre 18 = .ok (.iload_n 2, 1) := by decide +kernel
theorem dX10_asTheyAre_19 : decode cX10_asTheyAre 19 = .ok (.iload_n 1, 1) := by decide +kernel
theorem dX10_asTheyAre_20 : decode cX10_asTheyAre 20 = .ok (.invokevirtual 241, 3) := by decide +kernel
theorem dX10_asTheyAre_23 : decode cX10_asTheyAre 23 = .ok (.ifCond .eq 7, 3) := by decide +kernel
theorem dX10_asTheyAre_26 : decode cX10_asTheyAre 26 = .ok (.iconst 1, 1) := by decide +kernel
theorem dX10_asTheyAre_27 : decode cX10_asTheyAre 27 = .ok (.goto 4, 3) := by decide +kernel
theorem dX10_asTheyAre_30 : decode cX10_asTheyAre 30 = .ok (.iconst 0, 1) := by decide +kernel
theorem dX10_asTheyAre_31 : decode cX10_asTheyAre 31 = .ok (.istore_n 3, 1) := by decide +kernel
theorem dX10_asTheyAre_32 : decode cX10_asTheyAre 32 = .ok (.iload_n 3, 1) := by decide +kernel
theorem dX10_asTheyAre_33 : decode cX10_asTheyAre 33 = .ok (.ifCond .eq 12, 3) := by decide +kernel
theorem dX10_asTheyAre_36 : decode cX10_asTheyAre 36 = .ok (.iload_n 1, 1) := by decide +kernel
theorem dX10_asTheyAre_37 : decode cX10_asTheyAre 37 = .ok (.iconst (-1), 1) := by decide +kernel
theorem dX10_asTheyAre_38 : decode cX10_asTheyAre 38 = .ok (.if_icmp .eq 7, 3) := by decide +kernel
theorem dX10_asTheyAre_41 : decode cX10_asTheyAre 41 = .ok (.aload_n 0, 1) := by decide +kernel
theorem dX10_asTheyAre_42 : decode cX10_asTheyAre 42 = .ok (.invokevirtual 260, 3) := by decide +kernel
theorem dX10_asTheyAre_45 : decode cX10_asTheyAre 45 = .ok (.iload_n 3, 1) := by decide +kernel
theorem dX10_asTheyAre_46 : decode cX10_asTheyAre 46 = .ok (.ifCond .eq 14, 3) := by decide +kernel
theorem dX10_asTheyAre_49 : decode cX10_asTheyAre 49 = .ok (.aload_n 0, 1) := by decide +kernel
theorem dX10_asTheyAre_50 : decode cX10_asTheyAre 50 = .ok (.getfield 134, 3) := by decide +kernel
theorem dX10_asTheyAre_53 : decode cX10_asTheyAre 53 = .ok (.ifCond .ne 7, 3) := by decide +kernel
theorem dX10_asTheyAre_56 : decode cX10_asTheyAre 56 = .ok (.aload_n 0, 1) := by decide +kernel
theorem dX10_asTheyAre_57 : decode cX10_asTheyAre 57 = .ok (.invokevirtual 251, 3) := by decide +kernel
theorem dX10_asTheyAre_60 : decode cX10_asTheyAre 60 = .ok (.aload_n 0, 1) := by decide +kernel
theorem dX10_asTheyAre_61 : decode cX10_asTheyAre 61 = .ok (.getfield 134, 3) := by decide +kernel
theorem dX10_asTheyAre_64 : decode cX10_asTheyAre 64 = .ok (.ifCond .ne 8, 3) := by decide +kernel
theorem dX10_asTheyAre_67 : decode cX10_asTheyAre 67 = .ok (.aload_n 0, 1) := by decide +kernel
theorem dX10_asTheyAre_68 : decode cX10_asTheyAre 68 = .ok (.iload_n 2, 1) := by decide +kernel
theorem dX10_asTheyAre_69 : decode cX10_asTheyAre 69 = .ok (.invokevirtual 257, 3) := by decide +kernel
theorem dX10_asTheyAre_72 : decode cX10_asTheyAre 72 = .ok (.iload_n 2, 1) := by decide +kernel
theorem dX10_asTheyAre_73 : decode cX10_asTheyAre 73 = .ok (.istore_n 1, 1) := by decide +kernel
theorem dX10_asTheyAre_74 : decode cX10_asTheyAre 74 = .ok (.aload_n 0, 1) := by decide +kernel
theorem dX10_asTheyAre_75 : decode cX10_asTheyAre 75 = .ok (.invokevirtual 245, 3) := by decide +kernel
theorem dX10_asTheyAre_78 : decode cX10_asTheyAre 78 = .ok (.istore_n 2, 1) := by decide +kernel
theorem dX10_asTheyAre_79 : decode cX10_asTheyAre 79 = .ok (.goto (-72), 3) := by decide +kernel
theorem dX10_asTheyAre_82 : decode cX10_asTheyAre 82 = .ok (.iload_n 1, 1) := by decide +kernel
theorem dX10_asTheyAre_83 : decode cX10_asTheyAre 83 = .ok (.iconst (-1), 1) := by decide +kernel
theorem dX10_asTheyAre_84 : decode cX10_asTheyAre 84 = .ok (.if_icmp .eq 14, 3) := by decide +kernel
theorem dX10_asTheyAre_87 : decode cX10_asTheyAre 87 = .ok (.aload_n 0, 1) := by decide +kernel
theorem dX10_asTheyAre_88 : decode cX10_asTheyAre 88 = .ok (.getfield 134, 3) := by decide +kernel
theorem dX10_asTheyAre_91 : decode cX10_asTheyAre 91 = .ok (.ifCond .ne 7, 3) := by decide +kernel
theorem dX10_asTheyAre_94 : decode cX10_asTheyAre 94 = .ok (.aload_n 0, 1) := by decide +kernel
theorem dX10_asTheyAre_95 : decode cX10_asTheyAre 95 = .ok (.invokevirtual 260, 3) := by decide +kernel
theorem dX10_asTheyAre_98 : decode cX10_asTheyAre 98 = .ok (.return_, 1) := by decide +kernel
theorem dX10_ended_0 : decode cX10_ended 0 = .ok (.aload_n 0, 1) := by decide +kernel
theorem dX10_ended_1 : decode cX10_ended 1 = .ok (.aload_n 0, 1) := by decide +kernel
theorem dX10_ended_2 : decode cX10_ended 2 = .ok (.getfield 134, 3) := by decide +kernel
theorem dX10_ended_5 : decode cX10_ended 5 = .ok (.iconst 1, 1) := by decide +kernel
theorem dX10_ended_6 : decode cX10_ended 6 = .ok (.if_icmp .ne 7, 3) := by decide +kernel
theorem dX10_ended_9 : decode cX10_ended 9 = .ok (.iconst 1, 1) := by decide +kernel
theorem dX10_ended_10 : decode cX10_ended 10 = .ok (.goto 4, 3) := by decide +kernel
theorem dX10_ended_13 : decode cX10_ended 13 = .ok (.iconst 0, 1) := by decide +kernel
theorem dX10_ended_14 : decode cX10_ended 14 = .ok (.putfield 197, 3) := by decide +kernel
theorem dX10_ended_17 : decode cX10_ended 17 = .ok (.aload_n 0, 1) := by decide +kernel
theorem dX10_ended_18 : decode cX10_ended 18 = .ok (.aload_n 0, 1) := by decide +kernel
theorem dX10_ended_19 : decode cX10_ended 19 = .ok (.getfield 134, 3) := by decide +kernel
theorem dX10_ended_22 : decode cX10_ended 22 = .ok (.iconst 2, 1) := by decide +kernel
theorem dX10_ended_23 : decode cX10_ended 23 = .ok (.if_icmp .ne 7, 3) := by decide +kernel
theorem dX10_ended_26 : decode cX10_ended 26 = .ok (.iload_n 1, 1) := by decide +kernel
theorem dX10_ended_27 : decode cX10_ended 27 = .ok (.goto 4, 3) := by decide +kernel
theorem dX10_ended_30 : decode cX10_ended 30 = .ok (.iconst 0, 1) := by decide +kernel
theorem dX10_ended_31 : decode cX10_ended 31 = .ok (.putfield 125, 3) := by decide +kernel
theorem dX10_ended_34 : decode cX10_ended 34 = .ok (.aload_n 0, 1) := by decide +kernel
theorem dX10_ended_35 : decode cX10_ended 35 = .ok (.getfield 197, 3) := by decide +kernel
theorem dX10_ended_38 : decode cX10_ended 38 = .ok (.ifCond .eq 8, 3) := by decide +kernel
theorem dX10_ended_41 : decode cX10_ended 41 = .ok (.bipush (-2), 2) := by decide +kernel
theorem dX10_ended_43 : decode cX10_ended 43 = .ok (.goto 7, 3) := by decide +kernel
theorem dX10_ended_46 : decode cX10_ended 46 = .ok (.aload_n 0, 1) := by decide +kernel
theorem dX10_ended_47 : decode cX10_ended 47 = .ok (.getfield 200, 3) := by decide +kernel
theorem dX10_ended_50 : decode cX10_ended 50 = .ok (.ireturn, 1) := by decide +kernel
set_option maxRecDepth 20000 in
theorem ggX10_form_X10_isIn : GoodIn wsX10_form wsX10_isIn := goodIn_r _ [22] (by decide +kernel) (by decide +kernel)
set_option maxRecDepth 20000 in
theorem gX10_form_X10_isIn : GoodIn wsX10_form (va_wsS RX10 193 yX10_isIn wsX10_isIn) := goodIn_app (goodIn_of _ (by decide +kernel)) ggX10_form_X10_isIn
set_option maxRecDepth 20000 in
theorem ggX10_form_X10_begin : GoodIn wsX10_form wsX10_begin := goodIn_r _ [26, 11, 27, 28, 147, 148, 149, 150, 151, 152, 153, 154, 155, 156, 157, 158, 159, 160, 161, 162, 163, 164, 165, 166, 167, 168, 169, 170, 171, 172, 173, 174, 175, 176, 177, 178, 179, 180, 181, 182, 183, 184, 185, 186, 187, 188, 189, 190, 191, 192, 193, 194, 195, 196, 197, 198, 199, 200, 201, 202, 203] (by decide +kernel) (by decide +kernel)
set_option maxRecDepth 20000 in
theorem gX10_form_X10_begin : GoodIn wsX10_form (wsV RX10 209 RX10 yX10_begin wsX10_begin) := goodIn_app (goodIn_of _ (by decide +kernel)) ggX10_form_X10_begin
set_option maxRecDepth 20000 in
theorem ggX10_form_X10_write : GoodIn wsX10_form wsX10_write := goodIn_r _ [32, 27, 33, 11, 34, 28, 14, 35, 36, 37, 38, 39, 40, 21, 41, 42, 43, 44, 147, 148, 149, 150, 151, 152, 153, 154, 155, 156, 157, 158, 159, 160, 161, 162, 163, 164, 165, 166, 167, 168, 169, 170, 171, 172, 173, 174, 175, 176, 177, 178, 179, 180, 181, 182, 183, 184, 185, 186, 187, 188, 189, 190, 191, 192, 193, 194, 195, 196, 197, 198, 199, 200, 201, 202, 203] (by decide +kernel) (by decide +kernel)
set_option maxRecDepth 20000 in
theorem gX10_form_X10_write : GoodIn wsX10_form (wsV RX10 171 RX10 yX10_write wsX10_write) := goodIn_app (goodIn_of _ (by decide +kernel)) ggX10_form_X10_write
set_option maxRecDepth 20000 in
theorem ggX10_form_X10_hang : GoodIn wsX10_form wsX10_hang := goodIn_r _ [48, 3, 14, 4, 5, 147, 148, 149, 150, 151, 152, 153, 154, 155, 156, 157, 158, 159, 160, 161, 162, 163, 164, 165, 166, 167, 168, 169, 170, 171, 172, 173, 174, 175, 176, 177, 178, 179, 180, 181, 182, 183, 184, 185, 186, 187, 188, 189, 190, 191, 192, 193, 194, 195, 196, 197, 198, 199, 200, 201, 202, 203] (by decide +kernel) (by decide +kernel)
set_option maxRecDepth 20000 in
theorem gX10_form_X10_hang : GoodIn wsX10_form (wsV RX10 175 RX10 yX10_hang wsX10_hang) := goodIn_app (goodIn_of _ (by decide +kernel)) ggX10_form_X10_hang
set_option maxRecDepth 20000 in
theorem ggX10_form_X10_loading : GoodIn wsX10_form wsX10_loading := goodIn_r _ [52, 12, 11, 53, 54, 55, 56, 57, 21, 58, 13, 59, 60, 61, 62, 63, 10, 14, 9, 36, 64, 65, 66, 67, 68, 69, 70, 71, 72, 73, 38, 39, 40, 41, 42, 43, 44, 74, 75, 76, 77, 16, 6, 78, 79, 80, 81, 82, 83, 84, 85, 86, 87, 88, 15, 3, 4, 5, 89, 90, 91, 92, 93, 94, 95, 96, 37, 97, 98, 99, 100, 101, 102, 103, 104, 105, 106, 107, 108, 109, 110, 111, 112, 113, 114, 115, 116, 117, 118, 29, 30, 31, 32, 27, 33, 34, 28, 35, 45, 46, 47, 48, 119, 120, 121, 122, 123, 124, 125, 126, 147, 148, 149, 150, 151, 152, 153, 154, 155, 156, 157, 158, 159, 160, 161, 162, 163, 164, 165, 166, 167, 168, 169, 170, 171, 172, 173, 174, 175, 176, 177, 178, 179, 180, 181, 182, 183, 184, 185, 186, 187, 188, 189, 190, 191, 192, 193, 194, 195, 196, 197, 198, 199, 200, 201, 202, 203] (by decide +kernel) (by decide +kernel)
set_option maxRecDepth 20000 in
theorem gX10_form_X10_loading : GoodIn wsX10_form (wsV RX10 263 RX10 yX10_loading wsX10_loading) := goodIn_app (goodIn_of _ (by decide +kernel)) ggX10_form_X10_loading
set_option maxRecDepth 20000 in
theorem ggX10_form_X10_choosing : GoodIn wsX10_form wsX10_choosing := goodIn_r _ [130, 13, 11, 53, 54, 55, 56, 57, 21, 58, 59, 12, 60, 61, 62, 63, 10, 14, 9, 36, 64, 65, 66, 67, 68, 69, 70, 71, 72, 73, 38, 39, 40, 41, 42, 43, 44, 74, 75, 76, 77, 16, 6, 78, 79, 80, 81, 82, 83, 84, 85, 86, 87, 88, 15, 3, 4, 5, 89, 90, 91, 92, 93, 94, 95, 96, 37, 97, 98, 99, 100, 101, 102, 103, 104, 105, 106, 107, 108, 109, 110, 111, 112, 113, 114, 115, 116, 117, 118, 29, 30, 31, 32, 27, 33, 34, 28, 35, 45, 46, 47, 48, 119, 120, 121, 122, 123, 124, 125, 126, 147, 148, 149, 150, 151, 152, 153, 154, 155, 156, 157, 158, 159, 160, 161, 162, 163, 164, 165, 166, 167, 168, 169, 170, 171, 172, 173, 174, 175, 176, 177, 178, 179, 180, 181, 182, 183, 184, 185, 186, 187, 188, 189, 190, 191, 192, 193, 194, 195, 196, 197, 198, 199, 200, 201, 202, 203] (by decide +kernel) (by decide +kernel)
set_option maxRecDepth 20000 in
theorem gX10_form_X10_choosing : GoodIn wsX10_form (wsV RX10 266 RX10 yX10_choosing wsX10_choosing) := goodIn_app (goodIn_of _ (by decide +kernel)) ggX10_form_X10_choosing
set_option maxRecDepth 20000 in
theorem ggX10_form_X10_asTheyAre : GoodIn wsX10_form wsX10_asTheyAre := goodIn_r _ [134, 11, 60, 61, 62, 21, 63, 12, 10, 14, 9, 36, 64, 65, 66, 67, 68, 69, 70, 71, 72, 73, 38, 39, 40, 41, 42, 43, 44, 93, 94, 95, 96, 37, 97, 98, 99, 100, 101, 102, 103, 123, 124, 125, 126, 84, 109, 83, 110, 111, 112, 113, 114, 115, 116, 117, 118, 78, 29, 30, 31, 32, 27, 33, 34, 28, 35, 45, 46, 47, 48, 3, 4, 5, 74, 75, 76, 77, 16, 6, 79, 80, 81, 82, 85, 86, 87, 88, 15, 104, 105, 106, 107, 108, 119, 120, 121, 122, 147, 148, 149, 150, 151, 152, 153, 154, 155, 156, 157, 158, 159, 160, 161, 162, 163, 164, 165, 166, 167, 168, 169, 170, 171, 172, 173, 174, 175, 176, 177, 178, 179, 180, 181, 182, 183, 184, 185, 186, 187, 188, 189, 190, 191, 192, 193, 194, 195, 196, 197, 198, 199, 200, 201, 202, 203] (by decide +kernel) (by decide +kernel)
set_option maxRecDepth 20000 in
theorem gX10_form_X10_asTheyAre : GoodIn wsX10_form (wsV RX10 269 RX10 yX10_asTheyAre wsX10_asTheyAre) := goodIn_app (goodIn_of _ (by decide +kernel)) ggX10_form_X10_asTheyAre
set_option maxRecDepth 20000 in
theorem ggX10_form_X10_giveBack : GoodIn wsX10_form wsX10_giveBack := goodIn_r _ [138, 27, 33, 28, 147, 148, 149, 150, 151, 152, 153, 154, 155, 156, 157, 158, 159, 160, 161, 162, 163, 164, 165, 166, 167, 168, 169, 170, 171, 172, 173, 174, 175, 176, 177, 178, 179, 180, 181, 182, 183, 184, 185, 186, 187, 188, 189, 190, 191, 192, 193, 194, 195, 196, 197, 198, 199, 200, 201, 202, 203] (by decide +kernel) (by decide +kernel)
set_option maxRecDepth 20000 in
theorem gX10_form_X10_giveBack : GoodIn wsX10_form (wsV RX10 272 RX10 yX10_giveBack wsX10_giveBack) := goodIn_app (goodIn_of _ (by decide +kernel)) ggX10_form_X10_giveBack
set_option maxRecDepth 20000 in
theorem ggX10_form_X10_ended : GoodIn wsX10_form wsX10_ended := goodIn_r _ [142, 11, 1, 2, 18, 147, 148, 149, 150, 151, 152, 153, 154, 155, 156, 157, 158, 159, 160, 161, 162, 163, 164, 165, 166, 167, 168, 169, 170, 171, 172, 173, 174, 175, 176, 177, 178, 179, 180, 181, 182, 183, 184, 185, 186, 187, 188, 189, 190, 191, 192, 193, 194, 195, 196, 197, 198, 199, 200, 201, 202, 203] (by decide +kernel) (by decide +kernel)
set_option maxRecDepth 20000 in
theorem gX10_form_X10_ended : GoodIn wsX10_form (wsV RX10 275 RX10 yX10_ended wsX10_ended) := goodIn_app (goodIn_of _ (by decide +kernel)) ggX10_form_X10_ended
set_option maxRecDepth 20000 in
theorem ggX10_form_X10_free : GoodIn wsX10_form wsX10_free := goodIn_r _ [146, 3, 33, 14, 4, 5, 15, 147, 148, 149, 150, 151, 152, 153, 154, 155, 156, 157, 158, 159, 160, 161, 162, 163, 164, 165, 166, 167, 168, 169, 170, 171, 172, 173, 174, 175, 176, 177, 178, 179, 180, 181, 182, 183, 184, 185, 186, 187, 188, 189, 190, 191, 192, 193, 194, 195, 196, 197, 198, 199, 200, 201, 202, 203] (by decide +kernel) (by decide +kernel)
set_option maxRecDepth 20000 in
theorem gX10_form_X10_free : GoodIn wsX10_form (wsV RX10 279 RX10 yX10_free wsX10_free) := goodIn_app (goodIn_of _ (by decide +kernel)) ggX10_form_X10_free
theorem dX10_form_0 : decode cX10_form 0 = .ok (.aload_n 0, 1) := by decide +kernel
theorem dX10_form_1 : decode cX10_form 1 = .ok (.iload_n 1, 1) := by decide +kernel
theorem dX10_form_2 : decode cX10_form 2 = .ok (.iconst 0, 1) := by decide +kernel
theorem dX10_form_3 : decode cX10_form 3 = .ok (.iconst 2, 1) := by decide +kernel
theorem dX10_form_4 : decode cX10_form 4 = .ok (.invokestatic 193, 3) := by decide +kernel
theorem dX10_form_7 : decode cX10_form 7 = .ok (.ifCond .ne 7, 3) := by decide +kernel
theorem dX10_form_10 : decode cX10_form 10 = .ok (.iconst 1, 1) := by decide +kernel
theorem dX10_form_11 : decode cX10_form 11 = .ok (.goto 15, 3) := by decide +kernel
theorem dX10_form_14 : decode cX10_form 14 = .ok (.aload_n 0, 1) := by decide +kernel
theorem dX10_form_15 : decode cX10_form 15 = .ok (.getfield 197, 3) := by decide +kernel
theorem dX10_form_18 : decode cX10_form 18 = .ok (.ifCond .eq 7, 3) := by decide +kernel
theorem dX10_form_21 : decode cX10_form 21 = .ok (.iconst 2, 1) := by decide +kernel
theorem dX10_form_22 : decode cX10_form 22 = .ok (.goto 4, 3) := by decide +kernel
theorem dX10_form_25 : decode cX10_form 25 = .ok (.iconst 0, 1) := by decide +kernel
theorem dX10_form_26 : decode cX10_form 26 = .ok (.putfield 125, 3) := by decide +kernel
theorem dX10_form_29 : decode cX10_form 29 = .ok (.aload_n 0, 1) := by decide +kernel
theorem dX10_form_30 : decode cX10_form 30 = .ok (.getfield 125, 3) := by decide +kernel
theorem dX10_form_33 : decode cX10_form 33 = .ok (.ifCond .le 5, 3) := by decide +kernel
theorem dX10_form_36 : decode cX10_form 36 = .ok (.iconst 0, 1) := by decide +kernel
theorem dX10_form_37 : decode cX10_form 37 = .ok (.ireturn, 1) := by decide +kernel
theorem dX10_form_38 : decode cX10_form 38 = .ok (.aload_n 0, 1) := by decide +kernel
theorem dX10_form_39 : decode cX10_form 39 = .ok (.getfield 24, 3) := by decide +kernel
theorem dX10_form_42 : decode cX10_form 42 = .ok (.iconst 0, 1) := by decide +kernel
theorem dX10_form_43 : decode cX10_form 43 = .ok (.iaload, 1) := by decide +kernel
theorem dX10_form_44 : decode cX10_form 44 = .ok (.istore_n 2, 1) := by decide +kernel
theorem dX10_form_45 : decode cX10_form 45 = .ok (.aload_n 0, 1) := by decide +kernel
theorem dX10_form_46 : decode cX10_form 46 = .ok (.getfield 27, 3) := by decide +kernel
theorem dX10_form_49 : decode cX10_form 49 = .ok (.iconst 0, 1) := by decide +kernel
theorem dX10_form_50 : decode cX10_form 50 = .ok (.iaload, 1) := by decide +kernel
theorem dX10_form_51 : decode cX10_form 51 = .ok (.istore_n 3, 1) := by decide +kernel
theorem dX10_form_52 : decode cX10_form 52 = .ok (.aload_n 0, 1) := by decide +kernel
theorem dX10_form_53 : decode cX10_form 53 = .ok (.getfield 30, 3) := by decide +kernel
theorem dX10_form_56 : decode cX10_form 56 = .ok (.iconst 0, 1) := by decide +kernel
theorem dX10_form_57 : decode cX10_form 57 = .ok (.iaload, 1) := by decide +kernel
theorem dX10_form_58 : decode cX10_form 58 = .ok (.istore 4, 2) := by decide +kernel
theorem dX10_form_60 : decode cX10_form 60 = .ok (.aload_n 0, 1) := by decide +kernel
theorem dX10_form_61 : decode cX10_form 61 = .ok (.iconst 0, 1) := by decide +kernel
theorem dX10_form_62 : decode cX10_form 62 = .ok (.putfield 235, 3) := by decide +kernel
theorem dX10_form_65 : decode cX10_form 65 = .ok (.aload_n 0, 1) := by decide +kernel
theorem dX10_form_66 : decode cX10_form 66 = .ok (.invokevirtual 209, 3) := by decide +kernel
theorem dX10_form_69 : decode cX10_form 69 = .ok (.aload_n 0, 1) := by decide +kernel
theorem dX10_form_70 : decode cX10_form 70 = .ok (.getfield 203, 3) := by decide +kernel
theorem dX10_form_73 : decode cX10_form 73 = .ok (.ifCond .le 28, 3) := by decide +kernel
theorem dX10_form_76 : decode cX10_form 76 = .ok (.aload_n 0, 1) := by decide +kernel
theorem dX10_form_77 : decode cX10_form 77 = .ok (.aload_n 0, 1) := by decide +kernel
theorem dX10_form_78 : decode cX10_form 78 = .ok (.getfield 39, 3) := by decide +kernel
theorem dX10_form_81 : decode cX10_form 81 = .ok (.aload_n 0, 1) := by decide +kernel
theorem dX10_form_82 : decode cX10_form 82 = .ok (.getfield 203, 3) := by decide +kernel
theorem dX10_form_85 : decode cX10_form 85 = .ok (.invokevirtual 171, 3) := by decide +kernel
theorem dX10_form_88 : decode cX10_form 88 = .ok (.istore 5, 2) := by decide +kernel
theorem dX10_form_90 : decode cX10_form 90 = .ok (.aload_n 0, 1) := by decide +kernel
theorem dX10_form_91 : decode cX10_form 91 = .ok (.iconst 0, 1) := by decide +kernel
theorem dX10_form_92 : decode cX10_form 92 = .ok (.iload 5, 2) := by decide +kernel
theorem dX10_form_94 : decode cX10_form 94 = .ok (.aload_n 0, 1) := by decide +kernel
theorem dX10_form_95 : decode cX10_form 95 = .ok (.getfield 203, 3) := by decide +kernel
theorem dX10_form_98 : decode cX10_form 98 = .ok (.invokevirtual 175, 3) := by decide +kernel
theorem dX10_form_101 : decode cX10_form 101 = .ok (.aload_n 0, 1) := by decide +kernel
theorem dX10_form_102 : decode cX10_form 102 = .ok (.aload_n 0, 1) := by decide +kernel
theorem dX10_form_103 : decode cX10_form 103 = .ok (.getfield 24, 3) := by decide +kernel
theorem dX10_form_106 : decode cX10_form 106 = .ok (.iconst 0, 1) := by decide +kernel
theorem dX10_form_107 : decode cX10_form 107 = .ok (.iaload, 1) := by decide +kernel
theorem dX10_form_108 : decode cX10_form 108 = .ok (.putfield 226, 3) := by decide +kernel
theorem dX10_form_111 : decode cX10_form 111 = .ok (.aload_n 0, 1) := by decide +kernel
theorem dX10_form_112 : decode cX10_form 112 = .ok (.iconst 0, 1) := by decide +kernel
theorem dX10_form_113 : decode cX10_form 113 = .ok (.putfield 223, 3) := by decide +kernel
theorem dX10_form_116 : decode cX10_form 116 = .ok (.aload_n 0, 1) := by decide +kernel
theorem dX10_form_117 : decode cX10_form 117 = .ok (.aload_n 0, 1) := by decide +kernel
theorem dX10_form_118 : decode cX10_form 118 = .ok (.getfield 134, 3) := by decide +kernel
theorem dX10_form_121 : decode cX10_form 121 = .ok (.ifCond .le 7, 3) := by decide +kernel
theorem dX10_form_124 : decode cX10_form 124 = .ok (.iconst 0, 1) := by decide +kernel
theorem dX10_form_125 : decode cX10_form 125 = .ok (.goto 9, 3) := by decide +kernel
theorem dX10_form_128 : decode cX10_form 128 = .ok (.aload_n 0, 1) := by decide +kernel
theorem dX10_form_129 : decode cX10_form 129 = .ok (.getfield 30, 3) := by decide +kernel
theorem dX10_form_132 : decode cX10_form 132 = .ok (.iconst 0, 1) := by decide +kernel
theorem dX10_form_133 : decode cX10_form 133 = .ok (.iaload, 1) := by decide +kernel
theorem dX10_form_134 : decode cX10_form 134 = .ok (.putfield 220, 3) := by decide +kernel
theorem dX10_form_137 : decode cX10_form 137 = .ok (.aload_n 0, 1) := by decide +kernel
theorem dX10_form_138 : decode cX10_form 138 = .ok (.iconst 0, 1) := by decide +kernel
theorem dX10_form_139 : decode cX10_form 139 = .ok (.putfield 238, 3) := by decide +kernel
theorem dX10_form_142 : decode cX10_form 142 = .ok (.iload_n 1, 1) := by decide +kernel
theorem dX10_form_143 : decode cX10_form 143 = .ok (.ifCond .ne 10, 3) := by decide +kernel
theorem dX10_form_146 : decode cX10_form 146 = .ok (.aload_n 0, 1) := by decide +kernel
theorem dX10_form_147 : decode cX10_form 147 = .ok (.invokevirtual 263, 3) := by decide +kernel
theorem dX10_form_150 : decode cX10_form 150 = .ok (.goto 19, 3) := by decide +kernel
theorem dX10_form_153 : decode cX10_form 153 = .ok (.iload_n 1, 1) := by decide +kernel
theorem dX10_form_154 : decode cX10_form 154 = .ok (.iconst 1, 1) := by decide +kernel
theorem dX10_form_155 : decode cX10_form 155 = .ok (.if_icmp .ne 10, 3) := by decide +kernel
theorem dX10_form_158 : decode cX10_form 158 = .ok (.aload_n 0, 1) := by decide +kernel
theorem dX10_form_159 : decode cX10_form 159 = .ok (.invokevirtual 266, 3) := by decide +kernel
theorem dX10_form_162 : decode cX10_form 162 = .ok (.goto 7, 3) := by decide +kernel
theorem dX10_form_165 : decode cX10_form 165 = .ok (.aload_n 0, 1) := by decide +kernel
theorem dX10_form_166 : decode cX10_form 166 = .ok (.invokevirtual 269, 3) := by decide +kernel
theorem dX10_form_169 : decode cX10_form 169 = .ok (.aload_n 0, 1) := by decide +kernel
theorem dX10_form_170 : decode cX10_form 170 = .ok (.getfield 134, 3) := by decide +kernel
theorem dX10_form_173 : decode cX10_form 173 = .ok (.ifCond .le 78, 3) := by decide +kernel
theorem dX10_form_176 : decode cX10_form 176 = .ok (.aload_n 0, 1) := by decide +kernel
theorem dX10_form_177 : decode cX10_form 177 = .ok (.invokevirtual 272, 3) := by decide +kernel
theorem dX10_form_180 : decode cX10_form 180 = .ok (.aload_n 0, 1) := by decide +kernel
theorem dX10_form_181 : decode cX10_form 181 = .ok (.getfield 24, 3) := by decide +kernel
theorem dX10_form_184 : decode cX10_form 184 = .ok (.iconst 0, 1) := by decide +kernel
theorem dX10_form_185 : decode cX10_form 185 = .ok (.iload_n 2, 1) := by decide +kernel
theorem dX10_form_186 : decode cX10_form 186 = .ok (.iastore, 1) := by decide +kernel
theorem dX10_form_187 : decode cX10_form 187 = .ok (.aload_n 0, 1) := by decide +kernel
theorem dX10_form_188 : decode cX10_form 188 = .ok (.getfield 27, 3) := by decide +kernel
theorem dX10_form_191 : decode cX10_form 191 = .ok (.iconst 0, 1) := by decide +kernel
theorem dX10_form_192 : decode cX10_form 192 = .ok (.iload_n 3, 1) := by decide +kernel
theorem dX10_form_193 : decode cX10_form 193 = .ok (.iastore, 1) := by decide +kernel
theorem dX10_form_194 : decode cX10_form 194 = .ok (.aload_n 0, 1) := by decide +kernel
theorem dX10_form_195 : decode cX10_form 195 = .ok (.getfield 30, 3) := by decide +kernel
theorem dX10_form_198 : decode cX10_form 198 = .ok (.iconst 0, 1) := by decide +kernel
theorem dX10_form_199 : decode cX10_form 199 = .ok (.iload 4, 2) := by decide +kernel
theorem dX10_form_201 : decode cX10_form 201 = .ok (.iastore, 1) := by decide +kernel
theorem dX10_form_202 : decode cX10_form 202 = .ok (.iload_n 3, 1) := by decide +kernel
theorem dX10_form_203 : decode cX10_form 203 = .ok (.iconst (-1), 1) := by decide +kernel
theorem dX10_form_204 : decode cX10_form 204 = .ok (.if_icmp .eq 10, 3) := by decide +kernel
theorem dX10_form_207 : decode cX10_form 207 = .ok (.aload_n 0, 1) := by decide +kernel
theorem dX10_form_208 : decode cX10_form 208 = .ok (.getfield 20, 3) := by decide +kernel
theorem dX10_form_211 : decode cX10_form 211 = .ok (.iload_n 3, 1) := by decide +kernel
theorem dX10_form_212 : decode cX10_form 212 = .ok (.iconst (-1), 1) := by decide +kernel
theorem dX10_form_213 : decode cX10_form 213 = .ok (.iastore, 1) := by decide +kernel
theorem dX10_form_214 : decode cX10_form 214 = .ok (.iconst 0, 1) := by decide +kernel
theorem dX10_form_215 : decode cX10_form 215 = .ok (.istore 5, 2) := by decide +kernel
theorem dX10_form_217 : decode cX10_form 217 = .ok (.iload 5, 2) := by decide +kernel
theorem dX10_form_219 : decode cX10_form 219 = .ok (.aload_n 0, 1) := by decide +kernel
theorem dX10_form_220 : decode cX10_form 220 = .ok (.getfield 235, 3) := by decide +kernel
theorem dX10_form_223 : decode cX10_form 223 = .ok (.if_icmp .ge 22, 3) := by decide +kernel
theorem dX10_form_226 : decode cX10_form 226 = .ok (.aload_n 0, 1) := by decide +kernel
theorem dX10_form_227 : decode cX10_form 227 = .ok (.getfield 33, 3) := by decide +kernel
theorem dX10_form_230 : decode cX10_form 230 = .ok (.aload_n 0, 1) := by decide +kernel
theorem dX10_form_231 : decode cX10_form 231 = .ok (.getfield 63, 3) := by decide +kernel
theorem dX10_form_234 : decode cX10_form 234 = .ok (.iload 5, 2) := by decide +kernel
theorem dX10_form_236 : decode cX10_form 236 = .ok (.iaload, 1) := by decide +kernel
theorem dX10_form_237 : decode cX10_form 237 = .ok (.iconst 0, 1) := by decide +kernel
theorem dX10_form_238 : decode cX10_form 238 = .ok (.bastore, 1) := by decide +kernel
theorem dX10_form_239 : decode cX10_form 239 = .ok (.iinc 5 1, 3) := by decide +kernel
theorem dX10_form_242 : decode cX10_form 242 = .ok (.goto (-25), 3) := by decide +kernel
theorem dX10_form_245 : decode cX10_form 245 = .ok (.aload_n 0, 1) := by decide +kernel
theorem dX10_form_246 : decode cX10_form 246 = .ok (.iconst 3, 1) := by decide +kernel
theorem dX10_form_247 : decode cX10_form 247 = .ok (.invokevirtual 275, 3) := by decide +kernel
theorem dX10_form_250 : decode cX10_form 250 = .ok (.ireturn, 1) := by decide +kernel
theorem dX10_form_251 : decode cX10_form 251 = .ok (.aload_n 0, 1) := by decide +kernel
theorem dX10_form_252 : decode cX10_form 252 = .ok (.iconst 0, 1) := by decide +kernel
theorem dX10_form_253 : decode cX10_form 253 = .ok (.invokevirtual 279, 3) := by decide +kernel
theorem dX10_form_256 : decode cX10_form 256 = .ok (.aload_n 0, 1) := by decide +kernel
theorem dX10_form_257 : decode cX10_form 257 = .ok (.iconst 0, 1) := by decide +kernel
theorem dX10_form_258 : decode cX10_form 258 = .ok (.putfield 203, 3) := by decide +kernel
theorem dX10_form_261 : decode cX10_form 261 = .ok (.iconst 0, 1) := by decide +kernel
theorem dX10_form_262 : decode cX10_form 262 = .ok (.istore 5, 2) := by decide +kernel
theorem dX10_form_264 : decode cX10_form 264 = .ok (.iload 5, 2) := by decide +kernel
theorem dX10_form_266 : decode cX10_form 266 = .ok (.aload_n 0, 1) := by decide +kernel
theorem dX10_form_267 : decode cX10_form 267 = .ok (.getfield 235, 3) := by decide +kernel
theorem dX10_form_270 : decode cX10_form 270 = .ok (.if_icmp .ge 35, 3) := by decide +kernel
theorem dX10_form_273 : decode cX10_form 273 = .ok (.aload_n 0, 1) := by decide +kernel
theorem dX10_form_274 : decode cX10_form 274 = .ok (.getfield 36, 3) := by decide +kernel
theorem dX10_form_277 : decode cX10_form 277 = .ok (.aload_n 0, 1) := by decide +kernel
theorem dX10_form_278 : decode cX10_form 278 = .ok (.getfield 200, 3) := by decide +kernel
theorem dX10_form_281 : decode cX10_form 281 = .ok (.aload_n 0, 1) := by decide +kernel
theorem dX10_form_282 : decode cX10_form 282 = .ok (.getfield 63, 3) := by decide +kernel
theorem dX10_form_285 : decode cX10_form 285 = .ok (.iload 5, 2) := by decide +kernel
theorem dX10_form_287 : decode cX10_form 287 = .ok (.iaload, 1) := by decide +kernel
theorem dX10_form_288 : decode cX10_form 288 = .ok (.iastore, 1) := by decide +kernel
theorem dX10_form_289 : decode cX10_form 289 = .ok (.aload_n 0, 1) := by decide +kernel
theorem dX10_form_290 : decode cX10_form 290 = .ok (.dup, 1) := by decide +kernel
theorem dX10_form_291 : decode cX10_form 291 = .ok (.getfield 200, 3) := by decide +kernel
theorem dX10_form_294 : decode cX10_form 294 = .ok (.iconst 1, 1) := by decide +kernel
theorem dX10_form_295 : decode cX10_form 295 = .ok (.iadd, 1) := by decide +kernel
theorem dX10_form_296 : decode cX10_form 296 = .ok (.putfield 200, 3) := by decide +kernel
theorem dX10_form_299 : decode cX10_form 299 = .ok (.iinc 5 1, 3) := by decide +kernel
theorem dX10_form_302 : decode cX10_form 302 = .ok (.goto (-38), 3) := by decide +kernel
theorem dX10_form_305 : decode cX10_form 305 = .ok (.aload_n 0, 1) := by decide +kernel
theorem dX10_form_306 : decode cX10_form 306 = .ok (.iconst 3, 1) := by decide +kernel
theorem dX10_form_307 : decode cX10_form 307 = .ok (.invokevirtual 275, 3) := by decide +kernel
theorem dX10_form_310 : decode cX10_form 310 = .ok (.ireturn, 1) := by decide +kernel
theorem dX10_cellOf_0 : decode cX10_cellOf 0 = .ok (.bipush 64, 2) := by decide +kernel
theorem dX10_cellOf_2 : decode cX10_cellOf 2 = .ok (.aload_n 0, 1) := by decide +kernel
theorem dX10_cellOf_3 : decode cX10_cellOf 3 = .ok (.getfield 69, 3) := by decide +kernel
theorem dX10_cellOf_6 : decode cX10_cellOf 6 = .ok (.iload_n 1, 1) := by decide +kernel
theorem dX10_cellOf_7 : decode cX10_cellOf 7 = .ok (.iaload, 1) := by decide +kernel
theorem dX10_cellOf_8 : decode cX10_cellOf 8 = .ok (.imul, 1) := by decide +kernel
theorem dX10_cellOf_9 : decode cX10_cellOf 9 = .ok (.aload_n 0, 1) := by decide +kernel
theorem dX10_cellOf_10 : decode cX10_cellOf 10 = .ok (.getfield 72, 3) := by decide +kernel
theorem dX10_cellOf_13 : decode cX10_cellOf 13 = .ok (.iload_n 1, 1) := by decide +kernel
theorem dX10_cellOf_14 : decode cX10_cellOf 14 = .ok (.iaload, 1) := by decide +kernel
theorem dX10_cellOf_15 : decode cX10_cellOf 15 = .ok (.aload_n 0, 1) := by decide +kernel
theorem dX10_cellOf_16 : decode cX10_cellOf 16 = .ok (.getfield 116, 3) := by decide +kernel
theorem dX10_cellOf_19 : decode cX10_cellOf 19 = .ok (.iconst 1, 1) := by decide +kernel
theorem dX10_cellOf_20 : decode cX10_cellOf 20 = .ok (.iadd, 1) := by decide +kernel
theorem dX10_cellOf_21 : decode cX10_cellOf 21 = .ok (.imul, 1) := by decide +kernel
theorem dX10_cellOf_22 : decode cX10_cellOf 22 = .ok (.iadd, 1) := by decide +kernel
theorem dX10_cellOf_23 : decode cX10_cellOf 23 = .ok (.ireturn, 1) := by decide +kernel
set_option maxRecDepth 20000 in
theorem ggX10_firstOf_X10_cellOf : GoodIn wsX10_firstOf wsX10_cellOf := goodIn_r _ [7, 8, 9, 10, 23, 24, 25, 26, 27, 28, 29, 30, 31, 32, 33, 34, 35, 36, 37, 38, 39, 40, 41, 42, 43, 44, 45, 46, 47, 48, 49, 50, 51, 52, 53, 54, 55, 56, 57, 58, 59, 60, 61, 62, 63, 64, 65, 66, 67, 68, 69, 70, 71, 72, 73, 74, 75, 76, 77, 78, 79] (by decide +kernel) (by decide +kernel)
set_option maxRecDepth 20000 in
theorem gX10_firstOf_X10_cellOf : GoodIn wsX10_firstOf (wsV RX10 282 RX10 yX10_cellOf wsX10_cellOf) := goodIn_app (goodIn_of _ (by decide +kernel)) ggX10_firstOf_X10_cellOf
set_option maxRecDepth 20000 in
theorem ggX10_firstOf_X10_before : GoodIn wsX10_firstOf wsX10_before := goodIn_r _ [14, 15, 10, 16, 17, 18, 6, 19, 20, 21, 22, 23, 24, 25, 26, 27, 28, 29, 30, 31, 32, 33, 34, 35, 36, 37, 38, 39, 40, 41, 42, 43, 44, 45, 46, 47, 48, 49, 50, 51, 52, 53, 54, 55, 56, 57, 58, 59, 60, 61, 62, 63, 64, 65, 66, 67, 68, 69, 70, 71, 72, 73, 74, 75, 76, 77, 78, 79] (by decide +kernel) (by decide +kernel)
set_option maxRecDepth 20000 in
theorem gX10_firstOf_X10_before : GoodIn wsX10_firstOf (wsV RX10 241 RX10 yX10_before wsX10_before) := goodIn_app (goodIn_of _ (by decide +kernel)) ggX10_firstOf_X10_before
theorem dX10_firstOf_0 : decode cX10_firstOf 0 = .ok (.iconst (-1), 1) := by decide +kernel
theorem dX10_firstOf_1 : decode cX10_firstOf 1 = .ok (.istore_n 2, 1) := by decide +kernel
theorem dX10_firstOf_2 : decode cX10_firstOf 2 = .ok (.iconst 0, 1) := by decide +kernel
theorem dX10_firstOf_3 : decode cX10_firstOf 3 = .ok (.istore_n 3, 1) := by decide +kernel
theorem dX10_firstOf_4 : decode cX10_firstOf 4 = .ok (.iload_n 3, 1) := by decide +kernel
theorem dX10_firstOf_5 : decode cX10_firstOf 5 = .ok (.iload_n 1, 1) := by decide +kernel
theorem dX10_firstOf_6 : decode cX10_firstOf 6 = .ok (.if_icmp .ge 48, 3) := by decide +kernel
theorem dX10_firstOf_9 : decode cX10_firstOf 9 = .ok (.aload_n 0, 1) := by decide +kernel
theorem dX10_firstOf_10 : decode cX10_firstOf 10 = .ok (.getfield 134, 3) := by decide +kernel
theorem dX10_firstOf_13 : decode cX10_firstOf 13 = .ok (.ifCond .ne 41, 3) := by decide +kernel
theorem dX10_firstOf_16 : decode cX10_firstOf 16 = .ok (.aload_n 0, 1) := by decide +kernel
theorem dX10_firstOf_17 : decode cX10_firstOf 17 = .ok (.getfield 75, 3) := by decide +kernel
theorem dX10_firstOf_20 : decode cX10_firstOf 20 = .ok (.iload_n 3, 1) := by decide +kernel
theorem dX10_firstOf_21 : decode cX10_firstOf 21 = .ok (.iaload, 1) := by decide +kernel
theorem dX10_firstOf_22 : decode cX10_firstOf 22 = .ok (.ifCond .le 26, 3) := by decide +kernel
theorem dX10_firstOf_25 : decode cX10_firstOf 25 = .ok (.iload_n 2, 1) := by decide +kernel
theorem dX10_firstOf_26 : decode cX10_firstOf 26 = .ok (.ifCond .lt 20, 3) := by decide +kernel
theorem dX10_firstOf_29 : decode cX10_firstOf 29 = .ok (.aload_n 0, 1) := by decide +kernel
theorem dX10_firstOf_30 : decode cX10_firstOf 30 = .ok (.aload_n 0, 1) := by decide +kernel
theorem dX10_firstOf_31 : decode cX10_firstOf 31 = .ok (.iload_n 3, 1) := by decide +kernel
theorem dX10_firstOf_32 : decode cX10_firstOf 32 = .ok (.invokevirtual 282, 3) := by decide +kernel
theorem dX10_firstOf_35 : decode cX10_firstOf 35 = .ok (.aload_n 0, 1) := by decide +kernel
theorem dX10_firstOf_36 : decode cX10_firstOf 36 = .ok (.iload_n 2, 1) := by decide +kernel
theorem dX10_firstOf_37 : decode cX10_firstOf 37 = .ok (.invokevirtual 282, 3) := by decide +kernel
theorem dX10_firstOf_40 : decode cX10_firstOf 40 = .ok (.invokevirtual 241, 3) := by decide +kernel
theorem dX10_firstOf_43 : decode cX10_firstOf 43 = .ok (.ifCond .eq 5, 3) := by decide +kernel
theorem dX10_firstOf_46 : decode cX10_firstOf 46 = .ok (.iload_n 3, 1) := by decide +kernel
theorem dX10_firstOf_47 : decode cX10_firstOf 47 = .ok (.istore_n 2, 1) := by decide +kernel
theorem dX10_firstOf_48 : decode cX10_firstOf 48 = .ok (.iinc 3 1, 3) := by decide +kernel
theorem dX10_firstOf_51 : decode cX10_firstOf 51 = .ok (.goto (-47), 3) := by decide +kernel
theorem dX10_firstOf_54 : decode cX10_firstOf 54 = .ok (.iload_n 2, 1) := by decide +kernel
theorem dX10_firstOf_55 : decode cX10_firstOf 55 = .ok (.ireturn, 1) := by decide +kernel
set_option maxRecDepth 20000 in
theorem ggX10_onward_X10_per : GoodIn wsX10_onward wsX10_per := goodIn_r _ [9, 10, 11, 25, 26, 27, 28, 29, 30, 31, 32, 33, 34, 35, 36, 37, 38, 39, 40, 41, 42, 43, 44, 45, 46, 47, 48, 49, 50, 51, 52, 53, 54, 55, 56, 57, 58, 59, 60, 61, 62, 63, 64, 65, 66, 67, 68, 69, 70, 71, 72, 73, 74, 75, 76, 77, 78, 79, 80, 81] (by decide +kernel) (by decide +kernel)
set_option maxRecDepth 20000 in
theorem gX10_onward_X10_per : GoodIn wsX10_onward (wsV RX10 179 RX10 yX10_per wsX10_per) := goodIn_app (goodIn_of _ (by decide +kernel)) ggX10_onward_X10_per
set_option maxRecDepth 20000 in
theorem ggX10_onward_X10_read : GoodIn wsX10_onward wsX10_read := goodIn_r _ [15, 16, 17, 18, 19, 20, 8, 21, 22, 23, 24, 25, 26, 27, 28, 29, 30, 31, 32, 33, 34, 35, 36, 37, 38, 39, 40, 41, 42, 43, 44, 45, 46, 47, 48, 49, 50, 51, 52, 53, 54, 55, 56, 57, 58, 59, 60, 61, 62, 63, 64, 65, 66, 67, 68, 69, 70, 71, 72, 73, 74, 75, 76, 77, 78, 79, 80, 81] (by decide +kernel) (by decide +kernel)
set_option maxRecDepth 20000 in
theorem gX10_onward_X10_read : GoodIn wsX10_onward (wsV RX10 229 RX10 yX10_read wsX10_read) := goodIn_app (goodIn_of _ (by decide +kernel)) ggX10_onward_X10_read
theorem dX10_onward_0 : decode cX10_onward 0 = .ok (.aload_n 0, 1) := by decide +kernel
theorem dX10_onward_1 : decode cX10_onward 1 = .ok (.getfield 75, 3) := by decide +kernel
theorem dX10_onward_4 : decode cX10_onward 4 = .ok (.iload_n 1, 1) := by decide +kernel
theorem dX10_onward_5 : decode cX10_onward 5 = .ok (.dup2, 1) := by decide +kernel
theorem dX10_onward_6 : decode cX10_onward 6 = .ok (.iaload, 1) := by decide +kernel
theorem dX10_onward_7 : decode cX10_onward 7 = .ok (.iconst 1, 1) := by decide +kernel
theorem dX10_onward_8 : decode cX10_onward 8 = .ok (.isub, 1) := by decide +kernel
theorem dX10_onward_9 : decode cX10_onward 9 = .ok (.iastore, 1) := by decide +kernel
theorem dX10_onward_10 : decode cX10_onward 10 = .ok (.aload_n 0, 1) := by decide +kernel
theorem dX10_onward_11 : decode cX10_onward 11 = .ok (.getfield 72, 3) := by decide +kernel
theorem dX10_onward_14 : decode cX10_onward 14 = .ok (.iload_n 1, 1) := by decide +kernel
theorem dX10_onward_15 : decode cX10_onward 15 = .ok (.dup2, 1) := by decide +kernel
theorem dX10_onward_16 : decode cX10_onward 16 = .ok (.iaload, 1) := by decide +kernel
theorem dX10_onward_17 : decode cX10_onward 17 = .ok (.iconst 1, 1) := by decide +kernel
theorem dX10_onward_18 : decode cX10_onward 18 = .ok (.iadd, 1) := by decide +kernel
theorem dX10_onward_19 : decode cX10_onward 19 = .ok (.iastore, 1) := by decide +kernel
theorem dX10_onward_20 : decode cX10_onward 20 = .ok (.aload_n 0, 1) := by decide +kernel
theorem dX10_onward_21 : decode cX10_onward 21 = .ok (.getfield 72, 3) := by decide +kernel
theorem dX10_onward_24 : decode cX10_onward 24 = .ok (.iload_n 1, 1) := by decide +kernel
theorem dX10_onward_25 : decode cX10_onward 25 = .ok (.iaload, 1) := by decide +kernel
theorem dX10_onward_26 : decode cX10_onward 26 = .ok (.aload_n 0, 1) := by decide +kernel
theorem dX10_onward_27 : decode cX10_onward 27 = .ok (.invokevirtual 179, 3) := by decide +kernel
theorem dX10_onward_30 : decode cX10_onward 30 = .ok (.if_icmp .ne 46, 3) := by decide +kernel
theorem dX10_onward_33 : decode cX10_onward 33 = .ok (.aload_n 0, 1) := by decide +kernel
theorem dX10_onward_34 : decode cX10_onward 34 = .ok (.getfield 75, 3) := by decide +kernel
theorem dX10_onward_37 : decode cX10_onward 37 = .ok (.iload_n 1, 1) := by decide +kernel
theorem dX10_onward_38 : decode cX10_onward 38 = .ok (.iaload, 1) := by decide +kernel
theorem dX10_onward_39 : decode cX10_onward 39 = .ok (.ifCond .le 37, 3) := by decide +kernel
theorem dX10_onward_42 : decode cX10_onward 42 = .ok (.aload_n 0, 1) := by decide +kernel
theorem dX10_onward_43 : decode cX10_onward 43 = .ok (.getfield 69, 3) := by decide +kernel
theorem dX10_onward_46 : decode cX10_onward 46 = .ok (.iload_n 1, 1) := by decide +kernel
theorem dX10_onward_47 : decode cX10_onward 47 = .ok (.aload_n 0, 1) := by decide +kernel
theorem dX10_onward_48 : decode cX10_onward 48 = .ok (.getfield 20, 3) := by decide +kernel
theorem dX10_onward_51 : decode cX10_onward 51 = .ok (.aload_n 0, 1) := by decide +kernel
theorem dX10_onward_52 : decode cX10_onward 52 = .ok (.getfield 69, 3) := by decide +kernel
theorem dX10_onward_55 : decode cX10_onward 55 = .ok (.iload_n 1, 1) := by decide +kernel
theorem dX10_onward_56 : decode cX10_onward 56 = .ok (.iaload, 1) := by decide +kernel
theorem dX10_onward_57 : decode cX10_onward 57 = .ok (.iaload, 1) := by decide +kernel
theorem dX10_onward_58 : decode cX10_onward 58 = .ok (.iastore, 1) := by decide +kernel
theorem dX10_onward_59 : decode cX10_onward 59 = .ok (.aload_n 0, 1) := by decide +kernel
theorem dX10_onward_60 : decode cX10_onward 60 = .ok (.getfield 72, 3) := by decide +kernel
theorem dX10_onward_63 : decode cX10_onward 63 = .ok (.iload_n 1, 1) := by decide +kernel
theorem dX10_onward_64 : decode cX10_onward 64 = .ok (.iconst 0, 1) := by decide +kernel
theorem dX10_onward_65 : decode cX10_onward 65 = .ok (.iastore, 1) := by decide +kernel
theorem dX10_onward_66 : decode cX10_onward 66 = .ok (.aload_n 0, 1) := by decide +kernel
theorem dX10_onward_67 : decode cX10_onward 67 = .ok (.aload_n 0, 1) := by decide +kernel
theorem dX10_onward_68 : decode cX10_onward 68 = .ok (.getfield 69, 3) := by decide +kernel
theorem dX10_onward_71 : decode cX10_onward 71 = .ok (.iload_n 1, 1) := by decide +kernel
theorem dX10_onward_72 : decode cX10_onward 72 = .ok (.iaload, 1) := by decide +kernel
theorem dX10_onward_73 : decode cX10_onward 73 = .ok (.invokevirtual 229, 3) := by decide +kernel
theorem dX10_onward_76 : decode cX10_onward 76 = .ok (.return_, 1) := by decide +kernel
set_option maxRecDepth 20000 in
theorem ggX10_merge_X10_begin : GoodIn wsX10_merge wsX10_begin := goodIn_r _ [14, 7, 15, 16, 113, 114, 115, 116, 117, 118, 119, 120, 121, 122, 123, 124, 125, 126, 127, 128, 129, 130, 131, 132, 133, 134, 135, 136, 137, 138, 139, 140, 141, 142, 143, 144, 145, 146, 147, 148, 149, 150, 151, 152, 153, 154, 155, 156, 157, 158, 159, 160, 161, 162, 163, 164, 165, 166, 167, 168, 169] (by decide +kernel) (by decide +kernel)
set_option maxRecDepth 20000 in
theorem gX10_merge_X10_begin : GoodIn wsX10_merge (wsV RX10 209 RX10 yX10_begin wsX10_begin) := goodIn_app (goodIn_of _ (by decide +kernel)) ggX10_merge_X10_begin
set_option maxRecDepth 20000 in
theorem ggX10_merge_X10_beginRun : GoodIn wsX10_merge wsX10_beginRun := goodIn_r _ [20, 9, 21, 22, 23, 24, 25, 13, 26, 8, 2, 27, 6, 113, 114, 115, 116, 117, 118, 119, 120, 121, 122, 123, 124, 125, 126, 127, 128, 129, 130, 131, 132, 133, 134, 135, 136, 137, 138, 139, 140, 141, 142, 143, 144, 145, 146, 147, 148, 149, 150, 151, 152, 153, 154, 155, 156, 157, 158, 159, 160, 161, 162, 163, 164, 165, 166, 167, 168, 169] (by decide +kernel) (by decide +kernel)
set_option maxRecDepth 20000 in
theorem gX10_merge_X10_beginRun : GoodIn wsX10_merge (wsV RX10 232 RX10 yX10_beginRun wsX10_beginRun) := goodIn_app (goodIn_of _ (by decide +kernel)) ggX10_merge_X10_beginRun
set_option maxRecDepth 20000 in
theorem ggX10_merge_X10_read : GoodIn wsX10_merge wsX10_read := goodIn_r _ [31, 7, 32, 33, 34, 35, 13, 36, 37, 38, 39, 113, 114, 115, 116, 117, 118, 119, 120, 121, 122, 123, 124, 125, 126, 127, 128, 129, 130, 131, 132, 133, 134, 135, 136, 137, 138, 139, 140, 141, 142, 143, 144, 145, 146, 147, 148, 149, 150, 151, 152, 153, 154, 155, 156, 157, 158, 159, 160, 161, 162, 163, 164, 165, 166, 167, 168, 169] (by decide +kernel) (by decide +kernel)
set_option maxRecDepth 20000 in
theorem gX10_merge_X10_read : GoodIn wsX10_merge (wsV RX10 229 RX10 yX10_read wsX10_read) := goodIn_app (goodIn_of _ (by decide +kernel)) ggX10_merge_X10_read
set_option maxRecDepth 20000 in
theorem ggX10_merge_X10_firstOf : GoodIn wsX10_merge wsX10_firstOf := goodIn_r _ [43, 7, 5, 44, 45, 46, 13, 47, 1, 4, 48, 49, 50, 51, 52, 53, 54, 55, 56, 57, 58, 59, 60, 113, 114, 115, 116, 117, 118, 119, 120, 121, 122, 123, 124, 125, 126, 127, 128, 129, 130, 131, 132, 133, 134, 135, 136, 137, 138, 139, 140, 141, 142, 143, 144, 145, 146, 147, 148, 149, 150, 151, 152, 153, 154, 155, 156, 157, 158, 159, 160, 161, 162, 163, 164, 165, 166, 167, 168, 169] (by decide +kernel) (by decide +kernel)
set_option maxRecDepth 20000 in
theorem gX10_merge_X10_firstOf : GoodIn wsX10_merge (wsV RX10 285 RX10 yX10_firstOf wsX10_firstOf) := goodIn_app (goodIn_of _ (by decide +kernel)) ggX10_merge_X10_firstOf
set_option maxRecDepth 20000 in
theorem ggX10_merge_X10_cellOf : GoodIn wsX10_merge wsX10_cellOf := goodIn_r _ [47, 1, 4, 48, 113, 114, 115, 116, 117, 118, 119, 120, 121, 122, 123, 124, 125, 126, 127, 128, 129, 130, 131, 132, 133, 134, 135, 136, 137, 138, 139, 140, 141, 142, 143, 144, 145, 146, 147, 148, 149, 150, 151, 152, 153, 154, 155, 156, 157, 158, 159, 160, 161, 162, 163, 164, 165, 166, 167, 168, 169] (by decide +kernel) (by decide +kernel)
set_option maxRecDepth 20000 in
theorem gX10_merge_X10_cellOf : GoodIn wsX10_merge (wsV RX10 282 RX10 yX10_cellOf wsX10_cellOf) := goodIn_app (goodIn_of _ (by decide +kernel)) ggX10_merge_X10_cellOf
set_option maxRecDepth 20000 in
theorem ggX10_merge_X10_out : GoodIn wsX10_merge wsX10_out := goodIn_r _ [64, 65, 53, 22, 66, 48, 67, 68, 69, 13, 70, 71, 21, 72, 73, 74, 75, 76, 77, 78, 79, 80, 9, 81, 82, 83, 84, 15, 85, 7, 86, 16, 87, 88, 33, 34, 35, 36, 37, 38, 39, 89, 90, 91, 92, 2, 27, 6, 54, 55, 56, 57, 58, 59, 60, 93, 94, 95, 96, 113, 114, 115, 116, 117, 118, 119, 120, 121, 122, 123, 124, 125, 126, 127, 128, 129, 130, 131, 132, 133, 134, 135, 136, 137, 138, 139, 140, 141, 142, 143, 144, 145, 146, 147, 148, 149, 150, 151, 152, 153, 154, 155, 156, 157, 158, 159, 160, 161, 162, 163, 164, 165, 166, 167, 168, 169] (by decide +kernel) (by decide +kernel)
set_option maxRecDepth 20000 in
theorem gX10_merge_X10_out : GoodIn wsX10_merge (wsV RX10 257 RX10 yX10_out wsX10_out) := goodIn_app (goodIn_of _ (by decide +kernel)) ggX10_merge_X10_out
set_option maxRecDepth 20000 in
theorem ggX10_merge_X10_onward : GoodIn wsX10_merge wsX10_onward := goodIn_r _ [100, 5, 4, 1, 87, 72, 73, 74, 13, 75, 76, 48, 28, 29, 30, 31, 7, 32, 33, 34, 35, 36, 37, 38, 39, 113, 114, 115, 116, 117, 118, 119, 120, 121, 122, 123, 124, 125, 126, 127, 128, 129, 130, 131, 132, 133, 134, 135, 136, 137, 138, 139, 140, 141, 142, 143, 144, 145, 146, 147, 148, 149, 150, 151, 152, 153, 154, 155, 156, 157, 158, 159, 160, 161, 162, 163, 164, 165, 166, 167, 168, 169] (by decide +kernel) (by decide +kernel)
set_option maxRecDepth 20000 in
theorem gX10_merge_X10_onward : GoodIn wsX10_merge (wsV RX10 288 RX10 yX10_onward wsX10_onward) := goodIn_app (goodIn_of _ (by decide +kernel)) ggX10_merge_X10_onward
set_option maxRecDepth 20000 in
theorem ggX10_merge_X10_endRun : GoodIn wsX10_merge wsX10_endRun := goodIn_r _ [104, 22, 66, 21, 67, 68, 69, 13, 70, 48, 71, 72, 73, 74, 75, 76, 77, 78, 79, 80, 9, 81, 82, 83, 84, 15, 85, 7, 86, 16, 87, 88, 53, 33, 34, 35, 36, 37, 38, 39, 89, 90, 91, 92, 2, 27, 6, 113, 114, 115, 116, 117, 118, 119, 120, 121, 122, 123, 124, 125, 126, 127, 128, 129, 130, 131, 132, 133, 134, 135, 136, 137, 138, 139, 140, 141, 142, 143, 144, 145, 146, 147, 148, 149, 150, 151, 152, 153, 154, 155, 156, 157, 158, 159, 160, 161, 162, 163, 164, 165, 166, 167, 168, 169] (by decide +kernel) (by decide +kernel)
set_option maxRecDepth 20000 in
theorem gX10_merge_X10_endRun : GoodIn wsX10_merge (wsV RX10 260 RX10 yX10_endRun wsX10_endRun) := goodIn_app (goodIn_of _ (by decide +kernel)) ggX10_merge_X10_endRun
set_option maxRecDepth 20000 in
theorem ggX10_merge_X10_giveBack : GoodIn wsX10_merge wsX10_giveBack := goodIn_r _ [108, 15, 85, 16, 113, 114, 115, 116, 117, 118, 119, 120, 121, 122, 123, 124, 125, 126, 127, 128, 129, 130, 131, 132, 133, 134, 135, 136, 137, 138, 139, 140, 141, 142, 143, 144, 145, 146, 147, 148, 149, 150, 151, 152, 153, 154, 155, 156, 157, 158, 159, 160, 161, 162, 163, 164, 165, 166, 167, 168, 169] (by decide +kernel) (by decide +kernel)
set_option maxRecDepth 20000 in
theorem gX10_merge_X10_giveBack : GoodIn wsX10_merge (wsV RX10 272 RX10 yX10_giveBack wsX10_giveBack) := goodIn_app (goodIn_of _ (by decide +kernel)) ggX10_merge_X10_giveBack
set_option maxRecDepth 20000 in
theorem ggX10_merge_X10_free : GoodIn wsX10_merge wsX10_free := goodIn_r _ [112, 2, 85, 87, 27, 6, 8, 113, 114, 115, 116, 117, 118, 119, 120, 121, 122, 123, 124, 125, 126, 127, 128, 129, 130, 131, 132, 133, 134, 135, 136, 137, 138, 139, 140, 141, 142, 143, 144, 145, 146, 147, 148, 149, 150, 151, 152, 153, 154, 155, 156, 157, 158, 159, 160, 161, 162, 163, 164, 165, 166, 167, 168, 169] (by decide +kernel) (by decide +kernel)
set_option maxRecDepth 20000 in
theorem gX10_merge_X10_free : GoodIn wsX10_merge (wsV RX10 279 RX10 yX10_free wsX10_free) := goodIn_app (goodIn_of _ (by decide +kernel)) ggX10_merge_X10_free
theorem dX10_merge_0 : decode cX10_merge 0 = .ok (.aload_n 0, 1) := by decide +kernel
theorem dX10_merge_1 : decode cX10_merge 1 = .ok (.invokevirtual 209, 3) := by decide +kernel
theorem dX10_merge_4 : decode cX10_merge 4 = .ok (.aload_n 0, 1) := by decide +kernel
theorem dX10_merge_5 : decode cX10_merge 5 = .ok (.invokevirtual 232, 3) := by decide +kernel
theorem dX10_merge_8 : decode cX10_merge 8 = .ok (.iconst 0, 1) := by decide +kernel
theorem dX10_merge_9 : decode cX10_merge 9 = .ok (.istore_n 2, 1) := by decide +kernel
theorem dX10_merge_10 : decode cX10_merge 10 = .ok (.iload_n 2, 1) := by decide +kernel
theorem dX10_merge_11 : decode cX10_merge 11 = .ok (.iload_n 1, 1) := by decide +kernel
theorem dX10_merge_12 : decode cX10_merge 12 = .ok (.if_icmp .ge 60, 3) := by decide +kernel
theorem dX10_merge_15 : decode cX10_merge 15 = .ok (.aload_n 0, 1) := by decide +kernel
theorem dX10_merge_16 : decode cX10_merge 16 = .ok (.getfield 69, 3) := by decide +kernel
theorem dX10_merge_19 : decode cX10_merge 19 = .ok (.iload_n 2, 1) := by decide +kernel
theorem dX10_merge_20 : decode cX10_merge 20 = .ok (.aload_n 0, 1) := by decide +kernel
theorem dX10_merge_21 : decode cX10_merge 21 = .ok (.getfield 24, 3) := by decide +kernel
theorem dX10_merge_24 : decode cX10_merge 24 = .ok (.aload_n 0, 1) := by decide +kernel
theorem dX10_merge_25 : decode cX10_merge 25 = .ok (.getfield 66, 3) := by decide +kernel
theorem dX10_merge_28 : decode cX10_merge 28 = .ok (.iload_n 2, 1) := by decide +kernel
theorem dX10_merge_29 : decode cX10_merge 29 = .ok (.iaload, 1) := by decide +kernel
theorem dX10_merge_30 : decode cX10_merge 30 = .ok (.iaload, 1) := by decide +kernel
theorem dX10_merge_31 : decode cX10_merge 31 = .ok (.iastore, 1) := by decide +kernel
theorem dX10_merge_32 : decode cX10_merge 32 = .ok (.aload_n 0, 1) := by decide +kernel
theorem dX10_merge_33 : decode cX10_merge 33 = .ok (.getfield 72, 3) := by decide +kernel
theorem dX10_merge_36 : decode cX10_merge 36 = .ok (.iload_n 2, 1) := by decide +kernel
theorem dX10_merge_37 : decode cX10_merge 37 = .ok (.iconst 0, 1) := by decide +kernel
theorem dX10_merge_38 : decode cX10_merge 38 = .ok (.iastore, 1) := by decide +kernel
theorem dX10_merge_39 : decode cX10_merge 39 = .ok (.aload_n 0, 1) := by decide +kernel
theorem dX10_merge_40 : decode cX10_merge 40 = .ok (.getfield 75, 3) := by decide +kernel
theorem dX10_merge_43 : decode cX10_merge 43 = .ok (.iload_n 2, 1) := by decide +kernel
theorem dX10_merge_44 : decode cX10_merge 44 = .ok (.aload_n 0, 1) := by decide +kernel
theorem dX10_merge_45 : decode cX10_merge 45 = .ok (.getfield 30, 3) := by decide +kernel
theorem dX10_merge_48 : decode cX10_merge 48 = .ok (.aload_n 0, 1) := by decide +kernel
theorem dX10_merge_49 : decode cX10_merge 49 = .ok (.getfield 66, 3) := by decide +kernel
theorem dX10_merge_52 : decode cX10_merge 52 = .ok (.iload_n 2, 1) := by decide +kernel
theorem dX10_merge_53 : decode cX10_merge 53 = .ok (.iaload, 1) := by decide +kernel
theorem dX10_merge_54 : decode cX10_merge 54 = .ok (.iaload, 1) := by decide +kernel
theorem dX10_merge_55 : decode cX10_merge 55 = .ok (.iastore, 1) := by decide +kernel
theorem dX10_merge_56 : decode cX10_merge 56 = .ok (.aload_n 0, 1) := by decide +kernel
theorem dX10_merge_57 : decode cX10_merge 57 = .ok (.aload_n 0, 1) := by decide +kernel
theorem dX10_merge_58 : decode cX10_merge 58 = .ok (.getfield 69, 3) := by decide +kernel
theorem dX10_merge_61 : decode cX10_merge 61 = .ok (.iload_n 2, 1) := by decide +kernel
theorem dX10_merge_62 : decode cX10_merge 62 = .ok (.iaload, 1) := by decide +kernel
theorem dX10_merge_63 : decode cX10_merge 63 = .ok (.invokevirtual 229, 3) := by decide +kernel
theorem dX10_merge_66 : decode cX10_merge 66 = .ok (.iinc 2 1, 3) := by decide +kernel
theorem dX10_merge_69 : decode cX10_merge 69 = .ok (.goto (-59), 3) := by decide +kernel
theorem dX10_merge_72 : decode cX10_merge 72 = .ok (.aload_n 0, 1) := by decide +kernel
theorem dX10_merge_73 : decode cX10_merge 73 = .ok (.iload_n 1, 1) := by decide +kernel
theorem dX10_merge_74 : decode cX10_merge 74 = .ok (.invokevirtual 285, 3) := by decide +kernel
theorem dX10_merge_77 : decode cX10_merge 77 = .ok (.istore_n 2, 1) := by decide +kernel
theorem dX10_merge_78 : decode cX10_merge 78 = .ok (.iload_n 2, 1) := by decide +kernel
theorem dX10_merge_79 : decode cX10_merge 79 = .ok (.ifCond .lt 26, 3) := by decide +kernel
theorem dX10_merge_82 : decode cX10_merge 82 = .ok (.aload_n 0, 1) := by decide +kernel
theorem dX10_merge_83 : decode cX10_merge 83 = .ok (.aload_n 0, 1) := by decide +kernel
theorem dX10_merge_84 : decode cX10_merge 84 = .ok (.iload_n 2, 1) := by decide +kernel
theorem dX10_merge_85 : decode cX10_merge 85 = .ok (.invokevirtual 282, 3) := by decide +kernel
theorem dX10_merge_88 : decode cX10_merge 88 = .ok (.invokevirtual 257, 3) := by decide +kernel
theorem dX10_merge_91 : decode cX10_merge 91 = .ok (.aload_n 0, 1) := by decide +kernel
theorem dX10_merge_92 : decode cX10_merge 92 = .ok (.iload_n 2, 1) := by decide +kernel
theorem dX10_merge_93 : decode cX10_merge 93 = .ok (.invokevirtual 288, 3) := by decide +kernel
theorem dX10_merge_96 : decode cX10_merge 96 = .ok (.aload_n 0, 1) := by decide +kernel
theorem dX10_merge_97 : decode cX10_merge 97 = .ok (.iload_n 1, 1) := by decide +kernel
theorem dX10_merge_98 : decode cX10_merge 98 = .ok (.invokevirtual 285, 3) := by decide +kernel
theorem dX10_merge_101 : decode cX10_merge 101 = .ok (.istore_n 2, 1) := by decide +kernel
theorem dX10_merge_102 : decode cX10_merge 102 = .ok (.goto (-24), 3) := by decide +kernel
theorem dX10_merge_105 : decode cX10_merge 105 = .ok (.aload_n 0, 1) := by decide +kernel
theorem dX10_merge_106 : decode cX10_merge 106 = .ok (.getfield 134, 3) := by decide +kernel
theorem dX10_merge_109 : decode cX10_merge 109 = .ok (.ifCond .ne 7, 3) := by decide +kernel
theorem dX10_merge_112 : decode cX10_merge 112 = .ok (.aload_n 0, 1) := by decide +kernel
theorem dX10_merge_113 : decode cX10_merge 113 = .ok (.invokevirtual 260, 3) := by decide +kernel
theorem dX10_merge_116 : decode cX10_merge 116 = .ok (.aload_n 0, 1) := by decide +kernel
theorem dX10_merge_117 : decode cX10_merge 117 = .ok (.getfield 134, 3) := by decide +kernel
theorem dX10_merge_120 : decode cX10_merge 120 = .ok (.ifCond .le 19, 3) := by decide +kernel
theorem dX10_merge_123 : decode cX10_merge 123 = .ok (.aload_n 0, 1) := by decide +kernel
theorem dX10_merge_124 : decode cX10_merge 124 = .ok (.invokevirtual 272, 3) := by decide +kernel
theorem dX10_merge_127 : decode cX10_merge 127 = .ok (.aload_n 0, 1) := by decide +kernel
theorem dX10_merge_128 : decode cX10_merge 128 = .ok (.getfield 33, 3) := by decide +kernel
theorem dX10_merge_131 : decode cX10_merge 131 = .ok (.aload_n 0, 1) := by decide +kernel
theorem dX10_merge_132 : decode cX10_merge 132 = .ok (.getfield 161, 3) := by decide +kernel
theorem dX10_merge_135 : decode cX10_merge 135 = .ok (.iconst 0, 1) := by decide +kernel
theorem dX10_merge_136 : decode cX10_merge 136 = .ok (.bastore, 1) := by decide +kernel
theorem dX10_merge_137 : decode cX10_merge 137 = .ok (.iconst (-1), 1) := by decide +kernel
theorem dX10_merge_138 : decode cX10_merge 138 = .ok (.ireturn, 1) := by decide +kernel
theorem dX10_merge_139 : decode cX10_merge 139 = .ok (.iconst 0, 1) := by decide +kernel
theorem dX10_merge_140 : decode cX10_merge 140 = .ok (.istore_n 3, 1) := by decide +kernel
theorem dX10_merge_141 : decode cX10_merge 141 = .ok (.iload_n 3, 1) := by decide +kernel
theorem dX10_merge_142 : decode cX10_merge 142 = .ok (.iload_n 1, 1) := by decide +kernel
theorem dX10_merge_143 : decode cX10_merge 143 = .ok (.if_icmp .ge 19, 3) := by decide +kernel
theorem dX10_merge_146 : decode cX10_merge 146 = .ok (.aload_n 0, 1) := by decide +kernel
theorem dX10_merge_147 : decode cX10_merge 147 = .ok (.aload_n 0, 1) := by decide +kernel
theorem dX10_merge_148 : decode cX10_merge 148 = .ok (.getfield 66, 3) := by decide +kernel
theorem dX10_merge_151 : decode cX10_merge 151 = .ok (.iload_n 3, 1) := by decide +kernel
theorem dX10_merge_152 : decode cX10_merge 152 = .ok (.iaload, 1) := by decide +kernel
theorem dX10_merge_153 : decode cX10_merge 153 = .ok (.invokevirtual 279, 3) := by decide +kernel
theorem dX10_merge_156 : decode cX10_merge 156 = .ok (.iinc 3 1, 3) := by decide +kernel
theorem dX10_merge_159 : decode cX10_merge 159 = .ok (.goto (-18), 3) := by decide +kernel
theorem dX10_merge_162 : decode cX10_merge 162 = .ok (.aload_n 0, 1) := by decide +kernel
theorem dX10_merge_163 : decode cX10_merge 163 = .ok (.getfield 161, 3) := by decide +kernel
theorem dX10_merge_166 : decode cX10_merge 166 = .ok (.ireturn, 1) := by decide +kernel
set_option maxRecDepth 20000 in
theorem ggX10_mergeRow_X10_merge : GoodIn wsX10_mergeRow wsX10_merge := goodIn_r _ [8, 9, 10, 1, 11, 12, 13, 14, 15, 16, 17, 18, 19, 7, 20, 21, 22, 23, 24, 25, 26, 27, 28, 29, 30, 31, 32, 33, 34, 35, 36, 37, 38, 39, 40, 41, 42, 43, 44, 45, 46, 47, 48, 49, 50, 51, 52, 53, 54, 55, 56, 57, 58, 59, 60, 61, 62, 63, 64, 65, 66, 67, 68, 69, 70, 71, 72, 73, 74, 75, 76, 77, 78, 79, 80, 81, 82, 83, 84, 85, 86, 87, 88, 89, 90, 91, 92, 93, 94, 95, 96, 97, 98, 99, 100, 101, 102, 103, 104, 105, 106, 107, 108, 109, 110, 111, 112, 113, 114, 115, 116, 117, 118, 119, 120, 121, 122, 123, 124, 125, 126, 127, 128, 129, 130, 131, 132, 133, 134, 135, 136, 137, 138, 139, 140, 141, 142, 143, 144, 145, 146, 147, 148, 149, 150, 151, 152, 153, 154, 155, 156, 157, 158, 159, 160, 161, 162, 163, 164, 165, 166, 167, 168, 169, 170, 171, 172, 173, 174, 175] (by decide +kernel) (by decide +kernel)
set_option maxRecDepth 20000 in
theorem gX10_mergeRow_X10_merge : GoodIn wsX10_mergeRow (wsV RX10 291 RX10 yX10_merge wsX10_merge) := goodIn_app (goodIn_of _ (by decide +kernel)) ggX10_mergeRow_X10_merge
theorem dX10_mergeRow_0 : decode cX10_mergeRow 0 = .ok (.iconst 0, 1) := by decide +kernel
theorem dX10_mergeRow_1 : decode cX10_mergeRow 1 = .ok (.istore_n 3, 1) := by decide +kernel
theorem dX10_mergeRow_2 : decode cX10_mergeRow 2 = .ok (.iload_n 3, 1) := by decide +kernel
theorem dX10_mergeRow_3 : decode cX10_mergeRow 3 = .ok (.iload_n 2, 1) := by decide +kernel
theorem dX10_mergeRow_4 : decode cX10_mergeRow 4 = .ok (.if_icmp .ge 23, 3) := by decide +kernel
theorem dX10_mergeRow_7 : decode cX10_mergeRow 7 = .ok (.aload_n 0, 1) := by decide +kernel
theorem dX10_mergeRow_8 : decode cX10_mergeRow 8 = .ok (.getfield 66, 3) := by decide +kernel
theorem dX10_mergeRow_11 : decode cX10_mergeRow 11 = .ok (.iload_n 3, 1) := by decide +kernel
theorem dX10_mergeRow_12 : decode cX10_mergeRow 12 = .ok (.aload_n 0, 1) := by decide +kernel
theorem dX10_mergeRow_13 : decode cX10_mergeRow 13 = .ok (.getfield 36, 3) := by decide +kernel
theorem dX10_mergeRow_16 : decode cX10_mergeRow 16 = .ok (.iload_n 1, 1) := by decide +kernel
theorem dX10_mergeRow_17 : decode cX10_mergeRow 17 = .ok (.iload_n 3, 1) := by decide +kernel
theorem dX10_mergeRow_18 : decode cX10_mergeRow 18 = .ok (.iadd, 1) := by decide +kernel
theorem dX10_mergeRow_19 : decode cX10_mergeRow 19 = .ok (.iaload, 1) := by decide +kernel
theorem dX10_mergeRow_20 : decode cX10_mergeRow 20 = .ok (.iastore, 1) := by decide +kernel
theorem dX10_mergeRow_21 : decode cX10_mergeRow 21 = .ok (.iinc 3 1, 3) := by decide +kernel
theorem dX10_mergeRow_24 : decode cX10_mergeRow 24 = .ok (.goto (-22), 3) := by decide +kernel
theorem dX10_mergeRow_27 : decode cX10_mergeRow 27 = .ok (.aload_n 0, 1) := by decide +kernel
theorem dX10_mergeRow_28 : decode cX10_mergeRow 28 = .ok (.iload_n 2, 1) := by decide +kernel
theorem dX10_mergeRow_29 : decode cX10_mergeRow 29 = .ok (.invokevirtual 291, 3) := by decide +kernel
theorem dX10_mergeRow_32 : decode cX10_mergeRow 32 = .ok (.istore_n 3, 1) := by decide +kernel
theorem dX10_mergeRow_33 : decode cX10_mergeRow 33 = .ok (.iload_n 3, 1) := by decide +kernel
theorem dX10_mergeRow_34 : decode cX10_mergeRow 34 = .ok (.iconst (-1), 1) := by decide +kernel
theorem dX10_mergeRow_35 : decode cX10_mergeRow 35 = .ok (.if_icmp .ne 4, 3) := by decide +kernel
theorem dX10_mergeRow_38 : decode cX10_mergeRow 38 = .ok (.return_, 1) := by decide +kernel
theorem dX10_mergeRow_39 : decode cX10_mergeRow 39 = .ok (.aload_n 0, 1) := by decide +kernel
theorem dX10_mergeRow_40 : decode cX10_mergeRow 40 = .ok (.getfield 36, 3) := by decide +kernel
theorem dX10_mergeRow_43 : decode cX10_mergeRow 43 = .ok (.iload_n 1, 1) := by decide +kernel
theorem dX10_mergeRow_44 : decode cX10_mergeRow 44 = .ok (.iload_n 3, 1) := by decide +kernel
theorem dX10_mergeRow_45 : decode cX10_mergeRow 45 = .ok (.iastore, 1) := by decide +kernel
theorem dX10_mergeRow_46 : decode cX10_mergeRow 46 = .ok (.iload_n 1, 1) := by decide +kernel
theorem dX10_mergeRow_47 : decode cX10_mergeRow 47 = .ok (.iload_n 2, 1) := by decide +kernel
theorem dX10_mergeRow_48 : decode cX10_mergeRow 48 = .ok (.iadd, 1) := by decide +kernel
theorem dX10_mergeRow_49 : decode cX10_mergeRow 49 = .ok (.istore 4, 2) := by decide +kernel
theorem dX10_mergeRow_51 : decode cX10_mergeRow 51 = .ok (.iload 4, 2) := by decide +kernel
theorem dX10_mergeRow_53 : decode cX10_mergeRow 53 = .ok (.aload_n 0, 1) := by decide +kernel
theorem dX10_mergeRow_54 : decode cX10_mergeRow 54 = .ok (.getfield 200, 3) := by decide +kernel
theorem dX10_mergeRow_57 : decode cX10_mergeRow 57 = .ok (.if_icmp .ge 27, 3) := by decide +kernel
theorem dX10_mergeRow_60 : decode cX10_mergeRow 60 = .ok (.aload_n 0, 1) := by decide +kernel
theorem dX10_mergeRow_61 : decode cX10_mergeRow 61 = .ok (.getfield 36, 3) := by decide +kernel
theorem dX10_mergeRow_64 : decode cX10_mergeRow 64 = .ok (.iload 4, 2) := by decide +kernel
theorem dX10_mergeRow_66 : decode cX10_mergeRow 66 = .ok (.iload_n 2, 1) := by decide +kernel
theorem dX10_mergeRow_67 : decode cX10_mergeRow 67 = .ok (.isub, 1) := by decide +kernel
theorem dX10_mergeRow_68 : decode cX10_mergeRow 68 = .ok (.iconst 1, 1) := by decide +kernel
theorem dX10_mergeRow_69 : decode cX10_mergeRow 69 = .ok (.iadd, 1) := by decide +kernel
theorem dX10_mergeRow_70 : decode cX10_mergeRow 70 = .ok (.aload_n 0, 1) := by decide +kernel
theorem dX10_mergeRow_71 : decode cX10_mergeRow 71 = .ok (.getfield 36, 3) := by decide +kernel
theorem dX10_mergeRow_74 : decode cX10_mergeRow 74 = .ok (.iload 4, 2) := by decide +kernel
theorem dX10_mergeRow_76 : decode cX10_mergeRow 76 = .ok (.iaload, 1) := by decide +kernel
theorem dX10_mergeRow_77 : decode cX10_mergeRow 77 = .ok (.iastore, 1) := by decide +kernel
theorem dX10_mergeRow_78 : decode cX10_mergeRow 78 = .ok (.iinc 4 1, 3) := by decide +kernel
theorem dX10_mergeRow_81 : decode cX10_mergeRow 81 = .ok (.goto (-30), 3) := by decide +kernel
theorem dX10_mergeRow_84 : decode cX10_mergeRow 84 = .ok (.aload_n 0, 1) := by decide +kernel
theorem dX10_mergeRow_85 : decode cX10_mergeRow 85 = .ok (.dup, 1) := by decide +kernel
theorem dX10_mergeRow_86 : decode cX10_mergeRow 86 = .ok (.getfield 200, 3) := by decide +kernel
theorem dX10_mergeRow_89 : decode cX10_mergeRow 89 = .ok (.iload_n 2, 1) := by decide +kernel
theorem dX10_mergeRow_90 : decode cX10_mergeRow 90 = .ok (.iconst 1, 1) := by decide +kernel
theorem dX10_mergeRow_91 : decode cX10_mergeRow 91 = .ok (.isub, 1) := by decide +kernel
theorem dX10_mergeRow_92 : decode cX10_mergeRow 92 = .ok (.isub, 1) := by decide +kernel
theorem dX10_mergeRow_93 : decode cX10_mergeRow 93 = .ok (.putfield 200, 3) := by decide +kernel
theorem dX10_mergeRow_96 : decode cX10_mergeRow 96 = .ok (.return_, 1) := by decide +kernel
set_option maxRecDepth 20000 in
theorem ggX10_pass_X10_isIn : GoodIn wsX10_pass wsX10_isIn := goodIn_r _ [8] (by decide +kernel) (by decide +kernel)
set_option maxRecDepth 20000 in
theorem gX10_pass_X10_isIn : GoodIn wsX10_pass (va_wsS RX10 193 yX10_isIn wsX10_isIn) := goodIn_app (goodIn_of _ (by decide +kernel)) ggX10_pass_X10_isIn
set_option maxRecDepth 20000 in
theorem ggX10_pass_X10_mergeRow : GoodIn wsX10_pass wsX10_mergeRow := goodIn_r _ [12, 13, 14, 3, 15, 16, 17, 7, 18, 19, 20, 21, 22, 23, 4, 24, 25, 26, 27, 28, 29, 30, 31, 32, 33, 34, 35, 36, 37, 38, 39, 40, 41, 42, 43, 44, 45, 46, 47, 48, 49, 50, 51, 52, 53, 54, 55, 56, 57, 58, 59, 60, 61, 62, 63, 64, 65, 66, 67, 68, 69, 70, 71, 72, 73, 74, 75, 76, 77, 78, 79, 80, 81, 82, 83, 84, 85, 86, 87, 88, 89, 90, 91, 92, 93, 94, 95, 96, 97, 98, 99, 100, 101, 102, 103, 104, 105, 106, 107, 108, 109, 110, 111, 112, 113, 114, 115, 116, 117, 118, 119, 120, 121, 122, 123, 124, 125, 126, 127, 132, 133, 134, 135, 136, 137, 138, 139, 140, 141, 142, 143, 144, 145, 146, 147, 148, 149, 150, 151, 152, 153, 154, 155, 156, 157, 158, 159, 160, 161, 162, 163, 164, 165, 166, 167, 168, 169, 170, 171, 172, 173, 174, 175, 176, 177, 178, 179, 180, 181, 182, 183, 184, 185, 186, 187, 188] (by decide +kernel) (by decide +kernel)
set_option maxRecDepth 20000 in
theorem gX10_pass_X10_mergeRow : GoodIn wsX10_pass (wsV RX10 294 RX10 yX10_mergeRow wsX10_mergeRow) := goodIn_app (goodIn_of _ (by decide +kernel)) ggX10_pass_X10_mergeRow
set_option maxRecDepth 20000 in
theorem ggX10_pass_X10_ended : GoodIn wsX10_pass wsX10_ended := goodIn_r _ [131, 4, 1, 2, 3, 132, 133, 134, 135, 136, 137, 138, 139, 140, 141, 142, 143, 144, 145, 146, 147, 148, 149, 150, 151, 152, 153, 154, 155, 156, 157, 158, 159, 160, 161, 162, 163, 164, 165, 166, 167, 168, 169, 170, 171, 172, 173, 174, 175, 176, 177, 178, 179, 180, 181, 182, 183, 184, 185, 186, 187, 188] (by decide +kernel) (by decide +kernel)
set_option maxRecDepth 20000 in
theorem gX10_pass_X10_ended : GoodIn wsX10_pass (wsV RX10 275 RX10 yX10_ended wsX10_ended) := goodIn_app (goodIn_of _ (by decide +kernel)) ggX10_pass_X10_ended
theorem dX10_pass_0 : decode cX10_pass 0 = .ok (.aload_n 0, 1) := by decide +kernel
theorem dX10_pass_1 : decode cX10_pass 1 = .ok (.iload_n 1, 1) := by decide +kernel
theorem dX10_pass_2 : decode cX10_pass 2 = .ok (.iconst 2, 1) := by decide +kernel
theorem dX10_pass_3 : decode cX10_pass 3 = .ok (.bipush 8, 2) := by decide +kernel
theorem dX10_pass_5 : decode cX10_pass 5 = .ok (.invokestatic 193, 3) := by decide +kernel
theorem dX10_pass_8 : decode cX10_pass 8 = .ok (.ifCond .ne 7, 3) := by decide +kernel
theorem dX10_pass_11 : decode cX10_pass 11 = .ok (.iconst 1, 1) := by decide +kernel
theorem dX10_pass_12 : decode cX10_pass 12 = .ok (.goto 15, 3) := by decide +kernel
theorem dX10_pass_15 : decode cX10_pass 15 = .ok (.aload_n 0, 1) := by decide +kernel
theorem dX10_pass_16 : decode cX10_pass 16 = .ok (.getfield 197, 3) := by decide +kernel
theorem dX10_pass_19 : decode cX10_pass 19 = .ok (.ifCond .eq 7, 3) := by decide +kernel
theorem dX10_pass_22 : decode cX10_pass 22 = .ok (.iconst 2, 1) := by decide +kernel
theorem dX10_pass_23 : decode cX10_pass 23 = .ok (.goto 4, 3) := by decide +kernel
theorem dX10_pass_26 : decode cX10_pass 26 = .ok (.iconst 0, 1) := by decide +kernel
theorem dX10_pass_27 : decode cX10_pass 27 = .ok (.putfield 125, 3) := by decide +kernel
theorem dX10_pass_30 : decode cX10_pass 30 = .ok (.aload_n 0, 1) := by decide +kernel
theorem dX10_pass_31 : decode cX10_pass 31 = .ok (.getfield 125, 3) := by decide +kernel
theorem dX10_pass_34 : decode cX10_pass 34 = .ok (.ifCond .le 5, 3) := by decide +kernel
theorem dX10_pass_37 : decode cX10_pass 37 = .ok (.iconst 0, 1) := by decide +kernel
theorem dX10_pass_38 : decode cX10_pass 38 = .ok (.ireturn, 1) := by decide +kernel
theorem dX10_pass_39 : decode cX10_pass 39 = .ok (.aload_n 0, 1) := by decide +kernel
theorem dX10_pass_40 : decode cX10_pass 40 = .ok (.getfield 200, 3) := by decide +kernel
theorem dX10_pass_43 : decode cX10_pass 43 = .ok (.istore_n 2, 1) := by decide +kernel
theorem dX10_pass_44 : decode cX10_pass 44 = .ok (.iconst 0, 1) := by decide +kernel
theorem dX10_pass_45 : decode cX10_pass 45 = .ok (.istore_n 3, 1) := by decide +kernel
theorem dX10_pass_46 : decode cX10_pass 46 = .ok (.aload_n 0, 1) := by decide +kernel
theorem dX10_pass_47 : decode cX10_pass 47 = .ok (.iconst 0, 1) := by decide +kernel
theorem dX10_pass_48 : decode cX10_pass 48 = .ok (.putfield 134, 3) := by decide +kernel
theorem dX10_pass_51 : decode cX10_pass 51 = .ok (.iload_n 2, 1) := by decide +kernel
theorem dX10_pass_52 : decode cX10_pass 52 = .ok (.ifCond .le 46, 3) := by decide +kernel
theorem dX10_pass_55 : decode cX10_pass 55 = .ok (.aload_n 0, 1) := by decide +kernel
theorem dX10_pass_56 : decode cX10_pass 56 = .ok (.getfield 134, 3) := by decide +kernel
theorem dX10_pass_59 : decode cX10_pass 59 = .ok (.ifCond .ne 39, 3) := by decide +kernel
theorem dX10_pass_62 : decode cX10_pass 62 = .ok (.iload_n 2, 1) := by decide +kernel
theorem dX10_pass_63 : decode cX10_pass 63 = .ok (.iload_n 1, 1) := by decide +kernel
theorem dX10_pass_64 : decode cX10_pass 64 = .ok (.if_icmp .ge 7, 3) := by decide +kernel
theorem dX10_pass_67 : decode cX10_pass 67 = .ok (.iload_n 2, 1) := by decide +kernel
theorem dX10_pass_68 : decode cX10_pass 68 = .ok (.goto 4, 3) := by decide +kernel
theorem dX10_pass_71 : decode cX10_pass 71 = .ok (.iload_n 1, 1) := by decide +kernel
theorem dX10_pass_72 : decode cX10_pass 72 = .ok (.istore 4, 2) := by decide +kernel
theorem dX10_pass_74 : decode cX10_pass 74 = .ok (.iload 4, 2) := by decide +kernel
theorem dX10_pass_76 : decode cX10_pass 76 = .ok (.iconst 1, 1) := by decide +kernel
theorem dX10_pass_77 : decode cX10_pass 77 = .ok (.if_icmp .le 10, 3) := by decide +kernel
theorem dX10_pass_80 : decode cX10_pass 80 = .ok (.aload_n 0, 1) := by decide +kernel
theorem dX10_pass_81 : decode cX10_pass 81 = .ok (.iload_n 3, 1) := by decide +kernel
theorem dX10_pass_82 : decode cX10_pass 82 = .ok (.iload 4, 2) := by decide +kernel
theorem dX10_pass_84 : decode cX10_pass 84 = .ok (.invokevirtual 294, 3) := by decide +kernel
theorem dX10_pass_87 : decode cX10_pass 87 = .ok (.iload_n 2, 1) := by decide +kernel
theorem dX10_pass_88 : decode cX10_pass 88 = .ok (.iload 4, 2) := by decide +kernel
theorem dX10_pass_90 : decode cX10_pass 90 = .ok (.isub, 1) := by decide +kernel
theorem dX10_pass_91 : decode cX10_pass 91 = .ok (.istore_n 2, 1) := by decide +kernel
theorem dX10_pass_92 : decode cX10_pass 92 = .ok (.iinc 3 1, 3) := by decide +kernel
theorem dX10_pass_95 : decode cX10_pass 95 = .ok (.goto (-44), 3) := by decide +kernel
theorem dX10_pass_98 : decode cX10_pass 98 = .ok (.aload_n 0, 1) := by decide +kernel
theorem dX10_pass_99 : decode cX10_pass 99 = .ok (.iconst 3, 1) := by decide +kernel
theorem dX10_pass_100 : decode cX10_pass 100 = .ok (.invokevirtual 275, 3) := by decide +kernel
theorem dX10_pass_103 : decode cX10_pass 103 = .ok (.ireturn, 1) := by decide +kernel
theorem dX10_choose_0 : decode cX10_choose 0 = .ok (.iconst 0, 1) := by decide +kernel
theorem dX10_choose_1 : decode cX10_choose 1 = .ok (.istore_n 2, 1) := by decide +kernel
theorem dX10_choose_2 : decode cX10_choose 2 = .ok (.iload_n 2, 1) := by decide +kernel
theorem dX10_choose_3 : decode cX10_choose 3 = .ok (.aload_n 0, 1) := by decide +kernel
theorem dX10_choose_4 : decode cX10_choose 4 = .ok (.getfield 200, 3) := by decide +kernel
theorem dX10_choose_7 : decode cX10_choose 7 = .ok (.if_icmp .ge 16, 3) := by decide +kernel
theorem dX10_choose_10 : decode cX10_choose 10 = .ok (.aload_n 0, 1) := by decide +kernel
theorem dX10_choose_11 : decode cX10_choose 11 = .ok (.getfield 78, 3) := by decide +kernel
theorem dX10_choose_14 : decode cX10_choose 14 = .ok (.iload_n 2, 1) := by decide +kernel
theorem dX10_choose_15 : decode cX10_choose 15 = .ok (.iconst 0, 1) := by decide +kernel
theorem dX10_choose_16 : decode cX10_choose 16 = .ok (.bastore, 1) := by decide +kernel
theorem dX10_choose_17 : decode cX10_choose 17 = .ok (.iinc 2 1, 3) := by decide +kernel
theorem dX10_choose_20 : decode cX10_choose 20 = .ok (.goto (-18), 3) := by decide +kernel
theorem dX10_choose_23 : decode cX10_choose 23 = .ok (.iconst 0, 1) := by decide +kernel
theorem dX10_choose_24 : decode cX10_choose 24 = .ok (.istore_n 2, 1) := by decide +kernel
theorem dX10_choose_25 : decode cX10_choose 25 = .ok (.iload_n 2, 1) := by decide +kernel
theorem dX10_choose_26 : decode cX10_choose 26 = .ok (.iload_n 1, 1) := by decide +kernel
theorem dX10_choose_27 : decode cX10_choose 27 = .ok (.if_icmp .ge 79, 3) := by decide +kernel
theorem dX10_choose_30 : decode cX10_choose 30 = .ok (.iconst (-1), 1) := by decide +kernel
theorem dX10_choose_31 : decode cX10_choose 31 = .ok (.istore_n 3, 1) := by decide +kernel
theorem dX10_choose_32 : decode cX10_choose 32 = .ok (.iconst 0, 1) := by decide +kernel
theorem dX10_choose_33 : decode cX10_choose 33 = .ok (.istore 4, 2) := by decide +kernel
theorem dX10_choose_35 : decode cX10_choose 35 = .ok (.iload 4, 2) := by decide +kernel
theorem dX10_choose_37 : decode cX10_choose 37 = .ok (.aload_n 0, 1) := by decide +kernel
theorem dX10_choose_38 : decode cX10_choose 38 = .ok (.getfield 200, 3) := by decide +kernel
theorem dX10_choose_41 : decode cX10_choose 41 = .ok (.if_icmp .ge 52, 3) := by decide +kernel
theorem dX10_choose_44 : decode cX10_choose 44 = .ok (.aload_n 0, 1) := by decide +kernel
theorem dX10_choose_45 : decode cX10_choose 45 = .ok (.getfield 78, 3) := by decide +kernel
theorem dX10_choose_48 : decode cX10_choose 48 = .ok (.iload 4, 2) := by decide +kernel
theorem dX10_choose_50 : decode cX10_choose 50 = .ok (.baload, 1) := by decide +kernel
theorem dX10_choose_51 : decode cX10_choose 51 = .ok (.ifCond .ne 36, 3) := by decide +kernel
theorem dX10_choose_54 : decode cX10_choose 54 = .ok (.iload_n 3, 1) := by decide +kernel
theorem dX10_choose_55 : decode cX10_choose 55 = .ok (.ifCond .lt 29, 3) := by decide +kernel
theorem dX10_choose_58 : decode cX10_choose 58 = .ok (.aload_n 0, 1) := by decide +kernel
theorem dX10_choose_59 : decode cX10_choose 59 = .ok (.getfield 30, 3) := by decide +kernel
theorem dX10_choose_62 : decode cX10_choose 62 = .ok (.aload_n 0, 1) := by decide +kernel
theorem dX10_choose_63 : decode cX10_choose 63 = .ok (.getfield 36, 3) := by decide +kernel
theorem dX10_choose_66 : decode cX10_choose 66 = .ok (.iload 4, 2) := by decide +kernel
theorem dX10_choose_68 : decode cX10_choose 68 = .ok (.iaload, 1) := by decide +kernel
theorem dX10_choose_69 : decode cX10_choose 69 = .ok (.iaload, 1) := by decide +kernel
theorem dX10_choose_70 : decode cX10_choose 70 = .ok (.aload_n 0, 1) := by decide +kernel
theorem dX10_choose_71 : decode cX10_choose 71 = .ok (.getfield 30, 3) := by decide +kernel
theorem dX10_choose_74 : decode cX10_choose 74 = .ok (.aload_n 0, 1) := by decide +kernel
theorem dX10_choose_75 : decode cX10_choose 75 = .ok (.getfield 36, 3) := by decide +kernel
theorem dX10_choose_78 : decode cX10_choose 78 = .ok (.iload_n 3, 1) := by decide +kernel
theorem dX10_choose_79 : decode cX10_choose 79 = .ok (.iaload, 1) := by decide +kernel
theorem dX10_choose_80 : decode cX10_choose 80 = .ok (.iaload, 1) := by decide +kernel
theorem dX10_choose_81 : decode cX10_choose 81 = .ok (.if_icmp .ge 6, 3) := by decide +kernel
theorem dX10_choose_84 : decode cX10_choose 84 = .ok (.iload 4, 2) := by decide +kernel
theorem dX10_choose_86 : decode cX10_choose 86 = .ok (.istore_n 3, 1) := by decide +kernel
theorem dX10_choose_87 : decode cX10_choose 87 = .ok (.iinc 4 1, 3) := by decide +kernel
theorem dX10_choose_90 : decode cX10_choose 90 = .ok (.goto (-55), 3) := by decide +kernel
theorem dX10_choose_93 : decode cX10_choose 93 = .ok (.aload_n 0, 1) := by decide +kernel
theorem dX10_choose_94 : decode cX10_choose 94 = .ok (.getfield 78, 3) := by decide +kernel
theorem dX10_choose_97 : decode cX10_choose 97 = .ok (.iload_n 3, 1) := by decide +kernel
theorem dX10_choose_98 : decode cX10_choose 98 = .ok (.iconst 1, 1) := by decide +kernel
theorem dX10_choose_99 : decode cX10_choose 99 = .ok (.bastore, 1) := by decide +kernel
theorem dX10_choose_100 : decode cX10_choose 100 = .ok (.iinc 2 1, 3) := by decide +kernel
theorem dX10_choose_103 : decode cX10_choose 103 = .ok (.goto (-78), 3) := by decide +kernel
theorem dX10_choose_106 : decode cX10_choose 106 = .ok (.return_, 1) := by decide +kernel
set_option maxRecDepth 20000 in
theorem ggX10_mergeChosen_X10_choose : GoodIn wsX10_mergeChosen wsX10_choose := goodIn_r _ [9, 1, 2, 10, 4, 124, 125, 126, 127, 128, 129, 130, 131, 132, 133, 134, 135, 136, 137, 138, 139, 140, 141, 142, 143, 144, 145, 146, 147, 148, 149, 150, 151, 152, 153, 154, 155, 156, 157, 158, 159, 160, 161, 162, 163, 164, 165, 166, 167, 168, 169, 170, 171, 172, 173, 174, 175, 176, 177, 178, 179, 180] (by decide +kernel) (by decide +kernel)
set_option maxRecDepth 20000 in
theorem gX10_mergeChosen_X10_choose : GoodIn wsX10_mergeChosen (wsV RX10 298 RX10 yX10_choose wsX10_choose) := goodIn_app (goodIn_of _ (by decide +kernel)) ggX10_mergeChosen_X10_choose
set_option maxRecDepth 20000 in
theorem ggX10_mergeChosen_X10_merge : GoodIn wsX10_mergeChosen wsX10_merge := goodIn_r _ [14, 15, 16, 3, 17, 18, 10, 19, 20, 21, 22, 23, 24, 8, 25, 26, 27, 28, 29, 30, 31, 32, 33, 34, 35, 36, 37, 38, 39, 40, 41, 42, 43, 44, 45, 46, 47, 48, 49, 50, 51, 52, 53, 54, 55, 56, 57, 58, 59, 60, 61, 62, 63, 64, 65, 66, 67, 68, 69, 70, 71, 72, 73, 74, 75, 76, 77, 78, 79, 80, 81, 82, 83, 84, 85, 86, 87, 88, 89, 90, 91, 92, 93, 94, 95, 96, 97, 98, 99, 100, 101, 102, 103, 104, 105, 106, 107, 108, 109, 110, 111, 112, 113, 114, 115, 116, 117, 118, 119, 120, 121, 122, 123, 124, 125, 126, 127, 128, 129, 130, 131, 132, 133, 134, 135, 136, 137, 138, 139, 140, 141, 142, 143, 144, 145, 146, 147, 148, 149, 150, 151, 152, 153, 154, 155, 156, 157, 158, 159, 160, 161, 162, 163, 164, 165, 166, 167, 168, 169, 170, 171, 172, 173, 174, 175, 176, 177, 178, 179, 180] (by decide +kernel) (by decide +kernel)
set_option maxRecDepth 20000 in
theorem gX10_mergeChosen_X10_merge : GoodIn wsX10_mergeChosen (wsV RX10 291 RX10 yX10_merge wsX10_merge) := goodIn_app (goodIn_of _ (by decide +kernel)) ggX10_mergeChosen_X10_merge
theorem dX10_mergeChosen_0 : decode cX10_mergeChosen 0 = .ok (.aload_n 0, 1) := by decide +kernel
theorem dX10_mergeChosen_1 : decode cX10_mergeChosen 1 = .ok (.iload_n 1, 1) := by decide +kernel
theorem dX10_mergeChosen_2 : decode cX10_mergeChosen 2 = .ok (.invokevirtual 298, 3) := by decide +kernel
theorem dX10_mergeChosen_5 : decode cX10_mergeChosen 5 = .ok (.iconst 0, 1) := by decide +kernel
theorem dX10_mergeChosen_6 : decode cX10_mergeChosen 6 = .ok (.istore_n 2, 1) := by decide +kernel
theorem dX10_mergeChosen_7 : decode cX10_mergeChosen 7 = .ok (.iconst 0, 1) := by decide +kernel
theorem dX10_mergeChosen_8 : decode cX10_mergeChosen 8 = .ok (.istore_n 3, 1) := by decide +kernel
theorem dX10_mergeChosen_9 : decode cX10_mergeChosen 9 = .ok (.iload_n 3, 1) := by decide +kernel
theorem dX10_mergeChosen_10 : decode cX10_mergeChosen 10 = .ok (.aload_n 0, 1) := by decide +kernel
theorem dX10_mergeChosen_11 : decode cX10_mergeChosen 11 = .ok (.getfield 200, 3) := by decide +kernel
theorem dX10_mergeChosen_14 : decode cX10_mergeChosen 14 = .ok (.if_icmp .ge 33, 3) := by decide +kernel
theorem dX10_mergeChosen_17 : decode cX10_mergeChosen 17 = .ok (.aload_n 0, 1) := by decide +kernel
theorem dX10_mergeChosen_18 : decode cX10_mergeChosen 18 = .ok (.getfield 78, 3) := by decide +kernel
theorem dX10_mergeChosen_21 : decode cX10_mergeChosen 21 = .ok (.iload_n 3, 1) := by decide +kernel
theorem dX10_mergeChosen_22 : decode cX10_mergeChosen 22 = .ok (.baload, 1) := by decide +kernel
theorem dX10_mergeChosen_23 : decode cX10_mergeChosen 23 = .ok (.ifCond .eq 18, 3) := by decide +kernel
theorem dX10_mergeChosen_26 : decode cX10_mergeChosen 26 = .ok (.aload_n 0, 1) := by decide +kernel
theorem dX10_mergeChosen_27 : decode cX10_mergeChosen 27 = .ok (.getfield 66, 3) := by decide +kernel
theorem dX10_mergeChosen_30 : decode cX10_mergeChosen 30 = .ok (.iload_n 2, 1) := by decide +kernel
theorem dX10_mergeChosen_31 : decode cX10_mergeChosen 31 = .ok (.aload_n 0, 1) := by decide +kernel
theorem dX10_mergeChosen_32 : decode cX10_mergeChosen 32 = .ok (.getfield 36, 3) := by decide +kernel
theorem dX10_mergeChosen_35 : decode cX10_mergeChosen 35 = .ok (.iload_n 3, 1) := by decide +kernel
theorem dX10_mergeChosen_36 : decode cX10_mergeChosen 36 = .ok (.iaload, 1) := by decide +kernel
theorem dX10_mergeChosen_37 : decode cX10_mergeChosen 37 = .ok (.iastore, 1) := by decide +kernel
theorem dX10_mergeChosen_38 : decode cX10_mergeChosen 38 = .ok (.iinc 2 1, 3) := by decide +kernel
theorem dX10_mergeChosen_41 : decode cX10_mergeChosen 41 = .ok (.iinc 3 1, 3) := by decide +kernel
theorem dX10_mergeChosen_44 : decode cX10_mergeChosen 44 = .ok (.goto (-35), 3) := by decide +kernel
theorem dX10_mergeChosen_47 : decode cX10_mergeChosen 47 = .ok (.aload_n 0, 1) := by decide +kernel
theorem dX10_mergeChosen_48 : decode cX10_mergeChosen 48 = .ok (.iload_n 1, 1) := by decide +kernel
theorem dX10_mergeChosen_49 : decode cX10_mergeChosen 49 = .ok (.invokevirtual 291, 3) := by decide +kernel
theorem dX10_mergeChosen_52 : decode cX10_mergeChosen 52 = .ok (.istore_n 3, 1) := by decide +kernel
theorem dX10_mergeChosen_53 : decode cX10_mergeChosen 53 = .ok (.iload_n 3, 1) := by decide +kernel
theorem dX10_mergeChosen_54 : decode cX10_mergeChosen 54 = .ok (.iconst (-1), 1) := by decide +kernel
theorem dX10_mergeChosen_55 : decode cX10_mergeChosen 55 = .ok (.if_icmp .ne 4, 3) := by decide +kernel
theorem dX10_mergeChosen_58 : decode cX10_mergeChosen 58 = .ok (.return_, 1) := by decide +kernel
theorem dX10_mergeChosen_59 : decode cX10_mergeChosen 59 = .ok (.iconst 0, 1) := by decide +kernel
theorem dX10_mergeChosen_60 : decode cX10_mergeChosen 60 = .ok (.istore 4, 2) := by decide +kernel
theorem dX10_mergeChosen_62 : decode cX10_mergeChosen 62 = .ok (.iconst 0, 1) := by decide +kernel
theorem dX10_mergeChosen_63 : decode cX10_mergeChosen 63 = .ok (.istore 5, 2) := by decide +kernel
theorem dX10_mergeChosen_65 : decode cX10_mergeChosen 65 = .ok (.iload 5, 2) := by decide +kernel
theorem dX10_mergeChosen_67 : decode cX10_mergeChosen 67 = .ok (.aload_n 0, 1) := by decide +kernel
theorem dX10_mergeChosen_68 : decode cX10_mergeChosen 68 = .ok (.getfield 200, 3) := by decide +kernel
theorem dX10_mergeChosen_71 : decode cX10_mergeChosen 71 = .ok (.if_icmp .ge 36, 3) := by decide +kernel
theorem dX10_mergeChosen_74 : decode cX10_mergeChosen 74 = .ok (.aload_n 0, 1) := by decide +kernel
theorem dX10_mergeChosen_75 : decode cX10_mergeChosen 75 = .ok (.getfield 78, 3) := by decide +kernel
theorem dX10_mergeChosen_78 : decode cX10_mergeChosen 78 = .ok (.iload 5, 2) := by decide +kernel
theorem dX10_mergeChosen_80 : decode cX10_mergeChosen 80 = .ok (.baload, 1) := by decide +kernel
theorem dX10_mergeChosen_81 : decode cX10_mergeChosen 81 = .ok (.ifCond .ne 20, 3) := by decide +kernel
theorem dX10_mergeChosen_84 : decode cX10_mergeChosen 84 = .ok (.aload_n 0, 1) := by decide +kernel
theorem dX10_mergeChosen_85 : decode cX10_mergeChosen 85 = .ok (.getfield 36, 3) := by decide +kernel
theorem dX10_mergeChosen_88 : decode cX10_mergeChosen 88 = .ok (.iload 4, 2) := by decide +kernel
theorem dX10_mergeChosen_90 : decode cX10_mergeChosen 90 = .ok (.aload_n 0, 1) := by decide +kernel
theorem dX10_mergeChosen_91 : decode cX10_mergeChosen 91 = .ok (.getfield 36, 3) := by decide +kernel
theorem dX10_mergeChosen_94 : decode cX10_mergeChosen 94 = .ok (.iload 5, 2) := by decide +kernel
theorem dX10_mergeChosen_96 : decode cX10_mergeChosen 96 = .ok (.iaload, 1) := by decide +kernel
theorem dX10_mergeChosen_97 : decode cX10_mergeChosen 97 = .ok (.iastore, 1) := by decide +kernel
theorem dX10_mergeChosen_98 : decode cX10_mergeChosen 98 = .ok (.iinc 4 1, 3) := by decide +kernel
theorem dX10_mergeChosen_101 : decode cX10_mergeChosen 101 = .ok (.iinc 5 1, 3) := by decide +kernel
theorem dX10_mergeChosen_104 : decode cX10_mergeChosen 104 = .ok (.goto (-39), 3) := by decide +kernel
theorem dX10_mergeChosen_107 : decode cX10_mergeChosen 107 = .ok (.aload_n 0, 1) := by decide +kernel
theorem dX10_mergeChosen_108 : decode cX10_mergeChosen 108 = .ok (.getfield 36, 3) := by decide +kernel
theorem dX10_mergeChosen_111 : decode cX10_mergeChosen 111 = .ok (.iload 4, 2) := by decide +kernel
theorem dX10_mergeChosen_113 : decode cX10_mergeChosen 113 = .ok (.iload_n 3, 1) := by decide +kernel
theorem dX10_mergeChosen_114 : decode cX10_mergeChosen 114 = .ok (.iastore, 1) := by decide +kernel
theorem dX10_mergeChosen_115 : decode cX10_mergeChosen 115 = .ok (.aload_n 0, 1) := by decide +kernel
theorem dX10_mergeChosen_116 : decode cX10_mergeChosen 116 = .ok (.iload 4, 2) := by decide +kernel
theorem dX10_mergeChosen_118 : decode cX10_mergeChosen 118 = .ok (.iconst 1, 1) := by decide +kernel
theorem dX10_mergeChosen_119 : decode cX10_mergeChosen 119 = .ok (.iadd, 1) := by decide +kernel
theorem dX10_mergeChosen_120 : decode cX10_mergeChosen 120 = .ok (.putfield 200, 3) := by decide +kernel
theorem dX10_mergeChosen_123 : decode cX10_mergeChosen 123 = .ok (.return_, 1) := by decide +kernel
set_option maxRecDepth 20000 in
theorem ggX10_best_X10_isIn : GoodIn wsX10_best wsX10_isIn := goodIn_r _ [8] (by decide +kernel) (by decide +kernel)
set_option maxRecDepth 20000 in
theorem gX10_best_X10_isIn : GoodIn wsX10_best (va_wsS RX10 193 yX10_isIn wsX10_isIn) := goodIn_app (goodIn_of _ (by decide +kernel)) ggX10_best_X10_isIn
set_option maxRecDepth 20000 in
theorem ggX10_best_X10_mergeChosen : GoodIn wsX10_best wsX10_mergeChosen := goodIn_r _ [12, 4, 13, 14, 15, 16, 17, 18, 7, 19, 20, 21, 22, 23, 24, 25, 26, 27, 28, 3, 29, 30, 31, 32, 33, 34, 35, 36, 37, 38, 39, 40, 41, 42, 43, 44, 45, 46, 47, 48, 49, 50, 51, 52, 53, 54, 55, 56, 57, 58, 59, 60, 61, 62, 63, 64, 65, 66, 67, 68, 69, 70, 71, 72, 73, 74, 75, 76, 77, 78, 79, 80, 81, 82, 83, 84, 85, 86, 87, 88, 89, 90, 91, 92, 93, 94, 95, 96, 97, 98, 99, 100, 101, 102, 103, 104, 105, 106, 107, 108, 109, 110, 111, 112, 113, 114, 115, 116, 117, 118, 119, 120, 121, 122, 123, 124, 125, 126, 127, 128, 129, 130, 131, 132, 137, 138, 139, 140, 141, 142, 143, 144, 145, 146, 147, 148, 149, 150, 151, 152, 153, 154, 155, 156, 157, 158, 159, 160, 161, 162, 163, 164, 165, 166, 167, 168, 169, 170, 171, 172, 173, 174, 175, 176, 177, 178, 179, 180, 181, 182, 183, 184, 185, 186, 187, 188, 189, 190, 191, 192, 193] (by decide +kernel) (by decide +kernel)
set_option maxRecDepth 20000 in
theorem gX10_best_X10_mergeChosen : GoodIn wsX10_best (wsV RX10 301 RX10 yX10_mergeChosen wsX10_mergeChosen) := goodIn_app (goodIn_of _ (by decide +kernel)) ggX10_best_X10_mergeChosen
set_option maxRecDepth 20000 in
theorem ggX10_best_X10_ended : GoodIn wsX10_best wsX10_ended := goodIn_r _ [136, 3, 1, 2, 4, 137, 138, 139, 140, 141, 142, 143, 144, 145, 146, 147, 148, 149, 150, 151, 152, 153, 154, 155, 156, 157, 158, 159, 160, 161, 162, 163, 164, 165, 166, 167, 168, 169, 170, 171, 172, 173, 174, 175, 176, 177, 178, 179, 180, 181, 182, 183, 184, 185, 186, 187, 188, 189, 190, 191, 192, 193] (by decide +kernel) (by decide +kernel)
set_option maxRecDepth 20000 in
theorem gX10_best_X10_ended : GoodIn wsX10_best (wsV RX10 275 RX10 yX10_ended wsX10_ended) := goodIn_app (goodIn_of _ (by decide +kernel)) ggX10_best_X10_ended
theorem dX10_best_0 : decode cX10_best 0 = .ok (.aload_n 0, 1) := by decide +kernel
theorem dX10_best_1 : decode cX10_best 1 = .ok (.iload_n 1, 1) := by decide +kernel
theorem dX10_best_2 : decode cX10_best 2 = .ok (.iconst 2, 1) := by decide +kernel
theorem dX10_best_3 : decode cX10_best 3 = .ok (.bipush 8, 2) := by decide +kernel
theorem dX10_best_5 : decode cX10_best 5 = .ok (.invokestatic 193, 3) := by decide +kernel
theorem dX10_best_8 : decode cX10_best 8 = .ok (.ifCond .ne 7, 3) := by decide +kernel
theorem dX10_best_11 : decode cX10_best 11 = .ok (.iconst 1, 1) := by decide +kernel
theorem dX10_best_12 : decode cX10_best 12 = .ok (.goto 15, 3) := by decide +kernel
theorem dX10_best_15 : decode cX10_best 15 = .ok (.aload_n 0, 1) := by decide +kernel
theorem dX10_best_16 : decode cX10_best 16 = .ok (.getfield 197, 3) := by decide +kernel
theorem dX10_best_19 : decode cX10_best 19 = .ok (.ifCond .eq 7, 3) := by decide +kernel
theorem dX10_best_22 : decode cX10_best 22 = .ok (.iconst 2, 1) := by decide +kernel
theorem dX10_best_23 : decode cX10_best 23 = .ok (.goto 4, 3) := by decide +kernel
theorem dX10_best_26 : decode cX10_best 26 = .ok (.iconst 0, 1) := by decide +kernel
theorem dX10_best_27 : decode cX10_best 27 = .ok (.putfield 125, 3) := by decide +kernel
theorem dX10_best_30 : decode cX10_best 30 = .ok (.aload_n 0, 1) := by decide +kernel
theorem dX10_best_31 : decode cX10_best 31 = .ok (.getfield 125, 3) := by decide +kernel
theorem dX10_best_34 : decode cX10_best 34 = .ok (.ifCond .le 5, 3) := by decide +kernel
theorem dX10_best_37 : decode cX10_best 37 = .ok (.iconst 0, 1) := by decide +kernel
theorem dX10_best_38 : decode cX10_best 38 = .ok (.ireturn, 1) := by decide +kernel
theorem dX10_best_39 : decode cX10_best 39 = .ok (.aload_n 0, 1) := by decide +kernel
theorem dX10_best_40 : decode cX10_best 40 = .ok (.iconst 0, 1) := by decide +kernel
theorem dX10_best_41 : decode cX10_best 41 = .ok (.putfield 134, 3) := by decide +kernel
theorem dX10_best_44 : decode cX10_best 44 = .ok (.aload_n 0, 1) := by decide +kernel
theorem dX10_best_45 : decode cX10_best 45 = .ok (.getfield 200, 3) := by decide +kernel
theorem dX10_best_48 : decode cX10_best 48 = .ok (.iconst 2, 1) := by decide +kernel
theorem dX10_best_49 : decode cX10_best 49 = .ok (.if_icmp .ge 7, 3) := by decide +kernel
theorem dX10_best_52 : decode cX10_best 52 = .ok (.iconst 0, 1) := by decide +kernel
theorem dX10_best_53 : decode cX10_best 53 = .ok (.goto 15, 3) := by decide +kernel
theorem dX10_best_56 : decode cX10_best 56 = .ok (.iconst 2, 1) := by decide +kernel
theorem dX10_best_57 : decode cX10_best 57 = .ok (.aload_n 0, 1) := by decide +kernel
theorem dX10_best_58 : decode cX10_best 58 = .ok (.getfield 200, 3) := by decide +kernel
theorem dX10_best_61 : decode cX10_best 61 = .ok (.iconst 2, 1) := by decide +kernel
theorem dX10_best_62 : decode cX10_best 62 = .ok (.isub, 1) := by decide +kernel
theorem dX10_best_63 : decode cX10_best 63 = .ok (.iload_n 1, 1) := by decide +kernel
theorem dX10_best_64 : decode cX10_best 64 = .ok (.iconst 1, 1) := by decide +kernel
theorem dX10_best_65 : decode cX10_best 65 = .ok (.isub, 1) := by decide +kernel
theorem dX10_best_66 : decode cX10_best 66 = .ok (.irem, 1) := by decide +kernel
theorem dX10_best_67 : decode cX10_best 67 = .ok (.iadd, 1) := by decide +kernel
theorem dX10_best_68 : decode cX10_best 68 = .ok (.istore_n 2, 1) := by decide +kernel
theorem dX10_best_69 : decode cX10_best 69 = .ok (.aload_n 0, 1) := by decide +kernel
theorem dX10_best_70 : decode cX10_best 70 = .ok (.getfield 200, 3) := by decide +kernel
theorem dX10_best_73 : decode cX10_best 73 = .ok (.iconst 1, 1) := by decide +kernel
theorem dX10_best_74 : decode cX10_best 74 = .ok (.if_icmp .le 20, 3) := by decide +kernel
theorem dX10_best_77 : decode cX10_best 77 = .ok (.aload_n 0, 1) := by decide +kernel
theorem dX10_best_78 : decode cX10_best 78 = .ok (.getfield 134, 3) := by decide +kernel
theorem dX10_best_81 : decode cX10_best 81 = .ok (.ifCond .ne 13, 3) := by decide +kernel
theorem dX10_best_84 : decode cX10_best 84 = .ok (.aload_n 0, 1) := by decide +kernel
theorem dX10_best_85 : decode cX10_best 85 = .ok (.iload_n 2, 1) := by decide +kernel
theorem dX10_best_86 : decode cX10_best 86 = .ok (.invokevirtual 301, 3) := by decide +kernel
theorem dX10_best_89 : decode cX10_best 89 = .ok (.iload_n 1, 1) := by decide +kernel
theorem dX10_best_90 : decode cX10_best 90 = .ok (.istore_n 2, 1) := by decide +kernel
theorem dX10_best_91 : decode cX10_best 91 = .ok (.goto (-22), 3) := by decide +kernel
theorem dX10_best_94 : decode cX10_best 94 = .ok (.aload_n 0, 1) := by decide +kernel
theorem dX10_best_95 : decode cX10_best 95 = .ok (.iconst 3, 1) := by decide +kernel
theorem dX10_best_96 : decode cX10_best 96 = .ok (.invokevirtual 275, 3) := by decide +kernel
theorem dX10_best_99 : decode cX10_best 99 = .ok (.ireturn, 1) := by decide +kernel
theorem dX10_append_0 : decode cX10_append 0 = .ok (.aload_n 0, 1) := by decide +kernel
theorem dX10_append_1 : decode cX10_append 1 = .ok (.getfield 81, 3) := by decide +kernel
theorem dX10_append_4 : decode cX10_append 4 = .ok (.sipush 208, 3) := by decide +kernel
theorem dX10_append_7 : decode cX10_append 7 = .ok (.iload_n 1, 1) := by decide +kernel
theorem dX10_append_8 : decode cX10_append 8 = .ok (.imul, 1) := by decide +kernel
theorem dX10_append_9 : decode cX10_append 9 = .ok (.aload_n 0, 1) := by decide +kernel
theorem dX10_append_10 : decode cX10_append 10 = .ok (.getfield 87, 3) := by decide +kernel
theorem dX10_append_13 : decode cX10_append 13 = .ok (.iload_n 1, 1) := by decide +kernel
theorem dX10_append_14 : decode cX10_append 14 = .ok (.iaload, 1) := by decide +kernel
theorem dX10_append_15 : decode cX10_append 15 = .ok (.iadd, 1) := by decide +kernel
theorem dX10_append_16 : decode cX10_append 16 = .ok (.iload_n 2, 1) := by decide +kernel
theorem dX10_append_17 : decode cX10_append 17 = .ok (.iastore, 1) := by decide +kernel
theorem dX10_append_18 : decode cX10_append 18 = .ok (.aload_n 0, 1) := by decide +kernel
theorem dX10_append_19 : decode cX10_append 19 = .ok (.getfield 87, 3) := by decide +kernel
theorem dX10_append_22 : decode cX10_append 22 = .ok (.iload_n 1, 1) := by decide +kernel
theorem dX10_append_23 : decode cX10_append 23 = .ok (.dup2, 1) := by decide +kernel
theorem dX10_append_24 : decode cX10_append 24 = .ok (.iaload, 1) := by decide +kernel
theorem dX10_append_25 : decode cX10_append 25 = .ok (.iconst 1, 1) := by decide +kernel
theorem dX10_append_26 : decode cX10_append 26 = .ok (.iadd, 1) := by decide +kernel
theorem dX10_append_27 : decode cX10_append 27 = .ok (.iastore, 1) := by decide +kernel
theorem dX10_append_28 : decode cX10_append 28 = .ok (.return_, 1) := by decide +kernel
theorem dX10_raise_0 : decode cX10_raise 0 = .ok (.aload_n 0, 1) := by decide +kernel
theorem dX10_raise_1 : decode cX10_raise 1 = .ok (.dup, 1) := by decide +kernel
theorem dX10_raise_2 : decode cX10_raise 2 = .ok (.getfield 304, 3) := by decide +kernel
theorem dX10_raise_5 : decode cX10_raise 5 = .ok (.iconst 1, 1) := by decide +kernel
theorem dX10_raise_6 : decode cX10_raise 6 = .ok (.iadd, 1) := by decide +kernel
theorem dX10_raise_7 : decode cX10_raise 7 = .ok (.putfield 304, 3) := by decide +kernel
theorem dX10_raise_10 : decode cX10_raise 10 = .ok (.aload_n 0, 1) := by decide +kernel
theorem dX10_raise_11 : decode cX10_raise 11 = .ok (.getfield 96, 3) := by decide +kernel
theorem dX10_raise_14 : decode cX10_raise 14 = .ok (.iconst 1, 1) := by decide +kernel
theorem dX10_raise_15 : decode cX10_raise 15 = .ok (.iaload, 1) := by decide +kernel
theorem dX10_raise_16 : decode cX10_raise 16 = .ok (.istore_n 2, 1) := by decide +kernel
theorem dX10_raise_17 : decode cX10_raise 17 = .ok (.iconst 1, 1) := by decide +kernel
theorem dX10_raise_18 : decode cX10_raise 18 = .ok (.istore_n 3, 1) := by decide +kernel
theorem dX10_raise_19 : decode cX10_raise 19 = .ok (.iload_n 3, 1) := by decide +kernel
theorem dX10_raise_20 : decode cX10_raise 20 = .ok (.iload_n 1, 1) := by decide +kernel
theorem dX10_raise_21 : decode cX10_raise 21 = .ok (.if_icmp .gt 48, 3) := by decide +kernel
theorem dX10_raise_24 : decode cX10_raise 24 = .ok (.aload_n 0, 1) := by decide +kernel
theorem dX10_raise_25 : decode cX10_raise 25 = .ok (.getfield 90, 3) := by decide +kernel
theorem dX10_raise_28 : decode cX10_raise 28 = .ok (.iload_n 3, 1) := by decide +kernel
theorem dX10_raise_29 : decode cX10_raise 29 = .ok (.iload_n 2, 1) := by decide +kernel
theorem dX10_raise_30 : decode cX10_raise 30 = .ok (.aload_n 0, 1) := by decide +kernel
theorem dX10_raise_31 : decode cX10_raise 31 = .ok (.getfield 96, 3) := by decide +kernel
theorem dX10_raise_34 : decode cX10_raise 34 = .ok (.iload_n 3, 1) := by decide +kernel
theorem dX10_raise_35 : decode cX10_raise 35 = .ok (.iconst 1, 1) := by decide +kernel
theorem dX10_raise_36 : decode cX10_raise 36 = .ok (.iadd, 1) := by decide +kernel
theorem dX10_raise_37 : decode cX10_raise 37 = .ok (.iaload, 1) := by decide +kernel
theorem dX10_raise_38 : decode cX10_raise 38 = .ok (.iadd, 1) := by decide +kernel
theorem dX10_raise_39 : decode cX10_raise 39 = .ok (.aload_n 0, 1) := by decide +kernel
theorem dX10_raise_40 : decode cX10_raise 40 = .ok (.getfield 96, 3) := by decide +kernel
theorem dX10_raise_43 : decode cX10_raise 43 = .ok (.iload_n 3, 1) := by decide +kernel
theorem dX10_raise_44 : decode cX10_raise 44 = .ok (.iaload, 1) := by decide +kernel
theorem dX10_raise_45 : decode cX10_raise 45 = .ok (.isub, 1) := by decide +kernel
theorem dX10_raise_46 : decode cX10_raise 46 = .ok (.iastore, 1) := by decide +kernel
theorem dX10_raise_47 : decode cX10_raise 47 = .ok (.aload_n 0, 1) := by decide +kernel
theorem dX10_raise_48 : decode cX10_raise 48 = .ok (.getfield 96, 3) := by decide +kernel
theorem dX10_raise_51 : decode cX10_raise 51 = .ok (.iload_n 3, 1) := by decide +kernel
theorem dX10_raise_52 : decode cX10_raise 52 = .ok (.iload_n 2, 1) := by decide +kernel
theorem dX10_raise_53 : decode cX10_raise 53 = .ok (.aload_n 0, 1) := by decide +kernel
theorem dX10_raise_54 : decode cX10_raise 54 = .ok (.getfield 96, 3) := by decide +kernel
theorem dX10_raise_57 : decode cX10_raise 57 = .ok (.iload_n 3, 1) := by decide +kernel
theorem dX10_raise_58 : decode cX10_raise 58 = .ok (.iconst 1, 1) := by decide +kernel
theorem dX10_raise_59 : decode cX10_raise 59 = .ok (.iadd, 1) := by decide +kernel
theorem dX10_raise_60 : decode cX10_raise 60 = .ok (.iaload, 1) := by decide +kernel
theorem dX10_raise_61 : decode cX10_raise 61 = .ok (.iadd, 1) := by decide +kernel
theorem dX10_raise_62 : decode cX10_raise 62 = .ok (.iastore, 1) := by decide +kernel
theorem dX10_raise_63 : decode cX10_raise 63 = .ok (.iinc 3 1, 3) := by decide +kernel
theorem dX10_raise_66 : decode cX10_raise 66 = .ok (.goto (-47), 3) := by decide +kernel
theorem dX10_raise_69 : decode cX10_raise 69 = .ok (.return_, 1) := by decide +kernel
