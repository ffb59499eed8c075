theorem dX10_lower_0 : decode cX10_lower 0 = .ok (.aload_n 0, 1) := by decide +kernel
theorem dX10_lower_1 : decode cX10_lower 1 = .ok (.getfield 96, 3) := by decide +kernel
theorem dX10_lower_4 : decode cX10_lower 4 = .ok (.iload_n 1, 1) := by decide +kernel
theorem dX10_lower_5 : decode cX10_lower 5 = .ok (.iaload, 1) := by decide +kernel
theorem dX10_lower_6 : decode cX10_lower 6 = .ok (.istore_n 2, 1) := by decide +kernel
theorem dX10_lower_7 : decode cX10_lower 7 = .ok (.iload_n 1, 1) := by decide +kernel
theorem dX10_lower_8 : decode cX10_lower 8 = .ok (.istore_n 3, 1) := by decide +kernel
theorem dX10_lower_9 : decode cX10_lower 9 = .ok (.iload_n 3, 1) := by decide +kernel
theorem dX10_lower_10 : decode cX10_lower 10 = .ok (.iconst 1, 1) := by decide +kernel
theorem dX10_lower_11 : decode cX10_lower 11 = .ok (.if_icmp .le 25, 3) := by decide +kernel
theorem dX10_lower_14 : decode cX10_lower 14 = .ok (.aload_n 0, 1) := by decide +kernel
theorem dX10_lower_15 : decode cX10_lower 15 = .ok (.getfield 96, 3) := by decide +kernel
theorem dX10_lower_18 : decode cX10_lower 18 = .ok (.iload_n 3, 1) := by decide +kernel
theorem dX10_lower_19 : decode cX10_lower 19 = .ok (.aload_n 0, 1) := by decide +kernel
theorem dX10_lower_20 : decode cX10_lower 20 = .ok (.getfield 96, 3) := by decide +kernel
theorem dX10_lower_23 : decode cX10_lower 23 = .ok (.iload_n 3, 1) := by decide +kernel
theorem dX10_lower_24 : decode cX10_lower 24 = .ok (.iconst 1, 1) := by decide +kernel
theorem dX10_lower_25 : decode cX10_lower 25 = .ok (.isub, 1) := by decide +kernel
theorem dX10_lower_26 : decode cX10_lower 26 = .ok (.iaload, 1) := by decide +kernel
theorem dX10_lower_27 : decode cX10_lower 27 = .ok (.iload_n 2, 1) := by decide +kernel
theorem dX10_lower_28 : decode cX10_lower 28 = .ok (.isub, 1) := by decide +kernel
theorem dX10_lower_29 : decode cX10_lower 29 = .ok (.iastore, 1) := by decide +kernel
theorem dX10_lower_30 : decode cX10_lower 30 = .ok (.iinc 3 (-1), 3) := by decide +kernel
theorem dX10_lower_33 : decode cX10_lower 33 = .ok (.goto (-24), 3) := by decide +kernel
theorem dX10_lower_36 : decode cX10_lower 36 = .ok (.aload_n 0, 1) := by decide +kernel
theorem dX10_lower_37 : decode cX10_lower 37 = .ok (.getfield 96, 3) := by decide +kernel
theorem dX10_lower_40 : decode cX10_lower 40 = .ok (.iconst 1, 1) := by decide +kernel
theorem dX10_lower_41 : decode cX10_lower 41 = .ok (.iload_n 2, 1) := by decide +kernel
theorem dX10_lower_42 : decode cX10_lower 42 = .ok (.iastore, 1) := by decide +kernel
theorem dX10_lower_43 : decode cX10_lower 43 = .ok (.return_, 1) := by decide +kernel
set_option maxRecDepth 20000 in
theorem ggX10_lay_X10_append : GoodIn wsX10_lay wsX10_append := goodIn_r _ [13, 14, 3, 19, 20, 21, 22, 23, 24, 25, 26, 27, 28, 29, 30, 31, 32, 33, 34, 35, 36, 37, 38, 39, 40, 41, 42, 43, 44, 45, 46, 47, 48, 49, 50, 51, 52, 53, 54, 55, 56, 57, 58, 59, 60, 61, 62, 63, 64, 65, 66, 67, 68, 69, 70, 71, 72, 73, 74, 75] (by decide +kernel) (by decide +kernel)
set_option maxRecDepth 20000 in
theorem gX10_lay_X10_append : GoodIn wsX10_lay (wsV RX10 307 RX10 yX10_append wsX10_append) := goodIn_app (goodIn_of _ (by decide +kernel)) ggX10_lay_X10_append
set_option maxRecDepth 20000 in
theorem ggX10_lay_X10_raise : GoodIn wsX10_lay wsX10_raise := goodIn_r _ [18, 6, 5, 4, 19, 20, 21, 22, 23, 24, 25, 26, 27, 28, 29, 30, 31, 32, 33, 34, 35, 36, 37, 38, 39, 40, 41, 42, 43, 44, 45, 46, 47, 48, 49, 50, 51, 52, 53, 54, 55, 56, 57, 58, 59, 60, 61, 62, 63, 64, 65, 66, 67, 68, 69, 70, 71, 72, 73, 74, 75] (by decide +kernel) (by decide +kernel)
set_option maxRecDepth 20000 in
theorem gX10_lay_X10_raise : GoodIn wsX10_lay (wsV RX10 310 RX10 yX10_raise wsX10_raise) := goodIn_app (goodIn_of _ (by decide +kernel)) ggX10_lay_X10_raise
theorem dX10_lay_0 : decode cX10_lay 0 = .ok (.iconst 1, 1) := by decide +kernel
theorem dX10_lay_1 : decode cX10_lay 1 = .ok (.istore_n 2, 1) := by decide +kernel
theorem dX10_lay_2 : decode cX10_lay 2 = .ok (.iload_n 2, 1) := by decide +kernel
theorem dX10_lay_3 : decode cX10_lay 3 = .ok (.iload_n 1, 1) := by decide +kernel
theorem dX10_lay_4 : decode cX10_lay 4 = .ok (.if_icmp .gt 58, 3) := by decide +kernel
theorem dX10_lay_7 : decode cX10_lay 7 = .ok (.aload_n 0, 1) := by decide +kernel
theorem dX10_lay_8 : decode cX10_lay 8 = .ok (.getfield 93, 3) := by decide +kernel
theorem dX10_lay_11 : decode cX10_lay 11 = .ok (.iload_n 2, 1) := by decide +kernel
theorem dX10_lay_12 : decode cX10_lay 12 = .ok (.iload_n 2, 1) := by decide +kernel
theorem dX10_lay_13 : decode cX10_lay 13 = .ok (.iastore, 1) := by decide +kernel
theorem dX10_lay_14 : decode cX10_lay 14 = .ok (.aload_n 0, 1) := by decide +kernel
theorem dX10_lay_15 : decode cX10_lay 15 = .ok (.getfield 84, 3) := by decide +kernel
theorem dX10_lay_18 : decode cX10_lay 18 = .ok (.iload_n 2, 1) := by decide +kernel
theorem dX10_lay_19 : decode cX10_lay 19 = .ok (.iconst 0, 1) := by decide +kernel
theorem dX10_lay_20 : decode cX10_lay 20 = .ok (.iastore, 1) := by decide +kernel
theorem dX10_lay_21 : decode cX10_lay 21 = .ok (.aload_n 0, 1) := by decide +kernel
theorem dX10_lay_22 : decode cX10_lay 22 = .ok (.getfield 87, 3) := by decide +kernel
theorem dX10_lay_25 : decode cX10_lay 25 = .ok (.iload_n 2, 1) := by decide +kernel
theorem dX10_lay_26 : decode cX10_lay 26 = .ok (.iconst 0, 1) := by decide +kernel
theorem dX10_lay_27 : decode cX10_lay 27 = .ok (.iastore, 1) := by decide +kernel
theorem dX10_lay_28 : decode cX10_lay 28 = .ok (.aload_n 0, 1) := by decide +kernel
theorem dX10_lay_29 : decode cX10_lay 29 = .ok (.getfield 90, 3) := by decide +kernel
theorem dX10_lay_32 : decode cX10_lay 32 = .ok (.iload_n 2, 1) := by decide +kernel
theorem dX10_lay_33 : decode cX10_lay 33 = .ok (.iload_n 2, 1) := by decide +kernel
theorem dX10_lay_34 : decode cX10_lay 34 = .ok (.iload_n 1, 1) := by decide +kernel
theorem dX10_lay_35 : decode cX10_lay 35 = .ok (.if_icmp .ge 7, 3) := by decide +kernel
theorem dX10_lay_38 : decode cX10_lay 38 = .ok (.iconst 1, 1) := by decide +kernel
theorem dX10_lay_39 : decode cX10_lay 39 = .ok (.goto 4, 3) := by decide +kernel
theorem dX10_lay_42 : decode cX10_lay 42 = .ok (.iconst 0, 1) := by decide +kernel
theorem dX10_lay_43 : decode cX10_lay 43 = .ok (.iastore, 1) := by decide +kernel
theorem dX10_lay_44 : decode cX10_lay 44 = .ok (.aload_n 0, 1) := by decide +kernel
theorem dX10_lay_45 : decode cX10_lay 45 = .ok (.getfield 96, 3) := by decide +kernel
theorem dX10_lay_48 : decode cX10_lay 48 = .ok (.iload_n 2, 1) := by decide +kernel
theorem dX10_lay_49 : decode cX10_lay 49 = .ok (.aload_n 0, 1) := by decide +kernel
theorem dX10_lay_50 : decode cX10_lay 50 = .ok (.getfield 90, 3) := by decide +kernel
theorem dX10_lay_53 : decode cX10_lay 53 = .ok (.iload_n 2, 1) := by decide +kernel
theorem dX10_lay_54 : decode cX10_lay 54 = .ok (.iaload, 1) := by decide +kernel
theorem dX10_lay_55 : decode cX10_lay 55 = .ok (.iastore, 1) := by decide +kernel
theorem dX10_lay_56 : decode cX10_lay 56 = .ok (.iinc 2 1, 3) := by decide +kernel
theorem dX10_lay_59 : decode cX10_lay 59 = .ok (.goto (-57), 3) := by decide +kernel
theorem dX10_lay_62 : decode cX10_lay 62 = .ok (.aload_n 0, 1) := by decide +kernel
theorem dX10_lay_63 : decode cX10_lay 63 = .ok (.getfield 96, 3) := by decide +kernel
theorem dX10_lay_66 : decode cX10_lay 66 = .ok (.iload_n 1, 1) := by decide +kernel
theorem dX10_lay_67 : decode cX10_lay 67 = .ok (.iconst 1, 1) := by decide +kernel
theorem dX10_lay_68 : decode cX10_lay 68 = .ok (.iadd, 1) := by decide +kernel
theorem dX10_lay_69 : decode cX10_lay 69 = .ok (.iconst 0, 1) := by decide +kernel
theorem dX10_lay_70 : decode cX10_lay 70 = .ok (.iastore, 1) := by decide +kernel
theorem dX10_lay_71 : decode cX10_lay 71 = .ok (.aload_n 0, 1) := by decide +kernel
theorem dX10_lay_72 : decode cX10_lay 72 = .ok (.iconst 1, 1) := by decide +kernel
theorem dX10_lay_73 : decode cX10_lay 73 = .ok (.putfield 304, 3) := by decide +kernel
theorem dX10_lay_76 : decode cX10_lay 76 = .ok (.iconst 1, 1) := by decide +kernel
theorem dX10_lay_77 : decode cX10_lay 77 = .ok (.istore_n 2, 1) := by decide +kernel
theorem dX10_lay_78 : decode cX10_lay 78 = .ok (.iconst 0, 1) := by decide +kernel
theorem dX10_lay_79 : decode cX10_lay 79 = .ok (.istore_n 3, 1) := by decide +kernel
theorem dX10_lay_80 : decode cX10_lay 80 = .ok (.iload_n 3, 1) := by decide +kernel
theorem dX10_lay_81 : decode cX10_lay 81 = .ok (.aload_n 0, 1) := by decide +kernel
theorem dX10_lay_82 : decode cX10_lay 82 = .ok (.getfield 200, 3) := by decide +kernel
theorem dX10_lay_85 : decode cX10_lay 85 = .ok (.if_icmp .ge 98, 3) := by decide +kernel
theorem dX10_lay_88 : decode cX10_lay 88 = .ok (.aload_n 0, 1) := by decide +kernel
theorem dX10_lay_89 : decode cX10_lay 89 = .ok (.iload_n 2, 1) := by decide +kernel
theorem dX10_lay_90 : decode cX10_lay 90 = .ok (.aload_n 0, 1) := by decide +kernel
theorem dX10_lay_91 : decode cX10_lay 91 = .ok (.getfield 36, 3) := by decide +kernel
theorem dX10_lay_94 : decode cX10_lay 94 = .ok (.iload_n 3, 1) := by decide +kernel
theorem dX10_lay_95 : decode cX10_lay 95 = .ok (.iaload, 1) := by decide +kernel
theorem dX10_lay_96 : decode cX10_lay 96 = .ok (.invokevirtual 307, 3) := by decide +kernel
theorem dX10_lay_99 : decode cX10_lay 99 = .ok (.aload_n 0, 1) := by decide +kernel
theorem dX10_lay_100 : decode cX10_lay 100 = .ok (.getfield 90, 3) := by decide +kernel
theorem dX10_lay_103 : decode cX10_lay 103 = .ok (.iload_n 2, 1) := by decide +kernel
theorem dX10_lay_104 : decode cX10_lay 104 = .ok (.dup2, 1) := by decide +kernel
theorem dX10_lay_105 : decode cX10_lay 105 = .ok (.iaload, 1) := by decide +kernel
theorem dX10_lay_106 : decode cX10_lay 106 = .ok (.iconst 1, 1) := by decide +kernel
theorem dX10_lay_107 : decode cX10_lay 107 = .ok (.isub, 1) := by decide +kernel
theorem dX10_lay_108 : decode cX10_lay 108 = .ok (.iastore, 1) := by decide +kernel
theorem dX10_lay_109 : decode cX10_lay 109 = .ok (.aload_n 0, 1) := by decide +kernel
theorem dX10_lay_110 : decode cX10_lay 110 = .ok (.getfield 90, 3) := by decide +kernel
theorem dX10_lay_113 : decode cX10_lay 113 = .ok (.iload_n 2, 1) := by decide +kernel
theorem dX10_lay_114 : decode cX10_lay 114 = .ok (.iaload, 1) := by decide +kernel
theorem dX10_lay_115 : decode cX10_lay 115 = .ok (.aload_n 0, 1) := by decide +kernel
theorem dX10_lay_116 : decode cX10_lay 116 = .ok (.getfield 90, 3) := by decide +kernel
theorem dX10_lay_119 : decode cX10_lay 119 = .ok (.iload_n 2, 1) := by decide +kernel
theorem dX10_lay_120 : decode cX10_lay 120 = .ok (.iconst 1, 1) := by decide +kernel
theorem dX10_lay_121 : decode cX10_lay 121 = .ok (.iadd, 1) := by decide +kernel
theorem dX10_lay_122 : decode cX10_lay 122 = .ok (.iaload, 1) := by decide +kernel
theorem dX10_lay_123 : decode cX10_lay 123 = .ok (.if_icmp .ge 7, 3) := by decide +kernel
theorem dX10_lay_126 : decode cX10_lay 126 = .ok (.iconst 1, 1) := by decide +kernel
theorem dX10_lay_127 : decode cX10_lay 127 = .ok (.goto 4, 3) := by decide +kernel
theorem dX10_lay_130 : decode cX10_lay 130 = .ok (.iconst 0, 1) := by decide +kernel
theorem dX10_lay_131 : decode cX10_lay 131 = .ok (.istore 4, 2) := by decide +kernel
theorem dX10_lay_133 : decode cX10_lay 133 = .ok (.iload 4, 2) := by decide +kernel
theorem dX10_lay_135 : decode cX10_lay 135 = .ok (.ifCond .ne 29, 3) := by decide +kernel
theorem dX10_lay_138 : decode cX10_lay 138 = .ok (.aload_n 0, 1) := by decide +kernel
theorem dX10_lay_139 : decode cX10_lay 139 = .ok (.getfield 90, 3) := by decide +kernel
theorem dX10_lay_142 : decode cX10_lay 142 = .ok (.iload_n 2, 1) := by decide +kernel
theorem dX10_lay_143 : decode cX10_lay 143 = .ok (.iaload, 1) := by decide +kernel
theorem dX10_lay_144 : decode cX10_lay 144 = .ok (.ifCond .ne 20, 3) := by decide +kernel
theorem dX10_lay_147 : decode cX10_lay 147 = .ok (.iload_n 3, 1) := by decide +kernel
theorem dX10_lay_148 : decode cX10_lay 148 = .ok (.aload_n 0, 1) := by decide +kernel
theorem dX10_lay_149 : decode cX10_lay 149 = .ok (.getfield 200, 3) := by decide +kernel
theorem dX10_lay_152 : decode cX10_lay 152 = .ok (.iconst 1, 1) := by decide +kernel
theorem dX10_lay_153 : decode cX10_lay 153 = .ok (.isub, 1) := by decide +kernel
theorem dX10_lay_154 : decode cX10_lay 154 = .ok (.if_icmp .ge 10, 3) := by decide +kernel
theorem dX10_lay_157 : decode cX10_lay 157 = .ok (.aload_n 0, 1) := by decide +kernel
theorem dX10_lay_158 : decode cX10_lay 158 = .ok (.iload_n 1, 1) := by decide +kernel
theorem dX10_lay_159 : decode cX10_lay 159 = .ok (.iconst 1, 1) := by decide +kernel
theorem dX10_lay_160 : decode cX10_lay 160 = .ok (.isub, 1) := by decide +kernel
theorem dX10_lay_161 : decode cX10_lay 161 = .ok (.invokevirtual 310, 3) := by decide +kernel
theorem dX10_lay_164 : decode cX10_lay 164 = .ok (.iload 4, 2) := by decide +kernel
theorem dX10_lay_166 : decode cX10_lay 166 = .ok (.ifCond .eq 9, 3) := by decide +kernel
theorem dX10_lay_169 : decode cX10_lay 169 = .ok (.iload_n 2, 1) := by decide +kernel
theorem dX10_lay_170 : decode cX10_lay 170 = .ok (.iconst 1, 1) := by decide +kernel
theorem dX10_lay_171 : decode cX10_lay 171 = .ok (.iadd, 1) := by decide +kernel
theorem dX10_lay_172 : decode cX10_lay 172 = .ok (.goto 4, 3) := by decide +kernel
theorem dX10_lay_175 : decode cX10_lay 175 = .ok (.iconst 1, 1) := by decide +kernel
theorem dX10_lay_176 : decode cX10_lay 176 = .ok (.istore_n 2, 1) := by decide +kernel
theorem dX10_lay_177 : decode cX10_lay 177 = .ok (.iinc 3 1, 3) := by decide +kernel
theorem dX10_lay_180 : decode cX10_lay 180 = .ok (.goto (-100), 3) := by decide +kernel
theorem dX10_lay_183 : decode cX10_lay 183 = .ok (.return_, 1) := by decide +kernel
theorem dX10_allThought_0 : decode cX10_allThought 0 = .ok (.iconst 1, 1) := by decide +kernel
theorem dX10_allThought_1 : decode cX10_allThought 1 = .ok (.istore_n 2, 1) := by decide +kernel
theorem dX10_allThought_2 : decode cX10_allThought 2 = .ok (.iconst 1, 1) := by decide +kernel
theorem dX10_allThought_3 : decode cX10_allThought 3 = .ok (.istore_n 3, 1) := by decide +kernel
theorem dX10_allThought_4 : decode cX10_allThought 4 = .ok (.iload_n 3, 1) := by decide +kernel
theorem dX10_allThought_5 : decode cX10_allThought 5 = .ok (.iload_n 1, 1) := by decide +kernel
theorem dX10_allThought_6 : decode cX10_allThought 6 = .ok (.if_icmp .gt 33, 3) := by decide +kernel
theorem dX10_allThought_9 : decode cX10_allThought 9 = .ok (.iload_n 2, 1) := by decide +kernel
theorem dX10_allThought_10 : decode cX10_allThought 10 = .ok (.ifCond .eq 21, 3) := by decide +kernel
theorem dX10_allThought_13 : decode cX10_allThought 13 = .ok (.aload_n 0, 1) := by decide +kernel
theorem dX10_allThought_14 : decode cX10_allThought 14 = .ok (.getfield 90, 3) := by decide +kernel
theorem dX10_allThought_17 : decode cX10_allThought 17 = .ok (.aload_n 0, 1) := by decide +kernel
theorem dX10_allThought_18 : decode cX10_allThought 18 = .ok (.getfield 93, 3) := by decide +kernel
theorem dX10_allThought_21 : decode cX10_allThought 21 = .ok (.iload_n 3, 1) := by decide +kernel
theorem dX10_allThought_22 : decode cX10_allThought 22 = .ok (.iaload, 1) := by decide +kernel
theorem dX10_allThought_23 : decode cX10_allThought 23 = .ok (.iaload, 1) := by decide +kernel
theorem dX10_allThought_24 : decode cX10_allThought 24 = .ok (.ifCond .le 7, 3) := by decide +kernel
theorem dX10_allThought_27 : decode cX10_allThought 27 = .ok (.iconst 1, 1) := by decide +kernel
theorem dX10_allThought_28 : decode cX10_allThought 28 = .ok (.goto 4, 3) := by decide +kernel
theorem dX10_allThought_31 : decode cX10_allThought 31 = .ok (.iconst 0, 1) := by decide +kernel
theorem dX10_allThought_32 : decode cX10_allThought 32 = .ok (.istore_n 2, 1) := by decide +kernel
theorem dX10_allThought_33 : decode cX10_allThought 33 = .ok (.iinc 3 1, 3) := by decide +kernel
theorem dX10_allThought_36 : decode cX10_allThought 36 = .ok (.goto (-32), 3) := by decide +kernel
theorem dX10_allThought_39 : decode cX10_allThought 39 = .ok (.iload_n 2, 1) := by decide +kernel
theorem dX10_allThought_40 : decode cX10_allThought 40 = .ok (.ireturn, 1) := by decide +kernel
set_option maxRecDepth 20000 in
theorem ggX10_together_X10_allThought : GoodIn wsX10_together wsX10_allThought := goodIn_r _ [12, 2, 1, 130, 131, 132, 133, 134, 135, 136, 137, 138, 139, 140, 141, 142, 143, 144, 145, 146, 147, 148, 149, 150, 151, 152, 153, 154, 155, 156, 157, 158, 159, 160, 161, 162, 163, 164, 165, 166, 167, 168, 169, 170, 171, 172, 173, 174, 175, 176, 177, 178, 179, 180, 181, 182, 183, 184, 185, 186] (by decide +kernel) (by decide +kernel)
set_option maxRecDepth 20000 in
theorem gX10_together_X10_allThought : GoodIn wsX10_together (wsV RX10 313 RX10 yX10_allThought wsX10_allThought) := goodIn_app (goodIn_of _ (by decide +kernel)) ggX10_together_X10_allThought
set_option maxRecDepth 20000 in
theorem ggX10_together_X10_merge : GoodIn wsX10_together wsX10_merge := goodIn_r _ [16, 17, 18, 5, 19, 20, 21, 7, 22, 23, 24, 25, 26, 11, 27, 28, 29, 30, 31, 32, 33, 34, 35, 36, 37, 38, 39, 40, 41, 42, 43, 44, 45, 46, 47, 48, 49, 50, 51, 52, 53, 54, 55, 56, 57, 58, 59, 60, 61, 62, 63, 64, 65, 66, 67, 68, 69, 70, 71, 72, 73, 74, 75, 76, 77, 78, 79, 80, 81, 82, 83, 84, 85, 86, 87, 88, 89, 90, 91, 92, 93, 94, 95, 96, 97, 98, 99, 100, 101, 102, 103, 104, 105, 106, 107, 108, 109, 110, 111, 112, 113, 114, 115, 116, 117, 118, 119, 120, 121, 122, 123, 124, 125, 130, 131, 132, 133, 134, 135, 136, 137, 138, 139, 140, 141, 142, 143, 144, 145, 146, 147, 148, 149, 150, 151, 152, 153, 154, 155, 156, 157, 158, 159, 160, 161, 162, 163, 164, 165, 166, 167, 168, 169, 170, 171, 172, 173, 174, 175, 176, 177, 178, 179, 180, 181, 182, 183, 184, 185, 186] (by decide +kernel) (by decide +kernel)
set_option maxRecDepth 20000 in
theorem gX10_together_X10_merge : GoodIn wsX10_together (wsV RX10 291 RX10 yX10_merge wsX10_merge) := goodIn_app (goodIn_of _ (by decide +kernel)) ggX10_together_X10_merge
set_option maxRecDepth 20000 in
theorem ggX10_together_X10_append : GoodIn wsX10_together wsX10_append := goodIn_r _ [129, 6, 4, 130, 131, 132, 133, 134, 135, 136, 137, 138, 139, 140, 141, 142, 143, 144, 145, 146, 147, 148, 149, 150, 151, 152, 153, 154, 155, 156, 157, 158, 159, 160, 161, 162, 163, 164, 165, 166, 167, 168, 169, 170, 171, 172, 173, 174, 175, 176, 177, 178, 179, 180, 181, 182, 183, 184, 185, 186] (by decide +kernel) (by decide +kernel)
set_option maxRecDepth 20000 in
theorem gX10_together_X10_append : GoodIn wsX10_together (wsV RX10 307 RX10 yX10_append wsX10_append) := goodIn_app (goodIn_of _ (by decide +kernel)) ggX10_together_X10_append
theorem dX10_together_0 : decode cX10_together 0 = .ok (.aload_n 0, 1) := by decide +kernel
theorem dX10_together_1 : decode cX10_together 1 = .ok (.getfield 93, 3) := by decide +kernel
theorem dX10_together_4 : decode cX10_together 4 = .ok (.iload_n 1, 1) := by decide +kernel
theorem dX10_together_5 : decode cX10_together 5 = .ok (.iconst 1, 1) := by decide +kernel
theorem dX10_together_6 : decode cX10_together 6 = .ok (.iadd, 1) := by decide +kernel
theorem dX10_together_7 : decode cX10_together 7 = .ok (.iaload, 1) := by decide +kernel
theorem dX10_together_8 : decode cX10_together 8 = .ok (.istore_n 2, 1) := by decide +kernel
theorem dX10_together_9 : decode cX10_together 9 = .ok (.aload_n 0, 1) := by decide +kernel
theorem dX10_together_10 : decode cX10_together 10 = .ok (.iload_n 1, 1) := by decide +kernel
theorem dX10_together_11 : decode cX10_together 11 = .ok (.invokevirtual 313, 3) := by decide +kernel
theorem dX10_together_14 : decode cX10_together 14 = .ok (.istore_n 3, 1) := by decide +kernel
theorem dX10_together_15 : decode cX10_together 15 = .ok (.iconst 0, 1) := by decide +kernel
theorem dX10_together_16 : decode cX10_together 16 = .ok (.istore 4, 2) := by decide +kernel
theorem dX10_together_18 : decode cX10_together 18 = .ok (.iconst 1, 1) := by decide +kernel
theorem dX10_together_19 : decode cX10_together 19 = .ok (.istore 5, 2) := by decide +kernel
theorem dX10_together_21 : decode cX10_together 21 = .ok (.iload 5, 2) := by decide +kernel
theorem dX10_together_23 : decode cX10_together 23 = .ok (.iload_n 1, 1) := by decide +kernel
theorem dX10_together_24 : decode cX10_together 24 = .ok (.if_icmp .gt 74, 3) := by decide +kernel
theorem dX10_together_27 : decode cX10_together 27 = .ok (.aload_n 0, 1) := by decide +kernel
theorem dX10_together_28 : decode cX10_together 28 = .ok (.getfield 93, 3) := by decide +kernel
theorem dX10_together_31 : decode cX10_together 31 = .ok (.iload 5, 2) := by decide +kernel
theorem dX10_together_33 : decode cX10_together 33 = .ok (.iaload, 1) := by decide +kernel
theorem dX10_together_34 : decode cX10_together 34 = .ok (.istore 6, 2) := by decide +kernel
theorem dX10_together_36 : decode cX10_together 36 = .ok (.aload_n 0, 1) := by decide +kernel
theorem dX10_together_37 : decode cX10_together 37 = .ok (.getfield 90, 3) := by decide +kernel
theorem dX10_together_40 : decode cX10_together 40 = .ok (.iload 6, 2) := by decide +kernel
theorem dX10_together_42 : decode cX10_together 42 = .ok (.iaload, 1) := by decide +kernel
theorem dX10_together_43 : decode cX10_together 43 = .ok (.ifCond .ne 49, 3) := by decide +kernel
theorem dX10_together_46 : decode cX10_together 46 = .ok (.aload_n 0, 1) := by decide +kernel
theorem dX10_together_47 : decode cX10_together 47 = .ok (.getfield 84, 3) := by decide +kernel
theorem dX10_together_50 : decode cX10_together 50 = .ok (.iload 6, 2) := by decide +kernel
theorem dX10_together_52 : decode cX10_together 52 = .ok (.iaload, 1) := by decide +kernel
theorem dX10_together_53 : decode cX10_together 53 = .ok (.aload_n 0, 1) := by decide +kernel
theorem dX10_together_54 : decode cX10_together 54 = .ok (.getfield 87, 3) := by decide +kernel
theorem dX10_together_57 : decode cX10_together 57 = .ok (.iload 6, 2) := by decide +kernel
theorem dX10_together_59 : decode cX10_together 59 = .ok (.iaload, 1) := by decide +kernel
theorem dX10_together_60 : decode cX10_together 60 = .ok (.if_icmp .ge 32, 3) := by decide +kernel
theorem dX10_together_63 : decode cX10_together 63 = .ok (.aload_n 0, 1) := by decide +kernel
theorem dX10_together_64 : decode cX10_together 64 = .ok (.getfield 66, 3) := by decide +kernel
theorem dX10_together_67 : decode cX10_together 67 = .ok (.iload 4, 2) := by decide +kernel
theorem dX10_together_69 : decode cX10_together 69 = .ok (.aload_n 0, 1) := by decide +kernel
theorem dX10_together_70 : decode cX10_together 70 = .ok (.getfield 81, 3) := by decide +kernel
theorem dX10_together_73 : decode cX10_together 73 = .ok (.sipush 208, 3) := by decide +kernel
theorem dX10_together_76 : decode cX10_together 76 = .ok (.iload 6, 2) := by decide +kernel
theorem dX10_together_78 : decode cX10_together 78 = .ok (.imul, 1) := by decide +kernel
theorem dX10_together_79 : decode cX10_together 79 = .ok (.aload_n 0, 1) := by decide +kernel
theorem dX10_together_80 : decode cX10_together 80 = .ok (.getfield 84, 3) := by decide +kernel
theorem dX10_together_83 : decode cX10_together 83 = .ok (.iload 6, 2) := by decide +kernel
theorem dX10_together_85 : decode cX10_together 85 = .ok (.iaload, 1) := by decide +kernel
theorem dX10_together_86 : decode cX10_together 86 = .ok (.iadd, 1) := by decide +kernel
theorem dX10_together_87 : decode cX10_together 87 = .ok (.iaload, 1) := by decide +kernel
theorem dX10_together_88 : decode cX10_together 88 = .ok (.iastore, 1) := by decide +kernel
theorem dX10_together_89 : decode cX10_together 89 = .ok (.iinc 4 1, 3) := by decide +kernel
theorem dX10_together_92 : decode cX10_together 92 = .ok (.iinc 5 1, 3) := by decide +kernel
theorem dX10_together_95 : decode cX10_together 95 = .ok (.goto (-74), 3) := by decide +kernel
theorem dX10_together_98 : decode cX10_together 98 = .ok (.iload 4, 2) := by decide +kernel
theorem dX10_together_100 : decode cX10_together 100 = .ok (.ifCond .ne 7, 3) := by decide +kernel
theorem dX10_together_103 : decode cX10_together 103 = .ok (.iconst (-1), 1) := by decide +kernel
theorem dX10_together_104 : decode cX10_together 104 = .ok (.goto 24, 3) := by decide +kernel
theorem dX10_together_107 : decode cX10_together 107 = .ok (.iload 4, 2) := by decide +kernel
theorem dX10_together_109 : decode cX10_together 109 = .ok (.iconst 1, 1) := by decide +kernel
theorem dX10_together_110 : decode cX10_together 110 = .ok (.if_icmp .ne 12, 3) := by decide +kernel
theorem dX10_together_113 : decode cX10_together 113 = .ok (.aload_n 0, 1) := by decide +kernel
theorem dX10_together_114 : decode cX10_together 114 = .ok (.getfield 66, 3) := by decide +kernel
theorem dX10_together_117 : decode cX10_together 117 = .ok (.iconst 0, 1) := by decide +kernel
theorem dX10_together_118 : decode cX10_together 118 = .ok (.iaload, 1) := by decide +kernel
theorem dX10_together_119 : decode cX10_together 119 = .ok (.goto 9, 3) := by decide +kernel
theorem dX10_together_122 : decode cX10_together 122 = .ok (.aload_n 0, 1) := by decide +kernel
theorem dX10_together_123 : decode cX10_together 123 = .ok (.iload 4, 2) := by decide +kernel
theorem dX10_together_125 : decode cX10_together 125 = .ok (.invokevirtual 291, 3) := by decide +kernel
theorem dX10_together_128 : decode cX10_together 128 = .ok (.istore 5, 2) := by decide +kernel
theorem dX10_together_130 : decode cX10_together 130 = .ok (.aload_n 0, 1) := by decide +kernel
theorem dX10_together_131 : decode cX10_together 131 = .ok (.getfield 134, 3) := by decide +kernel
theorem dX10_together_134 : decode cX10_together 134 = .ok (.ifCond .le 4, 3) := by decide +kernel
theorem dX10_together_137 : decode cX10_together 137 = .ok (.return_, 1) := by decide +kernel
theorem dX10_together_138 : decode cX10_together 138 = .ok (.iconst 1, 1) := by decide +kernel
theorem dX10_together_139 : decode cX10_together 139 = .ok (.istore 6, 2) := by decide +kernel
theorem dX10_together_141 : decode cX10_together 141 = .ok (.iload 6, 2) := by decide +kernel
theorem dX10_together_143 : decode cX10_together 143 = .ok (.iload_n 1, 1) := by decide +kernel
theorem dX10_together_144 : decode cX10_together 144 = .ok (.if_icmp .gt 53, 3) := by decide +kernel
theorem dX10_together_147 : decode cX10_together 147 = .ok (.aload_n 0, 1) := by decide +kernel
theorem dX10_together_148 : decode cX10_together 148 = .ok (.getfield 93, 3) := by decide +kernel
theorem dX10_together_151 : decode cX10_together 151 = .ok (.iload 6, 2) := by decide +kernel
theorem dX10_together_153 : decode cX10_together 153 = .ok (.iaload, 1) := by decide +kernel
theorem dX10_together_154 : decode cX10_together 154 = .ok (.istore 7, 2) := by decide +kernel
theorem dX10_together_156 : decode cX10_together 156 = .ok (.aload_n 0, 1) := by decide +kernel
theorem dX10_together_157 : decode cX10_together 157 = .ok (.getfield 90, 3) := by decide +kernel
theorem dX10_together_160 : decode cX10_together 160 = .ok (.iload 7, 2) := by decide +kernel
theorem dX10_together_162 : decode cX10_together 162 = .ok (.iaload, 1) := by decide +kernel
theorem dX10_together_163 : decode cX10_together 163 = .ok (.ifCond .le 17, 3) := by decide +kernel
theorem dX10_together_166 : decode cX10_together 166 = .ok (.aload_n 0, 1) := by decide +kernel
theorem dX10_together_167 : decode cX10_together 167 = .ok (.getfield 90, 3) := by decide +kernel
theorem dX10_together_170 : decode cX10_together 170 = .ok (.iload 7, 2) := by decide +kernel
theorem dX10_together_172 : decode cX10_together 172 = .ok (.dup2, 1) := by decide +kernel
theorem dX10_together_173 : decode cX10_together 173 = .ok (.iaload, 1) := by decide +kernel
theorem dX10_together_174 : decode cX10_together 174 = .ok (.iconst 1, 1) := by decide +kernel
theorem dX10_together_175 : decode cX10_together 175 = .ok (.isub, 1) := by decide +kernel
theorem dX10_together_176 : decode cX10_together 176 = .ok (.iastore, 1) := by decide +kernel
theorem dX10_together_177 : decode cX10_together 177 = .ok (.goto 14, 3) := by decide +kernel
theorem dX10_together_180 : decode cX10_together 180 = .ok (.aload_n 0, 1) := by decide +kernel
theorem dX10_together_181 : decode cX10_together 181 = .ok (.getfield 84, 3) := by decide +kernel
theorem dX10_together_184 : decode cX10_together 184 = .ok (.iload 7, 2) := by decide +kernel
theorem dX10_together_186 : decode cX10_together 186 = .ok (.dup2, 1) := by decide +kernel
theorem dX10_together_187 : decode cX10_together 187 = .ok (.iaload, 1) := by decide +kernel
theorem dX10_together_188 : decode cX10_together 188 = .ok (.iconst 1, 1) := by decide +kernel
theorem dX10_together_189 : decode cX10_together 189 = .ok (.iadd, 1) := by decide +kernel
theorem dX10_together_190 : decode cX10_together 190 = .ok (.iastore, 1) := by decide +kernel
theorem dX10_together_191 : decode cX10_together 191 = .ok (.iinc 6 1, 3) := by decide +kernel
theorem dX10_together_194 : decode cX10_together 194 = .ok (.goto (-53), 3) := by decide +kernel
theorem dX10_together_197 : decode cX10_together 197 = .ok (.iload_n 3, 1) := by decide +kernel
theorem dX10_together_198 : decode cX10_together 198 = .ok (.ifCond .eq 16, 3) := by decide +kernel
theorem dX10_together_201 : decode cX10_together 201 = .ok (.aload_n 0, 1) := by decide +kernel
theorem dX10_together_202 : decode cX10_together 202 = .ok (.getfield 90, 3) := by decide +kernel
theorem dX10_together_205 : decode cX10_together 205 = .ok (.iload_n 2, 1) := by decide +kernel
theorem dX10_together_206 : decode cX10_together 206 = .ok (.dup2, 1) := by decide +kernel
theorem dX10_together_207 : decode cX10_together 207 = .ok (.iaload, 1) := by decide +kernel
theorem dX10_together_208 : decode cX10_together 208 = .ok (.iconst 1, 1) := by decide +kernel
theorem dX10_together_209 : decode cX10_together 209 = .ok (.iadd, 1) := by decide +kernel
theorem dX10_together_210 : decode cX10_together 210 = .ok (.iastore, 1) := by decide +kernel
theorem dX10_together_211 : decode cX10_together 211 = .ok (.goto 10, 3) := by decide +kernel
theorem dX10_together_214 : decode cX10_together 214 = .ok (.aload_n 0, 1) := by decide +kernel
theorem dX10_together_215 : decode cX10_together 215 = .ok (.iload_n 2, 1) := by decide +kernel
theorem dX10_together_216 : decode cX10_together 216 = .ok (.iload 5, 2) := by decide +kernel
theorem dX10_together_218 : decode cX10_together 218 = .ok (.invokevirtual 307, 3) := by decide +kernel
theorem dX10_together_221 : decode cX10_together 221 = .ok (.return_, 1) := by decide +kernel
theorem dX10_rotate_0 : decode cX10_rotate 0 = .ok (.aload_n 0, 1) := by decide +kernel
theorem dX10_rotate_1 : decode cX10_rotate 1 = .ok (.getfield 93, 3) := by decide +kernel
theorem dX10_rotate_4 : decode cX10_rotate 4 = .ok (.iload_n 1, 1) := by decide +kernel
theorem dX10_rotate_5 : decode cX10_rotate 5 = .ok (.iaload, 1) := by decide +kernel
theorem dX10_rotate_6 : decode cX10_rotate 6 = .ok (.istore_n 2, 1) := by decide +kernel
theorem dX10_rotate_7 : decode cX10_rotate 7 = .ok (.iload_n 1, 1) := by decide +kernel
theorem dX10_rotate_8 : decode cX10_rotate 8 = .ok (.istore_n 3, 1) := by decide +kernel
theorem dX10_rotate_9 : decode cX10_rotate 9 = .ok (.iload_n 3, 1) := by decide +kernel
theorem dX10_rotate_10 : decode cX10_rotate 10 = .ok (.iconst 1, 1) := by decide +kernel
theorem dX10_rotate_11 : decode cX10_rotate 11 = .ok (.if_icmp .le 23, 3) := by decide +kernel
theorem dX10_rotate_14 : decode cX10_rotate 14 = .ok (.aload_n 0, 1) := by decide +kernel
theorem dX10_rotate_15 : decode cX10_rotate 15 = .ok (.getfield 93, 3) := by decide +kernel
theorem dX10_rotate_18 : decode cX10_rotate 18 = .ok (.iload_n 3, 1) := by decide +kernel
theorem dX10_rotate_19 : decode cX10_rotate 19 = .ok (.aload_n 0, 1) := by decide +kernel
theorem dX10_rotate_20 : decode cX10_rotate 20 = .ok (.getfield 93, 3) := by decide +kernel
theorem dX10_rotate_23 : decode cX10_rotate 23 = .ok (.iload_n 3, 1) := by decide +kernel
theorem dX10_rotate_24 : decode cX10_rotate 24 = .ok (.iconst 1, 1) := by decide +kernel
theorem dX10_rotate_25 : decode cX10_rotate 25 = .ok (.isub, 1) := by decide +kernel
theorem dX10_rotate_26 : decode cX10_rotate 26 = .ok (.iaload, 1) := by decide +kernel
theorem dX10_rotate_27 : decode cX10_rotate 27 = .ok (.iastore, 1) := by decide +kernel
theorem dX10_rotate_28 : decode cX10_rotate 28 = .ok (.iinc 3 (-1), 3) := by decide +kernel
theorem dX10_rotate_31 : decode cX10_rotate 31 = .ok (.goto (-22), 3) := by decide +kernel
theorem dX10_rotate_34 : decode cX10_rotate 34 = .ok (.aload_n 0, 1) := by decide +kernel
theorem dX10_rotate_35 : decode cX10_rotate 35 = .ok (.getfield 93, 3) := by decide +kernel
theorem dX10_rotate_38 : decode cX10_rotate 38 = .ok (.iconst 1, 1) := by decide +kernel
theorem dX10_rotate_39 : decode cX10_rotate 39 = .ok (.iload_n 2, 1) := by decide +kernel
theorem dX10_rotate_40 : decode cX10_rotate 40 = .ok (.iastore, 1) := by decide +kernel
theorem dX10_rotate_41 : decode cX10_rotate 41 = .ok (.aload_n 0, 1) := by decide +kernel
theorem dX10_rotate_42 : decode cX10_rotate 42 = .ok (.getfield 93, 3) := by decide +kernel
theorem dX10_rotate_45 : decode cX10_rotate 45 = .ok (.iload_n 1, 1) := by decide +kernel
theorem dX10_rotate_46 : decode cX10_rotate 46 = .ok (.iaload, 1) := by decide +kernel
theorem dX10_rotate_47 : decode cX10_rotate 47 = .ok (.istore_n 3, 1) := by decide +kernel
theorem dX10_rotate_48 : decode cX10_rotate 48 = .ok (.aload_n 0, 1) := by decide +kernel
theorem dX10_rotate_49 : decode cX10_rotate 49 = .ok (.getfield 84, 3) := by decide +kernel
theorem dX10_rotate_52 : decode cX10_rotate 52 = .ok (.iload_n 3, 1) := by decide +kernel
theorem dX10_rotate_53 : decode cX10_rotate 53 = .ok (.iconst 0, 1) := by decide +kernel
theorem dX10_rotate_54 : decode cX10_rotate 54 = .ok (.iastore, 1) := by decide +kernel
theorem dX10_rotate_55 : decode cX10_rotate 55 = .ok (.aload_n 0, 1) := by decide +kernel
theorem dX10_rotate_56 : decode cX10_rotate 56 = .ok (.getfield 87, 3) := by decide +kernel
theorem dX10_rotate_59 : decode cX10_rotate 59 = .ok (.iload_n 3, 1) := by decide +kernel
theorem dX10_rotate_60 : decode cX10_rotate 60 = .ok (.iconst 0, 1) := by decide +kernel
theorem dX10_rotate_61 : decode cX10_rotate 61 = .ok (.iastore, 1) := by decide +kernel
theorem dX10_rotate_62 : decode cX10_rotate 62 = .ok (.return_, 1) := by decide +kernel
theorem dX10_gather_0 : decode cX10_gather 0 = .ok (.aload_n 0, 1) := by decide +kernel
theorem dX10_gather_1 : decode cX10_gather 1 = .ok (.iconst 0, 1) := by decide +kernel
theorem dX10_gather_2 : decode cX10_gather 2 = .ok (.putfield 200, 3) := by decide +kernel
theorem dX10_gather_5 : decode cX10_gather 5 = .ok (.iconst 1, 1) := by decide +kernel
theorem dX10_gather_6 : decode cX10_gather 6 = .ok (.istore_n 2, 1) := by decide +kernel
theorem dX10_gather_7 : decode cX10_gather 7 = .ok (.iload_n 2, 1) := by decide +kernel
theorem dX10_gather_8 : decode cX10_gather 8 = .ok (.iload_n 1, 1) := by decide +kernel
theorem dX10_gather_9 : decode cX10_gather 9 = .ok (.if_icmp .gt 73, 3) := by decide +kernel
theorem dX10_gather_12 : decode cX10_gather 12 = .ok (.aload_n 0, 1) := by decide +kernel
theorem dX10_gather_13 : decode cX10_gather 13 = .ok (.getfield 93, 3) := by decide +kernel
theorem dX10_gather_16 : decode cX10_gather 16 = .ok (.iload_n 2, 1) := by decide +kernel
theorem dX10_gather_17 : decode cX10_gather 17 = .ok (.iaload, 1) := by decide +kernel
theorem dX10_gather_18 : decode cX10_gather 18 = .ok (.istore_n 3, 1) := by decide +kernel
theorem dX10_gather_19 : decode cX10_gather 19 = .ok (.aload_n 0, 1) := by decide +kernel
theorem dX10_gather_20 : decode cX10_gather 20 = .ok (.getfield 84, 3) := by decide +kernel
theorem dX10_gather_23 : decode cX10_gather 23 = .ok (.iload_n 3, 1) := by decide +kernel
theorem dX10_gather_24 : decode cX10_gather 24 = .ok (.iaload, 1) := by decide +kernel
theorem dX10_gather_25 : decode cX10_gather 25 = .ok (.istore 4, 2) := by decide +kernel
theorem dX10_gather_27 : decode cX10_gather 27 = .ok (.iload 4, 2) := by decide +kernel
theorem dX10_gather_29 : decode cX10_gather 29 = .ok (.aload_n 0, 1) := by decide +kernel
theorem dX10_gather_30 : decode cX10_gather 30 = .ok (.getfield 87, 3) := by decide +kernel
theorem dX10_gather_33 : decode cX10_gather 33 = .ok (.iload_n 3, 1) := by decide +kernel
theorem dX10_gather_34 : decode cX10_gather 34 = .ok (.iaload, 1) := by decide +kernel
theorem dX10_gather_35 : decode cX10_gather 35 = .ok (.if_icmp .ge 41, 3) := by decide +kernel
theorem dX10_gather_38 : decode cX10_gather 38 = .ok (.aload_n 0, 1) := by decide +kernel
theorem dX10_gather_39 : decode cX10_gather 39 = .ok (.getfield 36, 3) := by decide +kernel
theorem dX10_gather_42 : decode cX10_gather 42 = .ok (.aload_n 0, 1) := by decide +kernel
theorem dX10_gather_43 : decode cX10_gather 43 = .ok (.getfield 200, 3) := by decide +kernel
theorem dX10_gather_46 : decode cX10_gather 46 = .ok (.aload_n 0, 1) := by decide +kernel
theorem dX10_gather_47 : decode cX10_gather 47 = .ok (.getfield 81, 3) := by decide +kernel
theorem dX10_gather_50 : decode cX10_gather 50 = .ok (.sipush 208, 3) := by decide +kernel
theorem dX10_gather_53 : decode cX10_gather 53 = .ok (.iload_n 3, 1) := by decide +kernel
theorem dX10_gather_54 : decode cX10_gather 54 = .ok (.imul, 1) := by decide +kernel
theorem dX10_gather_55 : decode cX10_gather 55 = .ok (.iload 4, 2) := by decide +kernel
theorem dX10_gather_57 : decode cX10_gather 57 = .ok (.iadd, 1) := by decide +kernel
theorem dX10_gather_58 : decode cX10_gather 58 = .ok (.iaload, 1) := by decide +kernel
theorem dX10_gather_59 : decode cX10_gather 59 = .ok (.iastore, 1) := by decide +kernel
theorem dX10_gather_60 : decode cX10_gather 60 = .ok (.aload_n 0, 1) := by decide +kernel
theorem dX10_gather_61 : decode cX10_gather 61 = .ok (.dup, 1) := by decide +kernel
theorem dX10_gather_62 : decode cX10_gather 62 = .ok (.getfield 200, 3) := by decide +kernel
theorem dX10_gather_65 : decode cX10_gather 65 = .ok (.iconst 1, 1) := by decide +kernel
theorem dX10_gather_66 : decode cX10_gather 66 = .ok (.iadd, 1) := by decide +kernel
theorem dX10_gather_67 : decode cX10_gather 67 = .ok (.putfield 200, 3) := by decide +kernel
theorem dX10_gather_70 : decode cX10_gather 70 = .ok (.iinc 4 1, 3) := by decide +kernel
theorem dX10_gather_73 : decode cX10_gather 73 = .ok (.goto (-46), 3) := by decide +kernel
theorem dX10_gather_76 : decode cX10_gather 76 = .ok (.iinc 2 1, 3) := by decide +kernel
theorem dX10_gather_79 : decode cX10_gather 79 = .ok (.goto (-72), 3) := by decide +kernel
theorem dX10_gather_82 : decode cX10_gather 82 = .ok (.return_, 1) := by decide +kernel
set_option maxRecDepth 20000 in
theorem ggX10_poly_X10_isIn : GoodIn wsX10_poly wsX10_isIn := goodIn_r _ [10] (by decide +kernel) (by decide +kernel)
set_option maxRecDepth 20000 in
theorem gX10_poly_X10_isIn : GoodIn wsX10_poly (va_wsS RX10 193 yX10_isIn wsX10_isIn) := goodIn_app (goodIn_of _ (by decide +kernel)) ggX10_poly_X10_isIn
set_option maxRecDepth 20000 in
theorem ggX10_poly_X10_lay : GoodIn wsX10_poly wsX10_lay := goodIn_r _ [14, 15, 16, 17, 18, 6, 5, 3, 19, 20, 21, 22, 9, 23, 24, 25, 26, 27, 28, 167, 168, 169, 170, 171, 172, 173, 174, 175, 176, 177, 178, 179, 180, 181, 182, 183, 184, 185, 186, 187, 188, 189, 190, 191, 192, 193, 194, 195, 196, 197, 198, 199, 200, 201, 202, 203, 204, 205, 206, 207, 208, 209, 210, 211, 212, 213, 214, 215, 216, 217, 218, 219, 220, 221, 222, 223] (by decide +kernel) (by decide +kernel)
set_option maxRecDepth 20000 in
theorem gX10_poly_X10_lay : GoodIn wsX10_poly (wsV RX10 317 RX10 yX10_lay wsX10_lay) := goodIn_app (goodIn_of _ (by decide +kernel)) ggX10_poly_X10_lay
set_option maxRecDepth 20000 in
theorem ggX10_poly_X10_together : GoodIn wsX10_poly wsX10_together := goodIn_r _ [32, 15, 18, 16, 17, 33, 24, 4, 34, 35, 36, 9, 37, 38, 39, 40, 41, 42, 43, 44, 45, 46, 47, 48, 49, 50, 51, 52, 53, 54, 55, 56, 57, 58, 59, 60, 61, 62, 63, 64, 65, 66, 67, 68, 69, 70, 71, 72, 73, 74, 75, 76, 77, 78, 79, 80, 81, 82, 83, 84, 85, 86, 87, 88, 89, 90, 91, 92, 93, 94, 95, 96, 97, 98, 99, 100, 101, 102, 103, 104, 105, 106, 107, 108, 109, 110, 111, 112, 113, 114, 115, 116, 117, 118, 119, 120, 121, 122, 123, 124, 125, 126, 127, 128, 129, 130, 131, 132, 133, 134, 135, 136, 137, 138, 139, 140, 141, 142, 143, 144, 145, 146, 147, 148, 149, 150, 20, 21, 22, 23, 167, 168, 169, 170, 171, 172, 173, 174, 175, 176, 177, 178, 179, 180, 181, 182, 183, 184, 185, 186, 187, 188, 189, 190, 191, 192, 193, 194, 195, 196, 197, 198, 199, 200, 201, 202, 203, 204, 205, 206, 207, 208, 209, 210, 211, 212, 213, 214, 215, 216, 217, 218, 219, 220, 221, 222, 223] (by decide +kernel) (by decide +kernel)
set_option maxRecDepth 20000 in
theorem gX10_poly_X10_together : GoodIn wsX10_poly (wsV RX10 320 RX10 yX10_together wsX10_together) := goodIn_app (goodIn_of _ (by decide +kernel)) ggX10_poly_X10_together
set_option maxRecDepth 20000 in
theorem ggX10_poly_X10_lower : GoodIn wsX10_poly wsX10_lower := goodIn_r _ [154, 6, 167, 168, 169, 170, 171, 172, 173, 174, 175, 176, 177, 178, 179, 180, 181, 182, 183, 184, 185, 186, 187, 188, 189, 190, 191, 192, 193, 194, 195, 196, 197, 198, 199, 200, 201, 202, 203, 204, 205, 206, 207, 208, 209, 210, 211, 212, 213, 214, 215, 216, 217, 218, 219, 220, 221, 222, 223] (by decide +kernel) (by decide +kernel)
set_option maxRecDepth 20000 in
theorem gX10_poly_X10_lower : GoodIn wsX10_poly (wsV RX10 323 RX10 yX10_lower wsX10_lower) := goodIn_app (goodIn_of _ (by decide +kernel)) ggX10_poly_X10_lower
set_option maxRecDepth 20000 in
theorem ggX10_poly_X10_rotate : GoodIn wsX10_poly wsX10_rotate := goodIn_r _ [158, 15, 16, 17, 167, 168, 169, 170, 171, 172, 173, 174, 175, 176, 177, 178, 179, 180, 181, 182, 183, 184, 185, 186, 187, 188, 189, 190, 191, 192, 193, 194, 195, 196, 197, 198, 199, 200, 201, 202, 203, 204, 205, 206, 207, 208, 209, 210, 211, 212, 213, 214, 215, 216, 217, 218, 219, 220, 221, 222, 223] (by decide +kernel) (by decide +kernel)
set_option maxRecDepth 20000 in
theorem gX10_poly_X10_rotate : GoodIn wsX10_poly (wsV RX10 326 RX10 yX10_rotate wsX10_rotate) := goodIn_app (goodIn_of _ (by decide +kernel)) ggX10_poly_X10_rotate
set_option maxRecDepth 20000 in
theorem ggX10_poly_X10_gather : GoodIn wsX10_poly wsX10_gather := goodIn_r _ [162, 3, 15, 16, 17, 19, 24, 167, 168, 169, 170, 171, 172, 173, 174, 175, 176, 177, 178, 179, 180, 181, 182, 183, 184, 185, 186, 187, 188, 189, 190, 191, 192, 193, 194, 195, 196, 197, 198, 199, 200, 201, 202, 203, 204, 205, 206, 207, 208, 209, 210, 211, 212, 213, 214, 215, 216, 217, 218, 219, 220, 221, 222, 223] (by decide +kernel) (by decide +kernel)
set_option maxRecDepth 20000 in
theorem gX10_poly_X10_gather : GoodIn wsX10_poly (wsV RX10 329 RX10 yX10_gather wsX10_gather) := goodIn_app (goodIn_of _ (by decide +kernel)) ggX10_poly_X10_gather
set_option maxRecDepth 20000 in
theorem ggX10_poly_X10_ended : GoodIn wsX10_poly wsX10_ended := goodIn_r _ [166, 4, 1, 2, 3, 167, 168, 169, 170, 171, 172, 173, 174, 175, 176, 177, 178, 179, 180, 181, 182, 183, 184, 185, 186, 187, 188, 189, 190, 191, 192, 193, 194, 195, 196, 197, 198, 199, 200, 201, 202, 203, 204, 205, 206, 207, 208, 209, 210, 211, 212, 213, 214, 215, 216, 217, 218, 219, 220, 221, 222, 223] (by decide +kernel) (by decide +kernel)
set_option maxRecDepth 20000 in
theorem gX10_poly_X10_ended : GoodIn wsX10_poly (wsV RX10 275 RX10 yX10_ended wsX10_ended) := goodIn_app (goodIn_of _ (by decide +kernel)) ggX10_poly_X10_ended
theorem dX10_poly_0 : decode cX10_poly 0 = .ok (.aload_n 0, 1) := by decide +kernel
theorem dX10_poly_1 : decode cX10_poly 1 = .ok (.iload_n 1, 1) := by decide +kernel
theorem dX10_poly_2 : decode cX10_poly 2 = .ok (.iconst 3, 1) := by decide +kernel
theorem dX10_poly_3 : decode cX10_poly 3 = .ok (.bipush 6, 2) := by decide +kernel
theorem dX10_poly_5 : decode cX10_poly 5 = .ok (.invokestatic 193, 3) := by decide +kernel
theorem dX10_poly_8 : decode cX10_poly 8 = .ok (.ifCond .ne 7, 3) := by decide +kernel
theorem dX10_poly_11 : decode cX10_poly 11 = .ok (.iconst 1, 1) := by decide +kernel
theorem dX10_poly_12 : decode cX10_poly 12 = .ok (.goto 15, 3) := by decide +kernel
theorem dX10_poly_15 : decode cX10_poly 15 = .ok (.aload_n 0, 1) := by decide +kernel
theorem dX10_poly_16 : decode cX10_poly 16 = .ok (.getfield 197, 3) := by decide +kernel
theorem dX10_poly_19 : decode cX10_poly 19 = .ok (.ifCond .eq 7, 3) := by decide +kernel
theorem dX10_poly_22 : decode cX10_poly 22 = .ok (.iconst 2, 1) := by decide +kernel
theorem dX10_poly_23 : decode cX10_poly 23 = .ok (.goto 4, 3) := by decide +kernel
theorem dX10_poly_26 : decode cX10_poly 26 = .ok (.iconst 0, 1) := by decide +kernel
theorem dX10_poly_27 : decode cX10_poly 27 = .ok (.putfield 125, 3) := by decide +kernel
theorem dX10_poly_30 : decode cX10_poly 30 = .ok (.aload_n 0, 1) := by decide +kernel
theorem dX10_poly_31 : decode cX10_poly 31 = .ok (.getfield 125, 3) := by decide +kernel
theorem dX10_poly_34 : decode cX10_poly 34 = .ok (.ifCond .gt 10, 3) := by decide +kernel
theorem dX10_poly_37 : decode cX10_poly 37 = .ok (.aload_n 0, 1) := by decide +kernel
theorem dX10_poly_38 : decode cX10_poly 38 = .ok (.getfield 200, 3) := by decide +kernel
theorem dX10_poly_41 : decode cX10_poly 41 = .ok (.ifCond .ne 5, 3) := by decide +kernel
theorem dX10_poly_44 : decode cX10_poly 44 = .ok (.iconst 0, 1) := by decide +kernel
theorem dX10_poly_45 : decode cX10_poly 45 = .ok (.ireturn, 1) := by decide +kernel
theorem dX10_poly_46 : decode cX10_poly 46 = .ok (.iload_n 1, 1) := by decide +kernel
theorem dX10_poly_47 : decode cX10_poly 47 = .ok (.iconst 1, 1) := by decide +kernel
theorem dX10_poly_48 : decode cX10_poly 48 = .ok (.isub, 1) := by decide +kernel
theorem dX10_poly_49 : decode cX10_poly 49 = .ok (.istore_n 2, 1) := by decide +kernel
theorem dX10_poly_50 : decode cX10_poly 50 = .ok (.aload_n 0, 1) := by decide +kernel
theorem dX10_poly_51 : decode cX10_poly 51 = .ok (.iconst 0, 1) := by decide +kernel
theorem dX10_poly_52 : decode cX10_poly 52 = .ok (.putfield 134, 3) := by decide +kernel
theorem dX10_poly_55 : decode cX10_poly 55 = .ok (.aload_n 0, 1) := by decide +kernel
theorem dX10_poly_56 : decode cX10_poly 56 = .ok (.iload_n 1, 1) := by decide +kernel
theorem dX10_poly_57 : decode cX10_poly 57 = .ok (.invokevirtual 317, 3) := by decide +kernel
theorem dX10_poly_60 : decode cX10_poly 60 = .ok (.aload_n 0, 1) := by decide +kernel
theorem dX10_poly_61 : decode cX10_poly 61 = .ok (.getfield 304, 3) := by decide +kernel
theorem dX10_poly_64 : decode cX10_poly 64 = .ok (.ifCond .le 69, 3) := by decide +kernel
theorem dX10_poly_67 : decode cX10_poly 67 = .ok (.aload_n 0, 1) := by decide +kernel
theorem dX10_poly_68 : decode cX10_poly 68 = .ok (.getfield 134, 3) := by decide +kernel
theorem dX10_poly_71 : decode cX10_poly 71 = .ok (.ifCond .ne 62, 3) := by decide +kernel
theorem dX10_poly_74 : decode cX10_poly 74 = .ok (.aload_n 0, 1) := by decide +kernel
theorem dX10_poly_75 : decode cX10_poly 75 = .ok (.getfield 96, 3) := by decide +kernel
theorem dX10_poly_78 : decode cX10_poly 78 = .ok (.iload_n 2, 1) := by decide +kernel
theorem dX10_poly_79 : decode cX10_poly 79 = .ok (.iaload, 1) := by decide +kernel
theorem dX10_poly_80 : decode cX10_poly 80 = .ok (.istore_n 3, 1) := by decide +kernel
theorem dX10_poly_81 : decode cX10_poly 81 = .ok (.iload_n 3, 1) := by decide +kernel
theorem dX10_poly_82 : decode cX10_poly 82 = .ok (.ifCond .le 21, 3) := by decide +kernel
theorem dX10_poly_85 : decode cX10_poly 85 = .ok (.aload_n 0, 1) := by decide +kernel
theorem dX10_poly_86 : decode cX10_poly 86 = .ok (.getfield 134, 3) := by decide +kernel
theorem dX10_poly_89 : decode cX10_poly 89 = .ok (.ifCond .ne 14, 3) := by decide +kernel
theorem dX10_poly_92 : decode cX10_poly 92 = .ok (.aload_n 0, 1) := by decide +kernel
theorem dX10_poly_93 : decode cX10_poly 93 = .ok (.iload_n 2, 1) := by decide +kernel
theorem dX10_poly_94 : decode cX10_poly 94 = .ok (.invokevirtual 320, 3) := by decide +kernel
theorem dX10_poly_97 : decode cX10_poly 97 = .ok (.iinc 3 (-1), 3) := by decide +kernel
theorem dX10_poly_100 : decode cX10_poly 100 = .ok (.goto (-19), 3) := by decide +kernel
theorem dX10_poly_103 : decode cX10_poly 103 = .ok (.aload_n 0, 1) := by decide +kernel
theorem dX10_poly_104 : decode cX10_poly 104 = .ok (.getfield 134, 3) := by decide +kernel
theorem dX10_poly_107 : decode cX10_poly 107 = .ok (.ifCond .ne 23, 3) := by decide +kernel
theorem dX10_poly_110 : decode cX10_poly 110 = .ok (.aload_n 0, 1) := by decide +kernel
theorem dX10_poly_111 : decode cX10_poly 111 = .ok (.dup, 1) := by decide +kernel
theorem dX10_poly_112 : decode cX10_poly 112 = .ok (.getfield 304, 3) := by decide +kernel
theorem dX10_poly_115 : decode cX10_poly 115 = .ok (.iconst 1, 1) := by decide +kernel
theorem dX10_poly_116 : decode cX10_poly 116 = .ok (.isub, 1) := by decide +kernel
theorem dX10_poly_117 : decode cX10_poly 117 = .ok (.putfield 304, 3) := by decide +kernel
theorem dX10_poly_120 : decode cX10_poly 120 = .ok (.aload_n 0, 1) := by decide +kernel
theorem dX10_poly_121 : decode cX10_poly 121 = .ok (.iload_n 2, 1) := by decide +kernel
theorem dX10_poly_122 : decode cX10_poly 122 = .ok (.invokevirtual 323, 3) := by decide +kernel
theorem dX10_poly_125 : decode cX10_poly 125 = .ok (.aload_n 0, 1) := by decide +kernel
theorem dX10_poly_126 : decode cX10_poly 126 = .ok (.iload_n 1, 1) := by decide +kernel
theorem dX10_poly_127 : decode cX10_poly 127 = .ok (.invokevirtual 326, 3) := by decide +kernel
theorem dX10_poly_130 : decode cX10_poly 130 = .ok (.goto (-70), 3) := by decide +kernel
theorem dX10_poly_133 : decode cX10_poly 133 = .ok (.aload_n 0, 1) := by decide +kernel
theorem dX10_poly_134 : decode cX10_poly 134 = .ok (.iload_n 1, 1) := by decide +kernel
theorem dX10_poly_135 : decode cX10_poly 135 = .ok (.invokevirtual 329, 3) := by decide +kernel
theorem dX10_poly_138 : decode cX10_poly 138 = .ok (.aload_n 0, 1) := by decide +kernel
theorem dX10_poly_139 : decode cX10_poly 139 = .ok (.iconst 3, 1) := by decide +kernel
theorem dX10_poly_140 : decode cX10_poly 140 = .ok (.invokevirtual 275, 3) := by decide +kernel
theorem dX10_poly_143 : decode cX10_poly 143 = .ok (.ireturn, 1) := by decide +kernel
set_option maxRecDepth 20000 in
theorem ggX10_plan_X10_isIn : GoodIn wsX10_plan wsX10_isIn := goodIn_r _ [9] (by decide +kernel) (by decide +kernel)
set_option maxRecDepth 20000 in
theorem gX10_plan_X10_isIn : GoodIn wsX10_plan (va_wsS RX10 193 yX10_isIn wsX10_isIn) := goodIn_app (goodIn_of _ (by decide +kernel)) ggX10_plan_X10_isIn
set_option maxRecDepth 20000 in
theorem ggX10_plan_X10_per : GoodIn wsX10_plan wsX10_per := goodIn_r _ [13, 14, 15, 16, 17, 18, 19, 20, 21, 22, 23, 24, 25, 26, 27, 28, 29, 30, 31, 32, 33, 34, 35, 36, 37, 38, 39, 40, 41, 42, 43, 44, 45, 46, 47, 48, 49, 50, 51, 52, 53, 54, 55, 56, 57, 58, 59, 60, 61, 62, 63, 64, 65, 66, 67, 68, 69, 70, 71, 72] (by decide +kernel) (by decide +kernel)
set_option maxRecDepth 20000 in
theorem gX10_plan_X10_per : GoodIn wsX10_plan (wsV RX10 179 RX10 yX10_per wsX10_per) := goodIn_app (goodIn_of _ (by decide +kernel)) ggX10_plan_X10_per
theorem dX10_plan_0 : decode cX10_plan 0 = .ok (.aload_n 0, 1) := by decide +kernel
theorem dX10_plan_1 : decode cX10_plan 1 = .ok (.iload_n 1, 1) := by decide +kernel
theorem dX10_plan_2 : decode cX10_plan 2 = .ok (.iconst 2, 1) := by decide +kernel
theorem dX10_plan_3 : decode cX10_plan 3 = .ok (.bipush 8, 2) := by decide +kernel
theorem dX10_plan_5 : decode cX10_plan 5 = .ok (.invokestatic 193, 3) := by decide +kernel
theorem dX10_plan_8 : decode cX10_plan 8 = .ok (.ifCond .eq 7, 3) := by decide +kernel
theorem dX10_plan_11 : decode cX10_plan 11 = .ok (.iconst 0, 1) := by decide +kernel
theorem dX10_plan_12 : decode cX10_plan 12 = .ok (.goto 4, 3) := by decide +kernel
theorem dX10_plan_15 : decode cX10_plan 15 = .ok (.iconst 1, 1) := by decide +kernel
theorem dX10_plan_16 : decode cX10_plan 16 = .ok (.putfield 125, 3) := by decide +kernel
theorem dX10_plan_19 : decode cX10_plan 19 = .ok (.aload_n 0, 1) := by decide +kernel
theorem dX10_plan_20 : decode cX10_plan 20 = .ok (.getfield 125, 3) := by decide +kernel
theorem dX10_plan_23 : decode cX10_plan 23 = .ok (.ifCond .le 5, 3) := by decide +kernel
theorem dX10_plan_26 : decode cX10_plan 26 = .ok (.iconst 0, 1) := by decide +kernel
theorem dX10_plan_27 : decode cX10_plan 27 = .ok (.ireturn, 1) := by decide +kernel
theorem dX10_plan_28 : decode cX10_plan 28 = .ok (.aload_n 0, 1) := by decide +kernel
theorem dX10_plan_29 : decode cX10_plan 29 = .ok (.getfield 200, 3) := by decide +kernel
theorem dX10_plan_32 : decode cX10_plan 32 = .ok (.istore_n 2, 1) := by decide +kernel
theorem dX10_plan_33 : decode cX10_plan 33 = .ok (.iconst 0, 1) := by decide +kernel
theorem dX10_plan_34 : decode cX10_plan 34 = .ok (.istore_n 3, 1) := by decide +kernel
theorem dX10_plan_35 : decode cX10_plan 35 = .ok (.iload_n 3, 1) := by decide +kernel
theorem dX10_plan_36 : decode cX10_plan 36 = .ok (.iload_n 2, 1) := by decide +kernel
theorem dX10_plan_37 : decode cX10_plan 37 = .ok (.if_icmp .ge 26, 3) := by decide +kernel
theorem dX10_plan_40 : decode cX10_plan 40 = .ok (.aload_n 0, 1) := by decide +kernel
theorem dX10_plan_41 : decode cX10_plan 41 = .ok (.getfield 99, 3) := by decide +kernel
theorem dX10_plan_44 : decode cX10_plan 44 = .ok (.iload_n 3, 1) := by decide +kernel
theorem dX10_plan_45 : decode cX10_plan 45 = .ok (.aload_n 0, 1) := by decide +kernel
theorem dX10_plan_46 : decode cX10_plan 46 = .ok (.getfield 30, 3) := by decide +kernel
theorem dX10_plan_49 : decode cX10_plan 49 = .ok (.aload_n 0, 1) := by decide +kernel
theorem dX10_plan_50 : decode cX10_plan 50 = .ok (.getfield 36, 3) := by decide +kernel
theorem dX10_plan_53 : decode cX10_plan 53 = .ok (.iload_n 3, 1) := by decide +kernel
theorem dX10_plan_54 : decode cX10_plan 54 = .ok (.iaload, 1) := by decide +kernel
theorem dX10_plan_55 : decode cX10_plan 55 = .ok (.iaload, 1) := by decide +kernel
theorem dX10_plan_56 : decode cX10_plan 56 = .ok (.iastore, 1) := by decide +kernel
theorem dX10_plan_57 : decode cX10_plan 57 = .ok (.iinc 3 1, 3) := by decide +kernel
theorem dX10_plan_60 : decode cX10_plan 60 = .ok (.goto (-25), 3) := by decide +kernel
theorem dX10_plan_63 : decode cX10_plan 63 = .ok (.iconst 0, 1) := by decide +kernel
theorem dX10_plan_64 : decode cX10_plan 64 = .ok (.istore_n 3, 1) := by decide +kernel
theorem dX10_plan_65 : decode cX10_plan 65 = .ok (.iload_n 2, 1) := by decide +kernel
theorem dX10_plan_66 : decode cX10_plan 66 = .ok (.iconst 1, 1) := by decide +kernel
theorem dX10_plan_67 : decode cX10_plan 67 = .ok (.if_icmp .le 126, 3) := by decide +kernel
theorem dX10_plan_70 : decode cX10_plan 70 = .ok (.iconst 0, 1) := by decide +kernel
theorem dX10_plan_71 : decode cX10_plan 71 = .ok (.istore 4, 2) := by decide +kernel
theorem dX10_plan_73 : decode cX10_plan 73 = .ok (.iconst 0, 1) := by decide +kernel
theorem dX10_plan_74 : decode cX10_plan 74 = .ok (.istore 5, 2) := by decide +kernel
theorem dX10_plan_76 : decode cX10_plan 76 = .ok (.iload 5, 2) := by decide +kernel
theorem dX10_plan_78 : decode cX10_plan 78 = .ok (.iload_n 2, 1) := by decide +kernel
theorem dX10_plan_79 : decode cX10_plan 79 = .ok (.if_icmp .ge 108, 3) := by decide +kernel
theorem dX10_plan_82 : decode cX10_plan 82 = .ok (.iload_n 2, 1) := by decide +kernel
theorem dX10_plan_83 : decode cX10_plan 83 = .ok (.iload 5, 2) := by decide +kernel
theorem dX10_plan_85 : decode cX10_plan 85 = .ok (.isub, 1) := by decide +kernel
theorem dX10_plan_86 : decode cX10_plan 86 = .ok (.iload_n 1, 1) := by decide +kernel
theorem dX10_plan_87 : decode cX10_plan 87 = .ok (.if_icmp .ge 10, 3) := by decide +kernel
theorem dX10_plan_90 : decode cX10_plan 90 = .ok (.iload_n 2, 1) := by decide +kernel
theorem dX10_plan_91 : decode cX10_plan 91 = .ok (.iload 5, 2) := by decide +kernel
theorem dX10_plan_93 : decode cX10_plan 93 = .ok (.isub, 1) := by decide +kernel
theorem dX10_plan_94 : decode cX10_plan 94 = .ok (.goto 4, 3) := by decide +kernel
theorem dX10_plan_97 : decode cX10_plan 97 = .ok (.iload_n 1, 1) := by decide +kernel
theorem dX10_plan_98 : decode cX10_plan 98 = .ok (.istore 6, 2) := by decide +kernel
theorem dX10_plan_100 : decode cX10_plan 100 = .ok (.iconst 0, 1) := by decide +kernel
theorem dX10_plan_101 : decode cX10_plan 101 = .ok (.istore 7, 2) := by decide +kernel
theorem dX10_plan_103 : decode cX10_plan 103 = .ok (.iconst 0, 1) := by decide +kernel
theorem dX10_plan_104 : decode cX10_plan 104 = .ok (.istore 8, 2) := by decide +kernel
theorem dX10_plan_106 : decode cX10_plan 106 = .ok (.iload 8, 2) := by decide +kernel
theorem dX10_plan_108 : decode cX10_plan 108 = .ok (.iload 6, 2) := by decide +kernel
theorem dX10_plan_110 : decode cX10_plan 110 = .ok (.if_icmp .ge 55, 3) := by decide +kernel
theorem dX10_plan_113 : decode cX10_plan 113 = .ok (.aload_n 0, 1) := by decide +kernel
theorem dX10_plan_114 : decode cX10_plan 114 = .ok (.getfield 99, 3) := by decide +kernel
theorem dX10_plan_117 : decode cX10_plan 117 = .ok (.iload 5, 2) := by decide +kernel
theorem dX10_plan_119 : decode cX10_plan 119 = .ok (.iload 8, 2) := by decide +kernel
theorem dX10_plan_121 : decode cX10_plan 121 = .ok (.iadd, 1) := by decide +kernel
theorem dX10_plan_122 : decode cX10_plan 122 = .ok (.iaload, 1) := by decide +kernel
theorem dX10_plan_123 : decode cX10_plan 123 = .ok (.istore 9, 2) := by decide +kernel
theorem dX10_plan_125 : decode cX10_plan 125 = .ok (.iload 7, 2) := by decide +kernel
theorem dX10_plan_127 : decode cX10_plan 127 = .ok (.iload 9, 2) := by decide +kernel
theorem dX10_plan_129 : decode cX10_plan 129 = .ok (.iadd, 1) := by decide +kernel
theorem dX10_plan_130 : decode cX10_plan 130 = .ok (.istore 7, 2) := by decide +kernel
theorem dX10_plan_132 : decode cX10_plan 132 = .ok (.iload_n 3, 1) := by decide +kernel
theorem dX10_plan_133 : decode cX10_plan 133 = .ok (.iload 6, 2) := by decide +kernel
theorem dX10_plan_135 : decode cX10_plan 135 = .ok (.iconst 1, 1) := by decide +kernel
theorem dX10_plan_136 : decode cX10_plan 136 = .ok (.if_icmp .le 20, 3) := by decide +kernel
theorem dX10_plan_139 : decode cX10_plan 139 = .ok (.iload 9, 2) := by decide +kernel
theorem dX10_plan_141 : decode cX10_plan 141 = .ok (.aload_n 0, 1) := by decide +kernel
theorem dX10_plan_142 : decode cX10_plan 142 = .ok (.invokevirtual 179, 3) := by decide +kernel
theorem dX10_plan_145 : decode cX10_plan 145 = .ok (.iadd, 1) := by decide +kernel
theorem dX10_plan_146 : decode cX10_plan 146 = .ok (.iconst 1, 1) := by decide +kernel
theorem dX10_plan_147 : decode cX10_plan 147 = .ok (.isub, 1) := by decide +kernel
theorem dX10_plan_148 : decode cX10_plan 148 = .ok (.aload_n 0, 1) := by decide +kernel
theorem dX10_plan_149 : decode cX10_plan 149 = .ok (.invokevirtual 179, 3) := by decide +kernel
theorem dX10_plan_152 : decode cX10_plan 152 = .ok (.idiv, 1) := by decide +kernel
theorem dX10_plan_153 : decode cX10_plan 153 = .ok (.goto 4, 3) := by decide +kernel
theorem dX10_plan_156 : decode cX10_plan 156 = .ok (.iconst 0, 1) := by decide +kernel
theorem dX10_plan_157 : decode cX10_plan 157 = .ok (.iadd, 1) := by decide +kernel
theorem dX10_plan_158 : decode cX10_plan 158 = .ok (.istore_n 3, 1) := by decide +kernel
theorem dX10_plan_159 : decode cX10_plan 159 = .ok (.iinc 8 1, 3) := by decide +kernel
theorem dX10_plan_162 : decode cX10_plan 162 = .ok (.goto (-56), 3) := by decide +kernel
theorem dX10_plan_165 : decode cX10_plan 165 = .ok (.aload_n 0, 1) := by decide +kernel
theorem dX10_plan_166 : decode cX10_plan 166 = .ok (.getfield 99, 3) := by decide +kernel
theorem dX10_plan_169 : decode cX10_plan 169 = .ok (.iload 4, 2) := by decide +kernel
theorem dX10_plan_171 : decode cX10_plan 171 = .ok (.iload 7, 2) := by decide +kernel
theorem dX10_plan_173 : decode cX10_plan 173 = .ok (.iastore, 1) := by decide +kernel
theorem dX10_plan_174 : decode cX10_plan 174 = .ok (.iinc 4 1, 3) := by decide +kernel
theorem dX10_plan_177 : decode cX10_plan 177 = .ok (.iload 5, 2) := by decide +kernel
theorem dX10_plan_179 : decode cX10_plan 179 = .ok (.iload 6, 2) := by decide +kernel
theorem dX10_plan_181 : decode cX10_plan 181 = .ok (.iadd, 1) := by decide +kernel
theorem dX10_plan_182 : decode cX10_plan 182 = .ok (.istore 5, 2) := by decide +kernel
theorem dX10_plan_184 : decode cX10_plan 184 = .ok (.goto (-108), 3) := by decide +kernel
theorem dX10_plan_187 : decode cX10_plan 187 = .ok (.iload 4, 2) := by decide +kernel
theorem dX10_plan_189 : decode cX10_plan 189 = .ok (.istore_n 2, 1) := by decide +kernel
theorem dX10_plan_190 : decode cX10_plan 190 = .ok (.goto (-125), 3) := by decide +kernel
theorem dX10_plan_193 : decode cX10_plan 193 = .ok (.iload_n 3, 1) := by decide +kernel
theorem dX10_plan_194 : decode cX10_plan 194 = .ok (.ireturn, 1) := by decide +kernel
theorem dX10_runs_0 : decode cX10_runs 0 = .ok (.aload_n 0, 1) := by decide +kernel
theorem dX10_runs_1 : decode cX10_runs 1 = .ok (.iconst 0, 1) := by decide +kernel
theorem dX10_runs_2 : decode cX10_runs 2 = .ok (.putfield 125, 3) := by decide +kernel
theorem dX10_runs_5 : decode cX10_runs 5 = .ok (.aload_n 0, 1) := by decide +kernel
theorem dX10_runs_6 : decode cX10_runs 6 = .ok (.getfield 200, 3) := by decide +kernel
theorem dX10_runs_9 : decode cX10_runs 9 = .ok (.ireturn, 1) := by decide +kernel
set_option maxRecDepth 20000 in
theorem ggX10_records_X10_isIn : GoodIn wsX10_records wsX10_isIn := goodIn_r _ [9] (by decide +kernel) (by decide +kernel)
set_option maxRecDepth 20000 in
theorem gX10_records_X10_isIn : GoodIn wsX10_records (va_wsS RX10 193 yX10_isIn wsX10_isIn) := goodIn_app (goodIn_of _ (by decide +kernel)) ggX10_records_X10_isIn
theorem dX10_records_0 : decode cX10_records 0 = .ok (.aload_n 0, 1) := by decide +kernel
theorem dX10_records_1 : decode cX10_records 1 = .ok (.iload_n 1, 1) := by decide +kernel
theorem dX10_records_2 : decode cX10_records 2 = .ok (.iconst (-1), 1) := by decide +kernel
theorem dX10_records_3 : decode cX10_records 3 = .ok (.aload_n 0, 1) := by decide +kernel
theorem dX10_records_4 : decode cX10_records 4 = .ok (.getfield 200, 3) := by decide +kernel
theorem dX10_records_7 : decode cX10_records 7 = .ok (.iconst 1, 1) := by decide +kernel
theorem dX10_records_8 : decode cX10_records 8 = .ok (.isub, 1) := by decide +kernel
theorem dX10_records_9 : decode cX10_records 9 = .ok (.invokestatic 193, 3) := by decide +kernel
theorem dX10_records_12 : decode cX10_records 12 = .ok (.ifCond .eq 7, 3) := by decide +kernel
theorem dX10_records_15 : decode cX10_records 15 = .ok (.iconst 0, 1) := by decide +kernel
theorem dX10_records_16 : decode cX10_records 16 = .ok (.goto 4, 3) := by decide +kernel
theorem dX10_records_19 : decode cX10_records 19 = .ok (.iconst 1, 1) := by decide +kernel
theorem dX10_records_20 : decode cX10_records 20 = .ok (.putfield 125, 3) := by decide +kernel
theorem dX10_records_23 : decode cX10_records 23 = .ok (.aload_n 0, 1) := by decide +kernel
theorem dX10_records_24 : decode cX10_records 24 = .ok (.getfield 125, 3) := by decide +kernel
theorem dX10_records_27 : decode cX10_records 27 = .ok (.ifCond .le 5, 3) := by decide +kernel
theorem dX10_records_30 : decode cX10_records 30 = .ok (.iconst 0, 1) := by decide +kernel
theorem dX10_records_31 : decode cX10_records 31 = .ok (.ireturn, 1) := by decide +kernel
theorem dX10_records_32 : decode cX10_records 32 = .ok (.iload_n 1, 1) := by decide +kernel
theorem dX10_records_33 : decode cX10_records 33 = .ok (.iconst (-1), 1) := by decide +kernel
theorem dX10_records_34 : decode cX10_records 34 = .ok (.if_icmp .ne 17, 3) := by decide +kernel
theorem dX10_records_37 : decode cX10_records 37 = .ok (.aload_n 0, 1) := by decide +kernel
theorem dX10_records_38 : decode cX10_records 38 = .ok (.getfield 30, 3) := by decide +kernel
theorem dX10_records_41 : decode cX10_records 41 = .ok (.iconst 0, 1) := by decide +kernel
theorem dX10_records_42 : decode cX10_records 42 = .ok (.iaload, 1) := by decide +kernel
theorem dX10_records_43 : decode cX10_records 43 = .ok (.aload_n 0, 1) := by decide +kernel
theorem dX10_records_44 : decode cX10_records 44 = .ok (.getfield 203, 3) := by decide +kernel
theorem dX10_records_47 : decode cX10_records 47 = .ok (.iadd, 1) := by decide +kernel
theorem dX10_records_48 : decode cX10_records 48 = .ok (.goto 14, 3) := by decide +kernel
theorem dX10_records_51 : decode cX10_records 51 = .ok (.aload_n 0, 1) := by decide +kernel
theorem dX10_records_52 : decode cX10_records 52 = .ok (.getfield 30, 3) := by decide +kernel
theorem dX10_records_55 : decode cX10_records 55 = .ok (.aload_n 0, 1) := by decide +kernel
theorem dX10_records_56 : decode cX10_records 56 = .ok (.getfield 36, 3) := by decide +kernel
theorem dX10_records_59 : decode cX10_records 59 = .ok (.iload_n 1, 1) := by decide +kernel
theorem dX10_records_60 : decode cX10_records 60 = .ok (.iaload, 1) := by decide +kernel
theorem dX10_records_61 : decode cX10_records 61 = .ok (.iaload, 1) := by decide +kernel
theorem dX10_records_62 : decode cX10_records 62 = .ok (.ireturn, 1) := by decide +kernel
set_option maxRecDepth 20000 in
theorem ggX10_block_X10_isIn : GoodIn wsX10_block wsX10_isIn := goodIn_r _ [7] (by decide +kernel) (by decide +kernel)
set_option maxRecDepth 20000 in
theorem gX10_block_X10_isIn : GoodIn wsX10_block (va_wsS RX10 193 yX10_isIn wsX10_isIn) := goodIn_app (goodIn_of _ (by decide +kernel)) ggX10_block_X10_isIn
set_option maxRecDepth 20000 in
theorem ggX10_block_X10_blockOf : GoodIn wsX10_block wsX10_blockOf := goodIn_r _ [11, 12, 13, 14, 15, 16, 17, 18, 19, 20, 21, 22, 23, 24, 25, 26, 27, 28, 29, 30, 31, 32, 33, 34, 35, 36, 37, 38, 39, 40, 41, 42, 43, 44, 45, 46, 47, 48, 49, 50, 51, 52, 53, 54, 55, 56, 57, 58, 59, 60, 61, 62, 63, 64, 65, 66, 67, 68, 69, 70] (by decide +kernel) (by decide +kernel)
set_option maxRecDepth 20000 in
theorem gX10_block_X10_blockOf : GoodIn wsX10_block (wsV RX10 332 RX10 yX10_blockOf wsX10_blockOf) := goodIn_app (goodIn_of _ (by decide +kernel)) ggX10_block_X10_blockOf
theorem dX10_block_0 : decode cX10_block 0 = .ok (.aload_n 0, 1) := by decide +kernel
theorem dX10_block_1 : decode cX10_block 1 = .ok (.iload_n 1, 1) := by decide +kernel
theorem dX10_block_2 : decode cX10_block 2 = .ok (.iconst (-1), 1) := by decide +kernel
theorem dX10_block_3 : decode cX10_block 3 = .ok (.aload_n 0, 1) := by decide +kernel
theorem dX10_block_4 : decode cX10_block 4 = .ok (.getfield 200, 3) := by decide +kernel
theorem dX10_block_7 : decode cX10_block 7 = .ok (.iconst 1, 1) := by decide +kernel
theorem dX10_block_8 : decode cX10_block 8 = .ok (.isub, 1) := by decide +kernel
theorem dX10_block_9 : decode cX10_block 9 = .ok (.invokestatic 193, 3) := by decide +kernel
theorem dX10_block_12 : decode cX10_block 12 = .ok (.ifCond .eq 18, 3) := by decide +kernel
theorem dX10_block_15 : decode cX10_block 15 = .ok (.iload_n 2, 1) := by decide +kernel
theorem dX10_block_16 : decode cX10_block 16 = .ok (.iconst 0, 1) := by decide +kernel
theorem dX10_block_17 : decode cX10_block 17 = .ok (.sipush 199, 3) := by decide +kernel
theorem dX10_block_20 : decode cX10_block 20 = .ok (.invokestatic 193, 3) := by decide +kernel
theorem dX10_block_23 : decode cX10_block 23 = .ok (.ifCond .eq 7, 3) := by decide +kernel
theorem dX10_block_26 : decode cX10_block 26 = .ok (.iconst 0, 1) := by decide +kernel
theorem dX10_block_27 : decode cX10_block 27 = .ok (.goto 4, 3) := by decide +kernel
theorem dX10_block_30 : decode cX10_block 30 = .ok (.iconst 1, 1) := by decide +kernel
theorem dX10_block_31 : decode cX10_block 31 = .ok (.putfield 125, 3) := by decide +kernel
theorem dX10_block_34 : decode cX10_block 34 = .ok (.aload_n 0, 1) := by decide +kernel
theorem dX10_block_35 : decode cX10_block 35 = .ok (.getfield 125, 3) := by decide +kernel
theorem dX10_block_38 : decode cX10_block 38 = .ok (.ifCond .le 5, 3) := by decide +kernel
theorem dX10_block_41 : decode cX10_block 41 = .ok (.iconst 0, 1) := by decide +kernel
theorem dX10_block_42 : decode cX10_block 42 = .ok (.ireturn, 1) := by decide +kernel
theorem dX10_block_43 : decode cX10_block 43 = .ok (.aload_n 0, 1) := by decide +kernel
theorem dX10_block_44 : decode cX10_block 44 = .ok (.iload_n 1, 1) := by decide +kernel
theorem dX10_block_45 : decode cX10_block 45 = .ok (.iconst (-1), 1) := by decide +kernel
theorem dX10_block_46 : decode cX10_block 46 = .ok (.if_icmp .ne 7, 3) := by decide +kernel
theorem dX10_block_49 : decode cX10_block 49 = .ok (.iconst 0, 1) := by decide +kernel
theorem dX10_block_50 : decode cX10_block 50 = .ok (.goto 9, 3) := by decide +kernel
theorem dX10_block_53 : decode cX10_block 53 = .ok (.aload_n 0, 1) := by decide +kernel
theorem dX10_block_54 : decode cX10_block 54 = .ok (.getfield 36, 3) := by decide +kernel
theorem dX10_block_57 : decode cX10_block 57 = .ok (.iload_n 1, 1) := by decide +kernel
theorem dX10_block_58 : decode cX10_block 58 = .ok (.iaload, 1) := by decide +kernel
theorem dX10_block_59 : decode cX10_block 59 = .ok (.iload_n 2, 1) := by decide +kernel
theorem dX10_block_60 : decode cX10_block 60 = .ok (.invokevirtual 332, 3) := by decide +kernel
theorem dX10_block_63 : decode cX10_block 63 = .ok (.istore_n 3, 1) := by decide +kernel
theorem dX10_block_64 : decode cX10_block 64 = .ok (.aload_n 0, 1) := by decide +kernel
theorem dX10_block_65 : decode cX10_block 65 = .ok (.iload_n 3, 1) := by decide +kernel
theorem dX10_block_66 : decode cX10_block 66 = .ok (.iconst (-1), 1) := by decide +kernel
theorem dX10_block_67 : decode cX10_block 67 = .ok (.if_icmp .ne 7, 3) := by decide +kernel
theorem dX10_block_70 : decode cX10_block 70 = .ok (.iconst 1, 1) := by decide +kernel
theorem dX10_block_71 : decode cX10_block 71 = .ok (.goto 4, 3) := by decide +kernel
theorem dX10_block_74 : decode cX10_block 74 = .ok (.iconst 0, 1) := by decide +kernel
theorem dX10_block_75 : decode cX10_block 75 = .ok (.putfield 125, 3) := by decide +kernel
theorem dX10_block_78 : decode cX10_block 78 = .ok (.iload_n 3, 1) := by decide +kernel
theorem dX10_block_79 : decode cX10_block 79 = .ok (.ireturn, 1) := by decide +kernel
set_option maxRecDepth 20000 in
theorem ggX10_look_X10_per : GoodIn wsX10_look wsX10_per := goodIn_r _ [9, 10, 4, 23, 24, 25, 26, 27, 28, 29, 30, 31, 32, 33, 34, 35, 36, 37, 38, 39, 40, 41, 42, 43, 44, 45, 46, 47, 48, 49, 50, 51, 52, 53, 54, 55, 56, 57, 58, 59, 60, 61, 62, 63, 64, 65, 66, 67, 68, 69, 70, 71, 72, 73, 74, 75, 76, 77, 78, 79] (by decide +kernel) (by decide +kernel)
set_option maxRecDepth 20000 in
theorem gX10_look_X10_per : GoodIn wsX10_look (wsV RX10 179 RX10 yX10_per wsX10_per) := goodIn_app (goodIn_of _ (by decide +kernel)) ggX10_look_X10_per
set_option maxRecDepth 20000 in
theorem ggX10_look_X10_blockOf : GoodIn wsX10_look wsX10_blockOf := goodIn_r _ [14, 15, 16, 23, 24, 25, 26, 27, 28, 29, 30, 31, 32, 33, 34, 35, 36, 37, 38, 39, 40, 41, 42, 43, 44, 45, 46, 47, 48, 49, 50, 51, 52, 53, 54, 55, 56, 57, 58, 59, 60, 61, 62, 63, 64, 65, 66, 67, 68, 69, 70, 71, 72, 73, 74, 75, 76, 77, 78, 79] (by decide +kernel) (by decide +kernel)
set_option maxRecDepth 20000 in
theorem gX10_look_X10_blockOf : GoodIn wsX10_look (wsV RX10 332 RX10 yX10_blockOf wsX10_blockOf) := goodIn_app (goodIn_of _ (by decide +kernel)) ggX10_look_X10_blockOf
set_option maxRecDepth 20000 in
theorem ggX10_look_X10_go : GoodIn wsX10_look wsX10_go := goodIn_r _ [20, 21, 22, 2, 23, 24, 25, 26, 27, 28, 29, 30, 31, 32, 33, 34, 35, 36, 37, 38, 39, 40, 41, 42, 43, 44, 45, 46, 47, 48, 49, 50, 51, 52, 53, 54, 55, 56, 57, 58, 59, 60, 61, 62, 63, 64, 65, 66, 67, 68, 69, 70, 71, 72, 73, 74, 75, 76, 77, 78, 79] (by decide +kernel) (by decide +kernel)
set_option maxRecDepth 20000 in
theorem gX10_look_X10_go : GoodIn wsX10_look (wsV RX10 140 RX10 yX10_go wsX10_go) := goodIn_app (goodIn_of _ (by decide +kernel)) ggX10_look_X10_go
theorem dX10_look_0 : decode cX10_look 0 = .ok (.aload_n 0, 1) := by decide +kernel
theorem dX10_look_1 : decode cX10_look 1 = .ok (.aload_n 0, 1) := by decide +kernel
theorem dX10_look_2 : decode cX10_look 2 = .ok (.getfield 36, 3) := by decide +kernel
theorem dX10_look_5 : decode cX10_look 5 = .ok (.iload_n 1, 1) := by decide +kernel
theorem dX10_look_6 : decode cX10_look 6 = .ok (.iaload, 1) := by decide +kernel
theorem dX10_look_7 : decode cX10_look 7 = .ok (.iload_n 2, 1) := by decide +kernel
theorem dX10_look_8 : decode cX10_look 8 = .ok (.aload_n 0, 1) := by decide +kernel
theorem dX10_look_9 : decode cX10_look 9 = .ok (.invokevirtual 179, 3) := by decide +kernel
theorem dX10_look_12 : decode cX10_look 12 = .ok (.idiv, 1) := by decide +kernel
theorem dX10_look_13 : decode cX10_look 13 = .ok (.invokevirtual 332, 3) := by decide +kernel
theorem dX10_look_16 : decode cX10_look 16 = .ok (.istore_n 3, 1) := by decide +kernel
theorem dX10_look_17 : decode cX10_look 17 = .ok (.iload_n 3, 1) := by decide +kernel
theorem dX10_look_18 : decode cX10_look 18 = .ok (.aload_n 0, 1) := by decide +kernel
theorem dX10_look_19 : decode cX10_look 19 = .ok (.getfield 119, 3) := by decide +kernel
theorem dX10_look_22 : decode cX10_look 22 = .ok (.if_icmp .eq 18, 3) := by decide +kernel
theorem dX10_look_25 : decode cX10_look 25 = .ok (.aload_n 0, 1) := by decide +kernel
theorem dX10_look_26 : decode cX10_look 26 = .ok (.dup, 1) := by decide +kernel
theorem dX10_look_27 : decode cX10_look 27 = .ok (.getfield 137, 3) := by decide +kernel
theorem dX10_look_30 : decode cX10_look 30 = .ok (.iconst 1, 1) := by decide +kernel
theorem dX10_look_31 : decode cX10_look 31 = .ok (.iadd, 1) := by decide +kernel
theorem dX10_look_32 : decode cX10_look 32 = .ok (.putfield 137, 3) := by decide +kernel
theorem dX10_look_35 : decode cX10_look 35 = .ok (.aload_n 0, 1) := by decide +kernel
theorem dX10_look_36 : decode cX10_look 36 = .ok (.iload_n 3, 1) := by decide +kernel
theorem dX10_look_37 : decode cX10_look 37 = .ok (.invokevirtual 140, 3) := by decide +kernel
theorem dX10_look_40 : decode cX10_look 40 = .ok (.bipush 64, 2) := by decide +kernel
theorem dX10_look_42 : decode cX10_look 42 = .ok (.iload_n 3, 1) := by decide +kernel
theorem dX10_look_43 : decode cX10_look 43 = .ok (.imul, 1) := by decide +kernel
theorem dX10_look_44 : decode cX10_look 44 = .ok (.iload_n 2, 1) := by decide +kernel
theorem dX10_look_45 : decode cX10_look 45 = .ok (.aload_n 0, 1) := by decide +kernel
theorem dX10_look_46 : decode cX10_look 46 = .ok (.invokevirtual 179, 3) := by decide +kernel
theorem dX10_look_49 : decode cX10_look 49 = .ok (.irem, 1) := by decide +kernel
theorem dX10_look_50 : decode cX10_look 50 = .ok (.aload_n 0, 1) := by decide +kernel
theorem dX10_look_51 : decode cX10_look 51 = .ok (.getfield 116, 3) := by decide +kernel
theorem dX10_look_54 : decode cX10_look 54 = .ok (.iconst 1, 1) := by decide +kernel
theorem dX10_look_55 : decode cX10_look 55 = .ok (.iadd, 1) := by decide +kernel
theorem dX10_look_56 : decode cX10_look 56 = .ok (.imul, 1) := by decide +kernel
theorem dX10_look_57 : decode cX10_look 57 = .ok (.iadd, 1) := by decide +kernel
theorem dX10_look_58 : decode cX10_look 58 = .ok (.ireturn, 1) := by decide +kernel
set_option maxRecDepth 20000 in
theorem ggX10_told_X10_isIn : GoodIn wsX10_told wsX10_isIn := goodIn_r _ [11] (by decide +kernel) (by decide +kernel)
set_option maxRecDepth 20000 in
theorem gX10_told_X10_isIn : GoodIn wsX10_told (va_wsS RX10 193 yX10_isIn wsX10_isIn) := goodIn_app (goodIn_of _ (by decide +kernel)) ggX10_told_X10_isIn
set_option maxRecDepth 20000 in
theorem ggX10_told_X10_look : GoodIn wsX10_told wsX10_look := goodIn_r _ [15, 4, 16, 17, 2, 18, 19, 20, 10, 21, 22, 23, 24, 25, 26, 27, 28, 29, 30, 31, 32, 33, 34, 35, 36, 37, 38, 39, 40, 41, 42, 43, 44, 45, 46, 47, 48, 49, 50, 51, 52, 53, 54, 55, 56, 57, 58, 59, 60, 61, 62, 63, 64, 65, 66, 67, 68, 69, 70, 71, 72, 73, 74, 75, 76, 77, 78, 79, 80, 81, 82, 83, 84, 85, 86, 87, 88, 89, 90, 91] (by decide +kernel) (by decide +kernel)
set_option maxRecDepth 20000 in
theorem gX10_told_X10_look : GoodIn wsX10_told (wsV RX10 336 RX10 yX10_look wsX10_look) := goodIn_app (goodIn_of _ (by decide +kernel)) ggX10_told_X10_look
theorem dX10_told_0 : decode cX10_told 0 = .ok (.iload_n 1, 1) := by decide +kernel
theorem dX10_told_1 : decode cX10_told 1 = .ok (.iconst 0, 1) := by decide +kernel
theorem dX10_told_2 : decode cX10_told 2 = .ok (.aload_n 0, 1) := by decide +kernel
theorem dX10_told_3 : decode cX10_told 3 = .ok (.getfield 200, 3) := by decide +kernel
theorem dX10_told_6 : decode cX10_told 6 = .ok (.iconst 1, 1) := by decide +kernel
theorem dX10_told_7 : decode cX10_told 7 = .ok (.isub, 1) := by decide +kernel
theorem dX10_told_8 : decode cX10_told 8 = .ok (.invokestatic 193, 3) := by decide +kernel
theorem dX10_told_11 : decode cX10_told 11 = .ok (.ifCond .eq 19, 3) := by decide +kernel
theorem dX10_told_14 : decode cX10_told 14 = .ok (.iload_n 3, 1) := by decide +kernel
theorem dX10_told_15 : decode cX10_told 15 = .ok (.iconst 0, 1) := by decide +kernel
theorem dX10_told_16 : decode cX10_told 16 = .ok (.aload_n 0, 1) := by decide +kernel
theorem dX10_told_17 : decode cX10_told 17 = .ok (.getfield 116, 3) := by decide +kernel
theorem dX10_told_20 : decode cX10_told 20 = .ok (.invokestatic 193, 3) := by decide +kernel
theorem dX10_told_23 : decode cX10_told 23 = .ok (.ifCond .eq 7, 3) := by decide +kernel
theorem dX10_told_26 : decode cX10_told 26 = .ok (.iconst 1, 1) := by decide +kernel
theorem dX10_told_27 : decode cX10_told 27 = .ok (.goto 4, 3) := by decide +kernel
theorem dX10_told_30 : decode cX10_told 30 = .ok (.iconst 0, 1) := by decide +kernel
theorem dX10_told_31 : decode cX10_told 31 = .ok (.istore 4, 2) := by decide +kernel
theorem dX10_told_33 : decode cX10_told 33 = .ok (.iload 4, 2) := by decide +kernel
theorem dX10_told_35 : decode cX10_told 35 = .ok (.ifCond .eq 28, 3) := by decide +kernel
theorem dX10_told_38 : decode cX10_told 38 = .ok (.iload_n 2, 1) := by decide +kernel
theorem dX10_told_39 : decode cX10_told 39 = .ok (.iconst 0, 1) := by decide +kernel
theorem dX10_told_40 : decode cX10_told 40 = .ok (.aload_n 0, 1) := by decide +kernel
theorem dX10_told_41 : decode cX10_told 41 = .ok (.getfield 30, 3) := by decide +kernel
theorem dX10_told_44 : decode cX10_told 44 = .ok (.aload_n 0, 1) := by decide +kernel
theorem dX10_told_45 : decode cX10_told 45 = .ok (.getfield 36, 3) := by decide +kernel
theorem dX10_told_48 : decode cX10_told 48 = .ok (.iload_n 1, 1) := by decide +kernel
theorem dX10_told_49 : decode cX10_told 49 = .ok (.iaload, 1) := by decide +kernel
theorem dX10_told_50 : decode cX10_told 50 = .ok (.iaload, 1) := by decide +kernel
theorem dX10_told_51 : decode cX10_told 51 = .ok (.iconst 1, 1) := by decide +kernel
theorem dX10_told_52 : decode cX10_told 52 = .ok (.isub, 1) := by decide +kernel
theorem dX10_told_53 : decode cX10_told 53 = .ok (.invokestatic 193, 3) := by decide +kernel
theorem dX10_told_56 : decode cX10_told 56 = .ok (.ifCond .eq 7, 3) := by decide +kernel
theorem dX10_told_59 : decode cX10_told 59 = .ok (.iconst 1, 1) := by decide +kernel
theorem dX10_told_60 : decode cX10_told 60 = .ok (.goto 4, 3) := by decide +kernel
theorem dX10_told_63 : decode cX10_told 63 = .ok (.iconst 0, 1) := by decide +kernel
theorem dX10_told_64 : decode cX10_told 64 = .ok (.istore 4, 2) := by decide +kernel
theorem dX10_told_66 : decode cX10_told 66 = .ok (.aload_n 0, 1) := by decide +kernel
theorem dX10_told_67 : decode cX10_told 67 = .ok (.iload 4, 2) := by decide +kernel
theorem dX10_told_69 : decode cX10_told 69 = .ok (.ifCond .ne 7, 3) := by decide +kernel
theorem dX10_told_72 : decode cX10_told 72 = .ok (.iconst 1, 1) := by decide +kernel
theorem dX10_told_73 : decode cX10_told 73 = .ok (.goto 15, 3) := by decide +kernel
theorem dX10_told_76 : decode cX10_told 76 = .ok (.aload_n 0, 1) := by decide +kernel
theorem dX10_told_77 : decode cX10_told 77 = .ok (.getfield 197, 3) := by decide +kernel
theorem dX10_told_80 : decode cX10_told 80 = .ok (.ifCond .eq 7, 3) := by decide +kernel
theorem dX10_told_83 : decode cX10_told 83 = .ok (.iconst 2, 1) := by decide +kernel
theorem dX10_told_84 : decode cX10_told 84 = .ok (.goto 4, 3) := by decide +kernel
theorem dX10_told_87 : decode cX10_told 87 = .ok (.iconst 0, 1) := by decide +kernel
theorem dX10_told_88 : decode cX10_told 88 = .ok (.putfield 125, 3) := by decide +kernel
theorem dX10_told_91 : decode cX10_told 91 = .ok (.aload_n 0, 1) := by decide +kernel
theorem dX10_told_92 : decode cX10_told 92 = .ok (.getfield 125, 3) := by decide +kernel
theorem dX10_told_95 : decode cX10_told 95 = .ok (.ifCond .le 7, 3) := by decide +kernel
theorem dX10_told_98 : decode cX10_told 98 = .ok (.lconst 0, 1) := by decide +kernel
theorem dX10_told_99 : decode cX10_told 99 = .ok (.goto 16, 3) := by decide +kernel
theorem dX10_told_102 : decode cX10_told 102 = .ok (.aload_n 0, 1) := by decide +kernel
theorem dX10_told_103 : decode cX10_told 103 = .ok (.getfield 7, 3) := by decide +kernel
theorem dX10_told_106 : decode cX10_told 106 = .ok (.aload_n 0, 1) := by decide +kernel
theorem dX10_told_107 : decode cX10_told 107 = .ok (.iload_n 1, 1) := by decide +kernel
theorem dX10_told_108 : decode cX10_told 108 = .ok (.iload_n 2, 1) := by decide +kernel
theorem dX10_told_109 : decode cX10_told 109 = .ok (.invokevirtual 336, 3) := by decide +kernel
theorem dX10_told_112 : decode cX10_told 112 = .ok (.iload_n 3, 1) := by decide +kernel
theorem dX10_told_113 : decode cX10_told 113 = .ok (.iadd, 1) := by decide +kernel
theorem dX10_told_114 : decode cX10_told 114 = .ok (.laload, 1) := by decide +kernel
theorem dX10_told_115 : decode cX10_told 115 = .ok (.lreturn, 1) := by decide +kernel
set_option maxRecDepth 20000 in
theorem ggX10_rank_X10_isIn : GoodIn wsX10_rank wsX10_isIn := goodIn_r _ [13] (by decide +kernel) (by decide +kernel)
set_option maxRecDepth 20000 in
theorem gX10_rank_X10_isIn : GoodIn wsX10_rank (va_wsS RX10 193 yX10_isIn wsX10_isIn) := goodIn_app (goodIn_of _ (by decide +kernel)) ggX10_rank_X10_isIn
set_option maxRecDepth 20000 in
theorem ggX10_rank_X10_look : GoodIn wsX10_rank wsX10_look := goodIn_r _ [17, 8, 18, 19, 20, 21, 22, 23, 12, 24, 25, 26, 27, 28, 29, 30, 31, 32, 33, 34, 35, 36, 37, 38, 39, 40, 41, 42, 43, 44, 45, 46, 47, 48, 49, 50, 51, 52, 53, 54, 55, 56, 57, 58, 59, 60, 61, 62, 63, 64, 65, 66, 67, 68, 69, 70, 71, 72, 73, 74, 75, 76, 77, 78, 79, 80, 81, 82, 83, 84, 85, 86, 87, 88, 89, 90, 91, 92, 93, 94] (by decide +kernel) (by decide +kernel)
set_option maxRecDepth 20000 in
theorem gX10_rank_X10_look : GoodIn wsX10_rank (wsV RX10 336 RX10 yX10_look wsX10_look) := goodIn_app (goodIn_of _ (by decide +kernel)) ggX10_rank_X10_look
theorem dX10_rank_0 : decode cX10_rank 0 = .ok (.aload_n 0, 1) := by decide +kernel
theorem dX10_rank_1 : decode cX10_rank 1 = .ok (.iload_n 1, 1) := by decide +kernel
theorem dX10_rank_2 : decode cX10_rank 2 = .ok (.iconst 0, 1) := by decide +kernel
theorem dX10_rank_3 : decode cX10_rank 3 = .ok (.aload_n 0, 1) := by decide +kernel
theorem dX10_rank_4 : decode cX10_rank 4 = .ok (.getfield 200, 3) := by decide +kernel
theorem dX10_rank_7 : decode cX10_rank 7 = .ok (.iconst 1, 1) := by decide +kernel
theorem dX10_rank_8 : decode cX10_rank 8 = .ok (.isub, 1) := by decide +kernel
theorem dX10_rank_9 : decode cX10_rank 9 = .ok (.invokestatic 193, 3) := by decide +kernel
theorem dX10_rank_12 : decode cX10_rank 12 = .ok (.ifCond .ne 7, 3) := by decide +kernel
theorem dX10_rank_15 : decode cX10_rank 15 = .ok (.iconst 1, 1) := by decide +kernel
theorem dX10_rank_16 : decode cX10_rank 16 = .ok (.goto 15, 3) := by decide +kernel
theorem dX10_rank_19 : decode cX10_rank 19 = .ok (.aload_n 0, 1) := by decide +kernel
theorem dX10_rank_20 : decode cX10_rank 20 = .ok (.getfield 197, 3) := by decide +kernel
theorem dX10_rank_23 : decode cX10_rank 23 = .ok (.ifCond .eq 7, 3) := by decide +kernel
theorem dX10_rank_26 : decode cX10_rank 26 = .ok (.iconst 2, 1) := by decide +kernel
theorem dX10_rank_27 : decode cX10_rank 27 = .ok (.goto 4, 3) := by decide +kernel
theorem dX10_rank_30 : decode cX10_rank 30 = .ok (.iconst 0, 1) := by decide +kernel
theorem dX10_rank_31 : decode cX10_rank 31 = .ok (.putfield 125, 3) := by decide +kernel
theorem dX10_rank_34 : decode cX10_rank 34 = .ok (.aload_n 0, 1) := by decide +kernel
theorem dX10_rank_35 : decode cX10_rank 35 = .ok (.getfield 125, 3) := by decide +kernel
theorem dX10_rank_38 : decode cX10_rank 38 = .ok (.ifCond .le 5, 3) := by decide +kernel
theorem dX10_rank_41 : decode cX10_rank 41 = .ok (.iconst 0, 1) := by decide +kernel
theorem dX10_rank_42 : decode cX10_rank 42 = .ok (.ireturn, 1) := by decide +kernel
theorem dX10_rank_43 : decode cX10_rank 43 = .ok (.aload_n 0, 1) := by decide +kernel
theorem dX10_rank_44 : decode cX10_rank 44 = .ok (.getfield 147, 3) := by decide +kernel
theorem dX10_rank_47 : decode cX10_rank 47 = .ok (.ifCond .le 12, 3) := by decide +kernel
theorem dX10_rank_50 : decode cX10_rank 50 = .ok (.aload_n 0, 1) := by decide +kernel
theorem dX10_rank_51 : decode cX10_rank 51 = .ok (.getfield 42, 3) := by decide +kernel
theorem dX10_rank_54 : decode cX10_rank 54 = .ok (.iconst 0, 1) := by decide +kernel
theorem dX10_rank_55 : decode cX10_rank 55 = .ok (.iaload, 1) := by decide +kernel
theorem dX10_rank_56 : decode cX10_rank 56 = .ok (.goto 4, 3) := by decide +kernel
theorem dX10_rank_59 : decode cX10_rank 59 = .ok (.iconst 0, 1) := by decide +kernel
theorem dX10_rank_60 : decode cX10_rank 60 = .ok (.istore 4, 2) := by decide +kernel
theorem dX10_rank_62 : decode cX10_rank 62 = .ok (.aload_n 0, 1) := by decide +kernel
theorem dX10_rank_63 : decode cX10_rank 63 = .ok (.getfield 147, 3) := by decide +kernel
theorem dX10_rank_66 : decode cX10_rank 66 = .ok (.ifCond .le 16, 3) := by decide +kernel
theorem dX10_rank_69 : decode cX10_rank 69 = .ok (.aload_n 0, 1) := by decide +kernel
theorem dX10_rank_70 : decode cX10_rank 70 = .ok (.getfield 45, 3) := by decide +kernel
theorem dX10_rank_73 : decode cX10_rank 73 = .ok (.iconst 0, 1) := by decide +kernel
theorem dX10_rank_74 : decode cX10_rank 74 = .ok (.baload, 1) := by decide +kernel
theorem dX10_rank_75 : decode cX10_rank 75 = .ok (.ifCond .eq 7, 3) := by decide +kernel
theorem dX10_rank_78 : decode cX10_rank 78 = .ok (.iconst 1, 1) := by decide +kernel
theorem dX10_rank_79 : decode cX10_rank 79 = .ok (.goto 4, 3) := by decide +kernel
theorem dX10_rank_82 : decode cX10_rank 82 = .ok (.iconst 0, 1) := by decide +kernel
theorem dX10_rank_83 : decode cX10_rank 83 = .ok (.istore 5, 2) := by decide +kernel
theorem dX10_rank_85 : decode cX10_rank 85 = .ok (.iconst 0, 1) := by decide +kernel
theorem dX10_rank_86 : decode cX10_rank 86 = .ok (.istore 6, 2) := by decide +kernel
theorem dX10_rank_88 : decode cX10_rank 88 = .ok (.aload_n 0, 1) := by decide +kernel
theorem dX10_rank_89 : decode cX10_rank 89 = .ok (.getfield 30, 3) := by decide +kernel
theorem dX10_rank_92 : decode cX10_rank 92 = .ok (.aload_n 0, 1) := by decide +kernel
theorem dX10_rank_93 : decode cX10_rank 93 = .ok (.getfield 36, 3) := by decide +kernel
theorem dX10_rank_96 : decode cX10_rank 96 = .ok (.iload_n 1, 1) := by decide +kernel
theorem dX10_rank_97 : decode cX10_rank 97 = .ok (.iaload, 1) := by decide +kernel
theorem dX10_rank_98 : decode cX10_rank 98 = .ok (.iaload, 1) := by decide +kernel
theorem dX10_rank_99 : decode cX10_rank 99 = .ok (.istore 7, 2) := by decide +kernel
theorem dX10_rank_101 : decode cX10_rank 101 = .ok (.iload 6, 2) := by decide +kernel
theorem dX10_rank_103 : decode cX10_rank 103 = .ok (.iload 7, 2) := by decide +kernel
theorem dX10_rank_105 : decode cX10_rank 105 = .ok (.if_icmp .ge 96, 3) := by decide +kernel
theorem dX10_rank_108 : decode cX10_rank 108 = .ok (.iload 6, 2) := by decide +kernel
theorem dX10_rank_110 : decode cX10_rank 110 = .ok (.iload 7, 2) := by decide +kernel
theorem dX10_rank_112 : decode cX10_rank 112 = .ok (.iadd, 1) := by decide +kernel
theorem dX10_rank_113 : decode cX10_rank 113 = .ok (.iconst 2, 1) := by decide +kernel
theorem dX10_rank_114 : decode cX10_rank 114 = .ok (.idiv, 1) := by decide +kernel
theorem dX10_rank_115 : decode cX10_rank 115 = .ok (.istore 8, 2) := by decide +kernel
theorem dX10_rank_117 : decode cX10_rank 117 = .ok (.aload_n 0, 1) := by decide +kernel
theorem dX10_rank_118 : decode cX10_rank 118 = .ok (.getfield 7, 3) := by decide +kernel
theorem dX10_rank_121 : decode cX10_rank 121 = .ok (.aload_n 0, 1) := by decide +kernel
theorem dX10_rank_122 : decode cX10_rank 122 = .ok (.iload_n 1, 1) := by decide +kernel
theorem dX10_rank_123 : decode cX10_rank 123 = .ok (.iload 8, 2) := by decide +kernel
theorem dX10_rank_125 : decode cX10_rank 125 = .ok (.invokevirtual 336, 3) := by decide +kernel
theorem dX10_rank_128 : decode cX10_rank 128 = .ok (.iload 4, 2) := by decide +kernel
theorem dX10_rank_130 : decode cX10_rank 130 = .ok (.iadd, 1) := by decide +kernel
theorem dX10_rank_131 : decode cX10_rank 131 = .ok (.laload, 1) := by decide +kernel
theorem dX10_rank_132 : decode cX10_rank 132 = .ok (.lstore 9, 2) := by decide +kernel
theorem dX10_rank_134 : decode cX10_rank 134 = .ok (.iload 5, 2) := by decide +kernel
theorem dX10_rank_136 : decode cX10_rank 136 = .ok (.ifCond .eq 18, 3) := by decide +kernel
theorem dX10_rank_139 : decode cX10_rank 139 = .ok (.lload 9, 2) := by decide +kernel
theorem dX10_rank_141 : decode cX10_rank 141 = .ok (.lload_n 2, 1) := by decide +kernel
theorem dX10_rank_142 : decode cX10_rank 142 = .ok (.lcmp, 1) := by decide +kernel
theorem dX10_rank_143 : decode cX10_rank 143 = .ok (.ifCond .le 7, 3) := by decide +kernel
theorem dX10_rank_146 : decode cX10_rank 146 = .ok (.iconst 1, 1) := by decide +kernel
theorem dX10_rank_147 : decode cX10_rank 147 = .ok (.goto 19, 3) := by decide +kernel
theorem dX10_rank_150 : decode cX10_rank 150 = .ok (.iconst 0, 1) := by decide +kernel
theorem dX10_rank_151 : decode cX10_rank 151 = .ok (.goto 15, 3) := by decide +kernel
theorem dX10_rank_154 : decode cX10_rank 154 = .ok (.lload 9, 2) := by decide +kernel
theorem dX10_rank_156 : decode cX10_rank 156 = .ok (.lload_n 2, 1) := by decide +kernel
theorem dX10_rank_157 : decode cX10_rank 157 = .ok (.lcmp, 1) := by decide +kernel
theorem dX10_rank_158 : decode cX10_rank 158 = .ok (.ifCond .ge 7, 3) := by decide +kernel
theorem dX10_rank_161 : decode cX10_rank 161 = .ok (.iconst 1, 1) := by decide +kernel
theorem dX10_rank_162 : decode cX10_rank 162 = .ok (.goto 4, 3) := by decide +kernel
theorem dX10_rank_165 : decode cX10_rank 165 = .ok (.iconst 0, 1) := by decide +kernel
theorem dX10_rank_166 : decode cX10_rank 166 = .ok (.istore 11, 2) := by decide +kernel
theorem dX10_rank_168 : decode cX10_rank 168 = .ok (.iload 11, 2) := by decide +kernel
theorem dX10_rank_170 : decode cX10_rank 170 = .ok (.ifCond .eq 10, 3) := by decide +kernel
theorem dX10_rank_173 : decode cX10_rank 173 = .ok (.iload 8, 2) := by decide +kernel
theorem dX10_rank_175 : decode cX10_rank 175 = .ok (.iconst 1, 1) := by decide +kernel
theorem dX10_rank_176 : decode cX10_rank 176 = .ok (.iadd, 1) := by decide +kernel
theorem dX10_rank_177 : decode cX10_rank 177 = .ok (.goto 5, 3) := by decide +kernel
theorem dX10_rank_180 : decode cX10_rank 180 = .ok (.iload 6, 2) := by decide +kernel
theorem dX10_rank_182 : decode cX10_rank 182 = .ok (.istore 6, 2) := by decide +kernel
theorem dX10_rank_184 : decode cX10_rank 184 = .ok (.iload 11, 2) := by decide +kernel
theorem dX10_rank_186 : decode cX10_rank 186 = .ok (.ifCond .eq 8, 3) := by decide +kernel
theorem dX10_rank_189 : decode cX10_rank 189 = .ok (.iload 7, 2) := by decide +kernel
theorem dX10_rank_191 : decode cX10_rank 191 = .ok (.goto 5, 3) := by decide +kernel
theorem dX10_rank_194 : decode cX10_rank 194 = .ok (.iload 8, 2) := by decide +kernel
theorem dX10_rank_196 : decode cX10_rank 196 = .ok (.istore 7, 2) := by decide +kernel
theorem dX10_rank_198 : decode cX10_rank 198 = .ok (.goto (-97), 3) := by decide +kernel
theorem dX10_rank_201 : decode cX10_rank 201 = .ok (.iload 6, 2) := by decide +kernel
theorem dX10_rank_203 : decode cX10_rank 203 = .ok (.ireturn, 1) := by decide +kernel
set_option maxRecDepth 20000 in
theorem ggX10_drop_X10_isIn : GoodIn wsX10_drop wsX10_isIn := goodIn_r _ [8] (by decide +kernel) (by decide +kernel)
set_option maxRecDepth 20000 in
theorem gX10_drop_X10_isIn : GoodIn wsX10_drop (va_wsS RX10 193 yX10_isIn wsX10_isIn) := goodIn_app (goodIn_of _ (by decide +kernel)) ggX10_drop_X10_isIn
set_option maxRecDepth 20000 in
theorem ggX10_drop_X10_free : GoodIn wsX10_drop wsX10_free := goodIn_r _ [12, 13, 14, 15, 16, 17, 18, 19, 20, 21, 22, 23, 24, 25, 26, 27, 28, 29, 30, 31, 32, 33, 34, 35, 36, 37, 38, 39, 40, 41, 42, 43, 44, 45, 46, 47, 48, 49, 50, 51, 52, 53, 54, 55, 56, 57, 58, 59, 60, 61, 62, 63, 64, 65, 66, 67, 68, 69, 70, 71, 72, 73, 74, 75] (by decide +kernel) (by decide +kernel)
set_option maxRecDepth 20000 in
theorem gX10_drop_X10_free : GoodIn wsX10_drop (wsV RX10 279 RX10 yX10_free wsX10_free) := goodIn_app (goodIn_of _ (by decide +kernel)) ggX10_drop_X10_free
theorem dX10_drop_0 : decode cX10_drop 0 = .ok (.aload_n 0, 1) := by decide +kernel
theorem dX10_drop_1 : decode cX10_drop 1 = .ok (.iload_n 1, 1) := by decide +kernel
theorem dX10_drop_2 : decode cX10_drop 2 = .ok (.iconst 0, 1) := by decide +kernel
theorem dX10_drop_3 : decode cX10_drop 3 = .ok (.aload_n 0, 1) := by decide +kernel
theorem dX10_drop_4 : decode cX10_drop 4 = .ok (.getfield 200, 3) := by decide +kernel
theorem dX10_drop_7 : decode cX10_drop 7 = .ok (.iconst 1, 1) := by decide +kernel
theorem dX10_drop_8 : decode cX10_drop 8 = .ok (.isub, 1) := by decide +kernel
theorem dX10_drop_9 : decode cX10_drop 9 = .ok (.invokestatic 193, 3) := by decide +kernel
theorem dX10_drop_12 : decode cX10_drop 12 = .ok (.ifCond .ne 7, 3) := by decide +kernel
theorem dX10_drop_15 : decode cX10_drop 15 = .ok (.iconst 1, 1) := by decide +kernel
theorem dX10_drop_16 : decode cX10_drop 16 = .ok (.goto 15, 3) := by decide +kernel
theorem dX10_drop_19 : decode cX10_drop 19 = .ok (.aload_n 0, 1) := by decide +kernel
theorem dX10_drop_20 : decode cX10_drop 20 = .ok (.getfield 197, 3) := by decide +kernel
theorem dX10_drop_23 : decode cX10_drop 23 = .ok (.ifCond .eq 7, 3) := by decide +kernel
theorem dX10_drop_26 : decode cX10_drop 26 = .ok (.iconst 2, 1) := by decide +kernel
theorem dX10_drop_27 : decode cX10_drop 27 = .ok (.goto 4, 3) := by decide +kernel
theorem dX10_drop_30 : decode cX10_drop 30 = .ok (.iconst 0, 1) := by decide +kernel
theorem dX10_drop_31 : decode cX10_drop 31 = .ok (.putfield 125, 3) := by decide +kernel
theorem dX10_drop_34 : decode cX10_drop 34 = .ok (.aload_n 0, 1) := by decide +kernel
theorem dX10_drop_35 : decode cX10_drop 35 = .ok (.getfield 125, 3) := by decide +kernel
theorem dX10_drop_38 : decode cX10_drop 38 = .ok (.ifCond .le 5, 3) := by decide +kernel
theorem dX10_drop_41 : decode cX10_drop 41 = .ok (.iconst 0, 1) := by decide +kernel
theorem dX10_drop_42 : decode cX10_drop 42 = .ok (.ireturn, 1) := by decide +kernel
theorem dX10_drop_43 : decode cX10_drop 43 = .ok (.aload_n 0, 1) := by decide +kernel
theorem dX10_drop_44 : decode cX10_drop 44 = .ok (.aload_n 0, 1) := by decide +kernel
theorem dX10_drop_45 : decode cX10_drop 45 = .ok (.getfield 36, 3) := by decide +kernel
theorem dX10_drop_48 : decode cX10_drop 48 = .ok (.iload_n 1, 1) := by decide +kernel
theorem dX10_drop_49 : decode cX10_drop 49 = .ok (.iaload, 1) := by decide +kernel
theorem dX10_drop_50 : decode cX10_drop 50 = .ok (.invokevirtual 279, 3) := by decide +kernel
theorem dX10_drop_53 : decode cX10_drop 53 = .ok (.iload_n 1, 1) := by decide +kernel
theorem dX10_drop_54 : decode cX10_drop 54 = .ok (.iconst 1, 1) := by decide +kernel
theorem dX10_drop_55 : decode cX10_drop 55 = .ok (.iadd, 1) := by decide +kernel
theorem dX10_drop_56 : decode cX10_drop 56 = .ok (.istore_n 2, 1) := by decide +kernel
theorem dX10_drop_57 : decode cX10_drop 57 = .ok (.iload_n 2, 1) := by decide +kernel
theorem dX10_drop_58 : decode cX10_drop 58 = .ok (.aload_n 0, 1) := by decide +kernel
theorem dX10_drop_59 : decode cX10_drop 59 = .ok (.getfield 200, 3) := by decide +kernel
theorem dX10_drop_62 : decode cX10_drop 62 = .ok (.if_icmp .ge 23, 3) := by decide +kernel
theorem dX10_drop_65 : decode cX10_drop 65 = .ok (.aload_n 0, 1) := by decide +kernel
theorem dX10_drop_66 : decode cX10_drop 66 = .ok (.getfield 36, 3) := by decide +kernel
theorem dX10_drop_69 : decode cX10_drop 69 = .ok (.iload_n 2, 1) := by decide +kernel
theorem dX10_drop_70 : decode cX10_drop 70 = .ok (.iconst 1, 1) := by decide +kernel
theorem dX10_drop_71 : decode cX10_drop 71 = .ok (.isub, 1) := by decide +kernel
theorem dX10_drop_72 : decode cX10_drop 72 = .ok (.aload_n 0, 1) := by decide +kernel
theorem dX10_drop_73 : decode cX10_drop 73 = .ok (.getfield 36, 3) := by decide +kernel
theorem dX10_drop_76 : decode cX10_drop 76 = .ok (.iload_n 2, 1) := by decide +kernel
theorem dX10_drop_77 : decode cX10_drop 77 = .ok (.iaload, 1) := by decide +kernel
theorem dX10_drop_78 : decode cX10_drop 78 = .ok (.iastore, 1) := by decide +kernel
theorem dX10_drop_79 : decode cX10_drop 79 = .ok (.iinc 2 1, 3) := by decide +kernel
theorem dX10_drop_82 : decode cX10_drop 82 = .ok (.goto (-25), 3) := by decide +kernel
theorem dX10_drop_85 : decode cX10_drop 85 = .ok (.aload_n 0, 1) := by decide +kernel
theorem dX10_drop_86 : decode cX10_drop 86 = .ok (.dup, 1) := by decide +kernel
theorem dX10_drop_87 : decode cX10_drop 87 = .ok (.getfield 200, 3) := by decide +kernel
theorem dX10_drop_90 : decode cX10_drop 90 = .ok (.iconst 1, 1) := by decide +kernel
theorem dX10_drop_91 : decode cX10_drop 91 = .ok (.isub, 1) := by decide +kernel
theorem dX10_drop_92 : decode cX10_drop 92 = .ok (.putfield 200, 3) := by decide +kernel
theorem dX10_drop_95 : decode cX10_drop 95 = .ok (.aload_n 0, 1) := by decide +kernel
theorem dX10_drop_96 : decode cX10_drop 96 = .ok (.getfield 200, 3) := by decide +kernel
theorem dX10_drop_99 : decode cX10_drop 99 = .ok (.ireturn, 1) := by decide +kernel
theorem dX10_freeBlocks_0 : decode cX10_freeBlocks 0 = .ok (.iconst 0, 1) := by decide +kernel
theorem dX10_freeBlocks_1 : decode cX10_freeBlocks 1 = .ok (.istore_n 1, 1) := by decide +kernel
theorem dX10_freeBlocks_2 : decode cX10_freeBlocks 2 = .ok (.iconst 0, 1) := by decide +kernel
theorem dX10_freeBlocks_3 : decode cX10_freeBlocks 3 = .ok (.istore_n 2, 1) := by decide +kernel
theorem dX10_freeBlocks_4 : decode cX10_freeBlocks 4 = .ok (.iload_n 2, 1) := by decide +kernel
theorem dX10_freeBlocks_5 : decode cX10_freeBlocks 5 = .ok (.aload_n 0, 1) := by decide +kernel
theorem dX10_freeBlocks_6 : decode cX10_freeBlocks 6 = .ok (.getfield 106, 3) := by decide +kernel
theorem dX10_freeBlocks_9 : decode cX10_freeBlocks 9 = .ok (.if_icmp .ge 26, 3) := by decide +kernel
theorem dX10_freeBlocks_12 : decode cX10_freeBlocks 12 = .ok (.iload_n 1, 1) := by decide +kernel
theorem dX10_freeBlocks_13 : decode cX10_freeBlocks 13 = .ok (.aload_n 0, 1) := by decide +kernel
theorem dX10_freeBlocks_14 : decode cX10_freeBlocks 14 = .ok (.getfield 13, 3) := by decide +kernel
theorem dX10_freeBlocks_17 : decode cX10_freeBlocks 17 = .ok (.iload_n 2, 1) := by decide +kernel
theorem dX10_freeBlocks_18 : decode cX10_freeBlocks 18 = .ok (.baload, 1) := by decide +kernel
theorem dX10_freeBlocks_19 : decode cX10_freeBlocks 19 = .ok (.ifCond .eq 7, 3) := by decide +kernel
theorem dX10_freeBlocks_22 : decode cX10_freeBlocks 22 = .ok (.iconst 0, 1) := by decide +kernel
theorem dX10_freeBlocks_23 : decode cX10_freeBlocks 23 = .ok (.goto 4, 3) := by decide +kernel
theorem dX10_freeBlocks_26 : decode cX10_freeBlocks 26 = .ok (.iconst 1, 1) := by decide +kernel
theorem dX10_freeBlocks_27 : decode cX10_freeBlocks 27 = .ok (.iadd, 1) := by decide +kernel
theorem dX10_freeBlocks_28 : decode cX10_freeBlocks 28 = .ok (.istore_n 1, 1) := by decide +kernel
theorem dX10_freeBlocks_29 : decode cX10_freeBlocks 29 = .ok (.iinc 2 1, 3) := by decide +kernel
theorem dX10_freeBlocks_32 : decode cX10_freeBlocks 32 = .ok (.goto (-28), 3) := by decide +kernel
theorem dX10_freeBlocks_35 : decode cX10_freeBlocks 35 = .ok (.iload_n 1, 1) := by decide +kernel
theorem dX10_freeBlocks_36 : decode cX10_freeBlocks 36 = .ok (.ireturn, 1) := by decide +kernel
set_option maxRecDepth 20000 in
theorem ggX10_count_X10_isIn : GoodIn wsX10_count wsX10_isIn := goodIn_r _ [15] (by decide +kernel) (by decide +kernel)
set_option maxRecDepth 20000 in
theorem gX10_count_X10_isIn : GoodIn wsX10_count (va_wsS RX10 193 yX10_isIn wsX10_isIn) := goodIn_app (goodIn_of _ (by decide +kernel)) ggX10_count_X10_isIn
set_option maxRecDepth 20000 in
theorem ggX10_count_X10_freeBlocks : GoodIn wsX10_count wsX10_freeBlocks := goodIn_r _ [19, 20, 21, 27, 28, 29, 30, 31, 32, 33, 34, 35, 36, 37, 38, 39, 40, 41, 42, 43, 44, 45, 46, 47, 48, 49, 50, 51, 52, 53, 54, 55, 56, 57, 58, 59, 60, 61, 62, 63, 64, 65, 66, 67, 68, 69, 70, 71, 72, 73, 74, 75, 76, 77, 78, 79, 80, 81, 82, 83] (by decide +kernel) (by decide +kernel)
set_option maxRecDepth 20000 in
theorem gX10_count_X10_freeBlocks : GoodIn wsX10_count (wsV RX10 339 RX10 yX10_freeBlocks wsX10_freeBlocks) := goodIn_app (goodIn_of _ (by decide +kernel)) ggX10_count_X10_freeBlocks
set_option maxRecDepth 20000 in
theorem ggX10_count_X10_per : GoodIn wsX10_count wsX10_per := goodIn_r _ [25, 26, 10, 27, 28, 29, 30, 31, 32, 33, 34, 35, 36, 37, 38, 39, 40, 41, 42, 43, 44, 45, 46, 47, 48, 49, 50, 51, 52, 53, 54, 55, 56, 57, 58, 59, 60, 61, 62, 63, 64, 65, 66, 67, 68, 69, 70, 71, 72, 73, 74, 75, 76, 77, 78, 79, 80, 81, 82, 83] (by decide +kernel) (by decide +kernel)
set_option maxRecDepth 20000 in
theorem gX10_count_X10_per : GoodIn wsX10_count (wsV RX10 179 RX10 yX10_per wsX10_per) := goodIn_app (goodIn_of _ (by decide +kernel)) ggX10_count_X10_per
theorem dX10_count_0 : decode cX10_count 0 = .ok (.aload_n 0, 1) := by decide +kernel
theorem dX10_count_1 : decode cX10_count 1 = .ok (.iload_n 1, 1) := by decide +kernel
theorem dX10_count_2 : decode cX10_count 2 = .ok (.iconst 0, 1) := by decide +kernel
theorem dX10_count_3 : decode cX10_count 3 = .ok (.bipush 11, 2) := by decide +kernel
theorem dX10_count_5 : decode cX10_count 5 = .ok (.invokestatic 193, 3) := by decide +kernel
theorem dX10_count_8 : decode cX10_count 8 = .ok (.ifCond .eq 7, 3) := by decide +kernel
theorem dX10_count_11 : decode cX10_count 11 = .ok (.iconst 0, 1) := by decide +kernel
theorem dX10_count_12 : decode cX10_count 12 = .ok (.goto 4, 3) := by decide +kernel
theorem dX10_count_15 : decode cX10_count 15 = .ok (.iconst 1, 1) := by decide +kernel
theorem dX10_count_16 : decode cX10_count 16 = .ok (.putfield 125, 3) := by decide +kernel
theorem dX10_count_19 : decode cX10_count 19 = .ok (.iload_n 1, 1) := by decide +kernel
theorem dX10_count_20 : decode cX10_count 20 = .ok (.tableswitch 132 0 11 #[64, 69, 74, 79, 84, 89, 94, 99, 104, 109, 114, 119], 64) := by decide +kernel
theorem dX10_count_84 : decode cX10_count 84 = .ok (.aload_n 0, 1) := by decide +kernel
theorem dX10_count_85 : decode cX10_count 85 = .ok (.getfield 137, 3) := by decide +kernel
theorem dX10_count_88 : decode cX10_count 88 = .ok (.ireturn, 1) := by decide +kernel
theorem dX10_count_89 : decode cX10_count 89 = .ok (.aload_n 0, 1) := by decide +kernel
theorem dX10_count_90 : decode cX10_count 90 = .ok (.getfield 144, 3) := by decide +kernel
theorem dX10_count_93 : decode cX10_count 93 = .ok (.ireturn, 1) := by decide +kernel
theorem dX10_count_94 : decode cX10_count 94 = .ok (.aload_n 0, 1) := by decide +kernel
theorem dX10_count_95 : decode cX10_count 95 = .ok (.getfield 128, 3) := by decide +kernel
theorem dX10_count_98 : decode cX10_count 98 = .ok (.ireturn, 1) := by decide +kernel
theorem dX10_count_99 : decode cX10_count 99 = .ok (.aload_n 0, 1) := by decide +kernel
theorem dX10_count_100 : decode cX10_count 100 = .ok (.getfield 131, 3) := by decide +kernel
theorem dX10_count_103 : decode cX10_count 103 = .ok (.ireturn, 1) := by decide +kernel
theorem dX10_count_104 : decode cX10_count 104 = .ok (.aload_n 0, 1) := by decide +kernel
theorem dX10_count_105 : decode cX10_count 105 = .ok (.invokevirtual 339, 3) := by decide +kernel
theorem dX10_count_108 : decode cX10_count 108 = .ok (.ireturn, 1) := by decide +kernel
theorem dX10_count_109 : decode cX10_count 109 = .ok (.aload_n 0, 1) := by decide +kernel
theorem dX10_count_110 : decode cX10_count 110 = .ok (.getfield 206, 3) := by decide +kernel
theorem dX10_count_113 : decode cX10_count 113 = .ok (.ireturn, 1) := by decide +kernel
theorem dX10_count_114 : decode cX10_count 114 = .ok (.aload_n 0, 1) := by decide +kernel
theorem dX10_count_115 : decode cX10_count 115 = .ok (.invokevirtual 179, 3) := by decide +kernel
theorem dX10_count_118 : decode cX10_count 118 = .ok (.ireturn, 1) := by decide +kernel
theorem dX10_count_119 : decode cX10_count 119 = .ok (.aload_n 0, 1) := by decide +kernel
theorem dX10_count_120 : decode cX10_count 120 = .ok (.getfield 203, 3) := by decide +kernel
theorem dX10_count_123 : decode cX10_count 123 = .ok (.ireturn, 1) := by decide +kernel
theorem dX10_count_124 : decode cX10_count 124 = .ok (.aload_n 0, 1) := by decide +kernel
theorem dX10_count_125 : decode cX10_count 125 = .ok (.getfield 147, 3) := by decide +kernel
theorem dX10_count_128 : decode cX10_count 128 = .ok (.ireturn, 1) := by decide +kernel
theorem dX10_count_129 : decode cX10_count 129 = .ok (.aload_n 0, 1) := by decide +kernel
theorem dX10_count_130 : decode cX10_count 130 = .ok (.getfield 154, 3) := by decide +kernel
theorem dX10_count_133 : decode cX10_count 133 = .ok (.ireturn, 1) := by decide +kernel
theorem dX10_count_134 : decode cX10_count 134 = .ok (.aload_n 0, 1) := by decide +kernel
theorem dX10_count_135 : decode cX10_count 135 = .ok (.getfield 116, 3) := by decide +kernel
theorem dX10_count_138 : decode cX10_count 138 = .ok (.ireturn, 1) := by decide +kernel
theorem dX10_count_139 : decode cX10_count 139 = .ok (.aload_n 0, 1) := by decide +kernel
theorem dX10_count_140 : decode cX10_count 140 = .ok (.getfield 197, 3) := by decide +kernel
theorem dX10_count_143 : decode cX10_count 143 = .ok (.ifCond .eq 7, 3) := by decide +kernel
theorem dX10_count_146 : decode cX10_count 146 = .ok (.iconst 1, 1) := by decide +kernel
theorem dX10_count_147 : decode cX10_count 147 = .ok (.goto 4, 3) := by decide +kernel
theorem dX10_count_150 : decode cX10_count 150 = .ok (.iconst 0, 1) := by decide +kernel
theorem dX10_count_151 : decode cX10_count 151 = .ok (.ireturn, 1) := by decide +kernel
theorem dX10_count_152 : decode cX10_count 152 = .ok (.iconst 0, 1) := by decide +kernel
theorem dX10_count_153 : decode cX10_count 153 = .ok (.ireturn, 1) := by decide +kernel
set_option maxRecDepth 20000 in
theorem ggX10_crash_X10_isIn : GoodIn wsX10_crash wsX10_isIn := goodIn_r _ [8] (by decide +kernel) (by decide +kernel)
set_option maxRecDepth 20000 in
theorem gX10_crash_X10_isIn : GoodIn wsX10_crash (va_wsS RX10 193 yX10_isIn wsX10_isIn) := goodIn_app (goodIn_of _ (by decide +kernel)) ggX10_crash_X10_isIn
theorem dX10_crash_0 : decode cX10_crash 0 = .ok (.aload_n 0, 1) := by decide +kernel
theorem dX10_crash_1 : decode cX10_crash 1 = .ok (.iload_n 1, 1) := by decide +kernel
theorem dX10_crash_2 : decode cX10_crash 2 = .ok (.iconst (-1), 1) := by decide +kernel
theorem dX10_crash_3 : decode cX10_crash 3 = .ok (.ldc_w 342, 3) := by decide +kernel
theorem dX10_crash_6 : decode cX10_crash 6 = .ok (.invokestatic 193, 3) := by decide +kernel
theorem dX10_crash_9 : decode cX10_crash 9 = .ok (.ifCond .ne 7, 3) := by decide +kernel
theorem dX10_crash_12 : decode cX10_crash 12 = .ok (.iconst 1, 1) := by decide +kernel
theorem dX10_crash_13 : decode cX10_crash 13 = .ok (.goto 15, 3) := by decide +kernel
theorem dX10_crash_16 : decode cX10_crash 16 = .ok (.aload_n 0, 1) := by decide +kernel
theorem dX10_crash_17 : decode cX10_crash 17 = .ok (.getfield 197, 3) := by decide +kernel
theorem dX10_crash_20 : decode cX10_crash 20 = .ok (.ifCond .eq 7, 3) := by decide +kernel
theorem dX10_crash_23 : decode cX10_crash 23 = .ok (.iconst 2, 1) := by decide +kernel
theorem dX10_crash_24 : decode cX10_crash 24 = .ok (.goto 4, 3) := by decide +kernel
theorem dX10_crash_27 : decode cX10_crash 27 = .ok (.iconst 0, 1) := by decide +kernel
theorem dX10_crash_28 : decode cX10_crash 28 = .ok (.putfield 125, 3) := by decide +kernel
theorem dX10_crash_31 : decode cX10_crash 31 = .ok (.aload_n 0, 1) := by decide +kernel
theorem dX10_crash_32 : decode cX10_crash 32 = .ok (.getfield 125, 3) := by decide +kernel
theorem dX10_crash_35 : decode cX10_crash 35 = .ok (.ifCond .le 4, 3) := by decide +kernel
theorem dX10_crash_38 : decode cX10_crash 38 = .ok (.return_, 1) := by decide +kernel
theorem dX10_crash_39 : decode cX10_crash 39 = .ok (.aload_n 0, 1) := by decide +kernel
theorem dX10_crash_40 : decode cX10_crash 40 = .ok (.iload_n 1, 1) := by decide +kernel
theorem dX10_crash_41 : decode cX10_crash 41 = .ok (.putfield 122, 3) := by decide +kernel
theorem dX10_crash_44 : decode cX10_crash 44 = .ok (.return_, 1) := by decide +kernel
theorem dX10_up_0 : decode cX10_up 0 = .ok (.aload_n 0, 1) := by decide +kernel
theorem dX10_up_1 : decode cX10_up 1 = .ok (.aload_n 0, 1) := by decide +kernel
theorem dX10_up_2 : decode cX10_up 2 = .ok (.getfield 197, 3) := by decide +kernel
theorem dX10_up_5 : decode cX10_up 5 = .ok (.ifCond .eq 7, 3) := by decide +kernel
theorem dX10_up_8 : decode cX10_up 8 = .ok (.iconst 0, 1) := by decide +kernel
theorem dX10_up_9 : decode cX10_up 9 = .ok (.goto 4, 3) := by decide +kernel
theorem dX10_up_12 : decode cX10_up 12 = .ok (.iconst 1, 1) := by decide +kernel
theorem dX10_up_13 : decode cX10_up 13 = .ok (.putfield 125, 3) := by decide +kernel
theorem dX10_up_16 : decode cX10_up 16 = .ok (.aload_n 0, 1) := by decide +kernel
theorem dX10_up_17 : decode cX10_up 17 = .ok (.getfield 125, 3) := by decide +kernel
theorem dX10_up_20 : decode cX10_up 20 = .ok (.ifCond .le 5, 3) := by decide +kernel
theorem dX10_up_23 : decode cX10_up 23 = .ok (.iconst 0, 1) := by decide +kernel
theorem dX10_up_24 : decode cX10_up 24 = .ok (.ireturn, 1) := by decide +kernel
theorem dX10_up_25 : decode cX10_up 25 = .ok (.aload_n 0, 1) := by decide +kernel
theorem dX10_up_26 : decode cX10_up 26 = .ok (.iconst 0, 1) := by decide +kernel
theorem dX10_up_27 : decode cX10_up 27 = .ok (.putfield 197, 3) := by decide +kernel
theorem dX10_up_30 : decode cX10_up 30 = .ok (.aload_n 0, 1) := by decide +kernel
theorem dX10_up_31 : decode cX10_up 31 = .ok (.iconst (-1), 1) := by decide +kernel
theorem dX10_up_32 : decode cX10_up 32 = .ok (.putfield 122, 3) := by decide +kernel
theorem dX10_up_35 : decode cX10_up 35 = .ok (.aload_n 0, 1) := by decide +kernel
theorem dX10_up_36 : decode cX10_up 36 = .ok (.getfield 200, 3) := by decide +kernel
theorem dX10_up_39 : decode cX10_up 39 = .ok (.ireturn, 1) := by decide +kernel
theorem dJ9_max_7cf53_0 : decode cJ9_max_7cf53 0 = .ok (.iload_n 0, 1) := by decide +kernel
theorem dJ9_max_7cf53_1 : decode cJ9_max_7cf53 1 = .ok (.iload_n 1, 1) := by decide +kernel
theorem dJ9_max_7cf53_2 : decode cJ9_max_7cf53 2 = .ok (.if_icmp .lt 7, 3) := by decide +kernel
theorem dJ9_max_7cf53_5 : decode cJ9_max_7cf53 5 = .ok (.iload_n 0, 1) := by decide +kernel
theorem dJ9_max_7cf53_6 : decode cJ9_max_7cf53 6 = .ok (.goto 4, 3) := by decide +kernel
theorem dJ9_max_7cf53_9 : decode cJ9_max_7cf53 9 = .ok (.iload_n 1, 1) := by decide +kernel
theorem dJ9_max_7cf53_10 : decode cJ9_max_7cf53 10 = .ok (.ireturn, 1) := by decide +kernel
theorem dJ9_min_7cf53_0 : decode cJ9_min_7cf53 0 = .ok (.iload_n 0, 1) := by decide +kernel
theorem dJ9_min_7cf53_1 : decode cJ9_min_7cf53 1 = .ok (.iload_n 1, 1) := by decide +kernel
theorem dJ9_min_7cf53_2 : decode cJ9_min_7cf53 2 = .ok (.if_icmp .gt 7, 3) := by decide +kernel
theorem dJ9_min_7cf53_5 : decode cJ9_min_7cf53 5 = .ok (.iload_n 0, 1) := by decide +kernel
theorem dJ9_min_7cf53_6 : decode cJ9_min_7cf53 6 = .ok (.goto 4, 3) := by decide +kernel
theorem dJ9_min_7cf53_9 : decode cJ9_min_7cf53 9 = .ok (.iload_n 1, 1) := by decide +kernel
theorem dJ9_min_7cf53_10 : decode cJ9_min_7cf53 10 = .ok (.ireturn, 1) := by decide +kernel
theorem dL_cell_0 : decode cL_cell 0 = .ok (.iload_n 1, 1) := by decide +kernel
theorem dL_cell_1 : decode cL_cell 1 = .ok (.aload_n 0, 1) := by decide +kernel
theorem dL_cell_2 : decode cL_cell 2 = .ok (.arraylength, 1) := by decide +kernel
theorem dL_cell_3 : decode cL_cell 3 = .ok (.if_icmp .ge 9, 3) := by decide +kernel
theorem dL_cell_6 : decode cL_cell 6 = .ok (.aload_n 0, 1) := by decide +kernel
theorem dL_cell_7 : decode cL_cell 7 = .ok (.iload_n 1, 1) := by decide +kernel
theorem dL_cell_8 : decode cL_cell 8 = .ok (.iaload, 1) := by decide +kernel
theorem dL_cell_9 : decode cL_cell 9 = .ok (.goto 4, 3) := by decide +kernel
theorem dL_cell_12 : decode cL_cell 12 = .ok (.iconst 0, 1) := by decide +kernel
theorem dL_cell_13 : decode cL_cell 13 = .ok (.ireturn, 1) := by decide +kernel
set_option maxRecDepth 20000 in
theorem ggL_width_X9_width : GoodIn wsL_width wsX9_width := goodIn_ca (goodIn_ca (goodIn_r _ [7, 8, 9, 10, 11, 12, 13, 14, 15, 16, 17, 6, 18, 19, 20, 21, 22, 23, 24, 25, 26, 27, 28, 29, 30, 31, 32, 33, 34, 35, 36, 37, 38, 39, 40, 41, 42, 43, 44, 45, 46, 47, 48, 49, 50, 51, 52, 53, 54, 55, 56, 57, 58, 59, 60, 61, 62, 63, 64, 65, 66, 67, 68, 69, 70, 71, 72, 73, 74, 75, 76, 77, 78, 79, 80, 81, 82, 83, 84, 85, 86, 87, 88, 89, 90, 91, 92, 93, 94] (by decide +kernel) (by decide +kernel)) (goodIn_sub (fun _ h => List.mem_cons_of_mem _ (List.mem_append_left _ (List.mem_append_right _ h))) (by decide +kernel))) (goodIn_sub (fun _ h => List.mem_cons_of_mem _ (List.mem_append_right _ h)) (by decide +kernel))
set_option maxRecDepth 20000 in
theorem gL_width_X9_width : GoodIn wsL_width (wsV RL 7 RX9 yX9_width wsX9_width) := goodIn_app (goodIn_of _ (by decide +kernel)) ggL_width_X9_width
theorem dL_width_0 : decode cL_width 0 = .ok (.aload_n 0, 1) := by decide +kernel
theorem dL_width_1 : decode cL_width 1 = .ok (.iload_n 1, 1) := by decide +kernel
theorem dL_width_2 : decode cL_width 2 = .ok (.invokevirtual 7, 3) := by decide +kernel
theorem dL_width_5 : decode cL_width 5 = .ok (.goto 9, 3) := by decide +kernel
theorem dL_width_8 : decode cL_width 8 = .ok (.astore_n 2, 1) := by decide +kernel
theorem dL_width_9 : decode cL_width 9 = .ok (.iconst 1, 1) := by decide +kernel
theorem dL_width_10 : decode cL_width 10 = .ok (.ireturn, 1) := by decide +kernel
theorem dL_width_11 : decode cL_width 11 = .ok (.astore_n 2, 1) := by decide +kernel
theorem dL_width_12 : decode cL_width 12 = .ok (.iconst 2, 1) := by decide +kernel
theorem dL_width_13 : decode cL_width 13 = .ok (.ireturn, 1) := by decide +kernel
theorem dL_width_14 : decode cL_width 14 = .ok (.iconst 0, 1) := by decide +kernel
theorem dL_width_15 : decode cL_width 15 = .ok (.ireturn, 1) := by decide +kernel
set_option maxRecDepth 20000 in
theorem ggL_key_X9_key : GoodIn wsL_key wsX9_key := goodIn_ca (goodIn_ca (goodIn_ca (goodIn_r _ [8, 9, 10, 11, 12, 13, 14, 15, 16, 17, 18, 19, 20, 21, 22, 23, 24, 25, 26, 7, 27, 28, 29, 30, 31, 32, 33, 34, 35, 36, 37, 38, 39, 40, 41, 42, 43, 44, 45, 46, 47, 48, 49, 50, 51, 52, 53, 54, 55, 56, 57, 58, 59, 60, 61, 62, 63, 64, 65, 66, 67, 68, 69, 70] (by decide +kernel) (by decide +kernel)) (goodIn_sub (fun _ h => List.mem_cons_of_mem _ (List.mem_append_left _ (List.mem_append_left _ (List.mem_append_right _ h)))) (by decide +kernel))) (goodIn_sub (fun _ h => List.mem_cons_of_mem _ (List.mem_append_left _ (List.mem_append_right _ h))) (by decide +kernel))) (goodIn_sub (fun _ h => List.mem_cons_of_mem _ (List.mem_append_right _ h)) (by decide +kernel))
set_option maxRecDepth 20000 in
theorem gL_key_X9_key : GoodIn wsL_key (wsV RL 17 RX9 yX9_key wsX9_key) := goodIn_app (goodIn_of _ (by decide +kernel)) ggL_key_X9_key
theorem dL_key_0 : decode cL_key 0 = .ok (.aload_n 3, 1) := by decide +kernel
theorem dL_key_1 : decode cL_key 1 = .ok (.iconst 0, 1) := by decide +kernel
theorem dL_key_2 : decode cL_key 2 = .ok (.aload_n 0, 1) := by decide +kernel
theorem dL_key_3 : decode cL_key 3 = .ok (.iload_n 1, 1) := by decide +kernel
theorem dL_key_4 : decode cL_key 4 = .ok (.iload_n 2, 1) := by decide +kernel
theorem dL_key_5 : decode cL_key 5 = .ok (.invokevirtual 17, 3) := by decide +kernel
theorem dL_key_8 : decode cL_key 8 = .ok (.i2l, 1) := by decide +kernel
theorem dL_key_9 : decode cL_key 9 = .ok (.lastore, 1) := by decide +kernel
theorem dL_key_10 : decode cL_key 10 = .ok (.goto 15, 3) := by decide +kernel
theorem dL_key_13 : decode cL_key 13 = .ok (.astore 4, 2) := by decide +kernel
theorem dL_key_15 : decode cL_key 15 = .ok (.iconst 1, 1) := by decide +kernel
theorem dL_key_16 : decode cL_key 16 = .ok (.ireturn, 1) := by decide +kernel
theorem dL_key_17 : decode cL_key 17 = .ok (.astore 4, 2) := by decide +kernel
theorem dL_key_19 : decode cL_key 19 = .ok (.iconst 2, 1) := by decide +kernel
theorem dL_key_20 : decode cL_key 20 = .ok (.ireturn, 1) := by decide +kernel
theorem dL_key_21 : decode cL_key 21 = .ok (.astore 4, 2) := by decide +kernel
theorem dL_key_23 : decode cL_key 23 = .ok (.iconst 3, 1) := by decide +kernel
theorem dL_key_24 : decode cL_key 24 = .ok (.ireturn, 1) := by decide +kernel
theorem dL_key_25 : decode cL_key 25 = .ok (.iconst 0, 1) := by decide +kernel
theorem dL_key_26 : decode cL_key 26 = .ok (.ireturn, 1) := by decide +kernel
set_option maxRecDepth 20000 in
theorem ggL_mode_X9_mode : GoodIn wsL_mode wsX9_mode := goodIn_ca (goodIn_ca (goodIn_r _ [7, 8, 9, 10, 11, 12, 13, 6, 14, 15, 16, 17, 18, 19, 20, 21, 22, 23, 24, 25, 26, 27, 28, 29, 30, 31, 32, 33, 34, 35, 36, 37, 38, 39] (by decide +kernel) (by decide +kernel)) (goodIn_sub (fun _ h => List.mem_cons_of_mem _ (List.mem_append_left _ (List.mem_append_right _ h))) (by decide +kernel))) (goodIn_sub (fun _ h => List.mem_cons_of_mem _ (List.mem_append_right _ h)) (by decide +kernel))
set_option maxRecDepth 20000 in
theorem gL_mode_X9_mode : GoodIn wsL_mode (wsV RL 23 RX9 yX9_mode wsX9_mode) := goodIn_app (goodIn_of _ (by decide +kernel)) ggL_mode_X9_mode
theorem dL_mode_0 : decode cL_mode 0 = .ok (.aload_n 2, 1) := by decide +kernel
theorem dL_mode_1 : decode cL_mode 1 = .ok (.iconst 0, 1) := by decide +kernel
theorem dL_mode_2 : decode cL_mode 2 = .ok (.aload_n 0, 1) := by decide +kernel
theorem dL_mode_3 : decode cL_mode 3 = .ok (.iload_n 1, 1) := by decide +kernel
theorem dL_mode_4 : decode cL_mode 4 = .ok (.invokevirtual 23, 3) := by decide +kernel
theorem dL_mode_7 : decode cL_mode 7 = .ok (.i2l, 1) := by decide +kernel
theorem dL_mode_8 : decode cL_mode 8 = .ok (.lastore, 1) := by decide +kernel
theorem dL_mode_9 : decode cL_mode 9 = .ok (.goto 9, 3) := by decide +kernel
theorem dL_mode_12 : decode cL_mode 12 = .ok (.astore_n 3, 1) := by decide +kernel
theorem dL_mode_13 : decode cL_mode 13 = .ok (.iconst 1, 1) := by decide +kernel
theorem dL_mode_14 : decode cL_mode 14 = .ok (.ireturn, 1) := by decide +kernel
theorem dL_mode_15 : decode cL_mode 15 = .ok (.astore_n 3, 1) := by decide +kernel
theorem dL_mode_16 : decode cL_mode 16 = .ok (.iconst 2, 1) := by decide +kernel
theorem dL_mode_17 : decode cL_mode 17 = .ok (.ireturn, 1) := by decide +kernel
theorem dL_mode_18 : decode cL_mode 18 = .ok (.iconst 0, 1) := by decide +kernel
theorem dL_mode_19 : decode cL_mode 19 = .ok (.ireturn, 1) := by decide +kernel
set_option maxRecDepth 20000 in
theorem ggL_feed_X9_feed : GoodIn wsL_feed wsX9_feed := goodIn_ca (goodIn_ca (goodIn_r _ [7, 8, 9, 10, 11, 12, 6, 13, 14, 15, 16, 17, 18, 19, 20, 21, 22, 23, 24, 25, 26, 27, 28, 29, 30, 31, 32, 33, 34, 35, 36, 37, 38, 39, 40, 41, 42, 43, 44, 45, 46, 47, 48, 49, 50, 51, 52, 53, 54, 55, 56, 57, 58, 59, 60, 61, 62, 63, 64, 65, 66, 67, 68, 69, 70, 71, 72, 73, 74, 75, 76, 77, 78, 79, 80, 81, 82, 83, 84, 85, 86, 87, 88, 89, 90, 91, 92, 93, 94, 95, 96, 97, 98, 99, 100, 101, 102, 103, 104, 105, 106, 107, 108, 109, 110, 111, 112, 113, 114] (by decide +kernel) (by decide +kernel)) (goodIn_sub (fun _ h => List.mem_cons_of_mem _ (List.mem_append_left _ (List.mem_append_right _ h))) (by decide +kernel))) (goodIn_sub (fun _ h => List.mem_cons_of_mem _ (List.mem_append_right _ h)) (by decide +kernel))
set_option maxRecDepth 20000 in
theorem gL_feed_X9_feed : GoodIn wsL_feed (wsV RL 27 RX9 yX9_feed wsX9_feed) := goodIn_app (goodIn_of _ (by decide +kernel)) ggL_feed_X9_feed
theorem dL_feed_0 : decode cL_feed 0 = .ok (.aload 9, 2) := by decide +kernel
theorem dL_feed_2 : decode cL_feed 2 = .ok (.iconst 0, 1) := by decide +kernel
theorem dL_feed_3 : decode cL_feed 3 = .ok (.aload_n 0, 1) := by decide +kernel
theorem dL_feed_4 : decode cL_feed 4 = .ok (.lload_n 1, 1) := by decide +kernel
theorem dL_feed_5 : decode cL_feed 5 = .ok (.lload_n 3, 1) := by decide +kernel
theorem dL_feed_6 : decode cL_feed 6 = .ok (.lload 5, 2) := by decide +kernel
theorem dL_feed_8 : decode cL_feed 8 = .ok (.lload 7, 2) := by decide +kernel
theorem dL_feed_10 : decode cL_feed 10 = .ok (.invokevirtual 27, 3) := by decide +kernel
theorem dL_feed_13 : decode cL_feed 13 = .ok (.i2l, 1) := by decide +kernel
theorem dL_feed_14 : decode cL_feed 14 = .ok (.lastore, 1) := by decide +kernel
theorem dL_feed_15 : decode cL_feed 15 = .ok (.goto 11, 3) := by decide +kernel
theorem dL_feed_18 : decode cL_feed 18 = .ok (.astore 10, 2) := by decide +kernel
theorem dL_feed_20 : decode cL_feed 20 = .ok (.iconst 1, 1) := by decide +kernel
theorem dL_feed_21 : decode cL_feed 21 = .ok (.ireturn, 1) := by decide +kernel
theorem dL_feed_22 : decode cL_feed 22 = .ok (.astore 10, 2) := by decide +kernel
theorem dL_feed_24 : decode cL_feed 24 = .ok (.iconst 2, 1) := by decide +kernel
theorem dL_feed_25 : decode cL_feed 25 = .ok (.ireturn, 1) := by decide +kernel
theorem dL_feed_26 : decode cL_feed 26 = .ok (.iconst 0, 1) := by decide +kernel
theorem dL_feed_27 : decode cL_feed 27 = .ok (.ireturn, 1) := by decide +kernel
set_option maxRecDepth 20000 in
theorem ggL_run_X9_run : GoodIn wsL_run wsX9_run := goodIn_ca (goodIn_ca (goodIn_r _ [7, 8, 9, 10, 11, 12, 13, 14, 15, 16, 17, 18, 6, 19, 20, 21, 22, 23, 24, 25, 26, 27, 28, 29, 30, 31, 32, 33, 34, 35, 36, 37, 38, 39, 40, 41, 42, 43, 44, 45, 46, 47, 48, 49, 50, 51, 52, 53, 54, 55, 56, 57, 58, 59, 60, 61, 62, 63, 64, 65, 66, 67, 68, 69, 70, 71, 72, 73, 74, 75, 76, 77, 78, 79, 80, 81, 82, 83, 84, 85, 86, 87, 88, 89, 90, 91, 92, 93, 94, 95, 96, 97, 98, 99, 100, 101, 102, 103, 104, 105, 106, 107, 108, 109] (by decide +kernel) (by decide +kernel)) (goodIn_sub (fun _ h => List.mem_cons_of_mem _ (List.mem_append_left _ (List.mem_append_right _ h))) (by decide +kernel))) (goodIn_sub (fun _ h => List.mem_cons_of_mem _ (List.mem_append_right _ h)) (by decide +kernel))
set_option maxRecDepth 20000 in
theorem gL_run_X9_run : GoodIn wsL_run (wsV RL 33 RX9 yX9_run wsX9_run) := goodIn_app (goodIn_of _ (by decide +kernel)) ggL_run_X9_run
theorem dL_run_0 : decode cL_run 0 = .ok (.aload 5, 2) := by decide +kernel
theorem dL_run_2 : decode cL_run 2 = .ok (.iconst 0, 1) := by decide +kernel
theorem dL_run_3 : decode cL_run 3 = .ok (.aload_n 0, 1) := by decide +kernel
theorem dL_run_4 : decode cL_run 4 = .ok (.lload_n 1, 1) := by decide +kernel
theorem dL_run_5 : decode cL_run 5 = .ok (.iload_n 3, 1) := by decide +kernel
theorem dL_run_6 : decode cL_run 6 = .ok (.iload 4, 2) := by decide +kernel
theorem dL_run_8 : decode cL_run 8 = .ok (.invokevirtual 33, 3) := by decide +kernel
theorem dL_run_11 : decode cL_run 11 = .ok (.i2l, 1) := by decide +kernel
theorem dL_run_12 : decode cL_run 12 = .ok (.lastore, 1) := by decide +kernel
theorem dL_run_13 : decode cL_run 13 = .ok (.goto 11, 3) := by decide +kernel
theorem dL_run_16 : decode cL_run 16 = .ok (.astore 6, 2) := by decide +kernel
theorem dL_run_18 : decode cL_run 18 = .ok (.iconst 1, 1) := by decide +kernel
theorem dL_run_19 : decode cL_run 19 = .ok (.ireturn, 1) := by decide +kernel
theorem dL_run_20 : decode cL_run 20 = .ok (.astore 6, 2) := by decide +kernel
theorem dL_run_22 : decode cL_run 22 = .ok (.iconst 2, 1) := by decide +kernel
theorem dL_run_23 : decode cL_run 23 = .ok (.ireturn, 1) := by decide +kernel
theorem dL_run_24 : decode cL_run 24 = .ok (.iconst 0, 1) := by decide +kernel
theorem dL_run_25 : decode cL_run 25 = .ok (.ireturn, 1) := by decide +kernel
set_option maxRecDepth 20000 in
theorem ggL_form_X9_form : GoodIn wsL_form wsX9_form := goodIn_ca (goodIn_ca (goodIn_ca (goodIn_r _ [8, 9, 10, 11, 12, 13, 14, 15, 16, 17, 7, 18, 19, 20, 21, 22, 23, 24, 25, 26, 27, 28, 29, 30, 31, 32, 33, 34, 35, 36, 37, 38, 39, 40, 41, 42, 43, 44, 45, 46, 47, 48, 49, 50, 51, 52, 53, 54, 55, 56, 57, 58, 59, 60, 61, 62, 63, 64, 65, 66, 67, 68, 69, 70, 71, 72, 73, 74, 75, 76, 77, 78, 79, 80, 81, 82, 83, 84, 85, 86, 87, 88, 89, 90, 91, 92, 93, 94, 95, 96, 97, 98, 99, 100, 101, 102, 103, 104, 105, 106, 107, 108, 109, 110, 111, 112, 113, 114, 115, 116, 117, 118, 119, 120, 121, 122, 123, 124, 125, 126, 127, 128, 129, 130, 131, 132, 133, 134, 135, 136, 137, 138, 139, 140, 141, 142, 143, 144, 145, 146, 147, 148, 149, 150, 151, 152, 153, 154, 155, 156, 157, 158, 159, 160, 161, 162, 163, 164, 165, 166, 167, 168, 169, 170, 171, 172, 173, 174, 175, 176, 177, 178, 179, 180, 181, 182, 183, 184, 185, 186, 187, 188, 189, 190, 191, 192, 193, 194, 195, 196, 197, 198, 199, 200, 201, 202, 203, 204, 205, 206, 207, 208, 209, 210, 211, 212, 213, 214, 215, 216, 217, 218, 219, 220, 221, 222, 223, 224, 225, 226, 227, 228, 229, 230, 231, 232, 233, 234, 235, 236, 237, 238, 239, 240, 241, 242, 243, 244, 245, 246, 247, 248, 249, 250, 251, 252, 253, 254, 255, 256, 257, 258, 259, 260, 261, 262, 263, 264, 265, 266, 267, 268, 269, 270, 271, 272, 273, 274, 275, 276, 277, 278, 279, 280, 281, 282, 283, 284, 285, 286, 287, 288, 289, 290, 291, 292, 293, 294, 295, 296, 297, 298, 299, 300, 301, 302, 303, 304, 305, 306, 307, 308, 309, 310, 311, 312, 313, 314, 315, 316, 317, 318, 319, 320, 321, 322, 323, 324, 325] (by decide +kernel) (by decide +kernel)) (goodIn_sub (fun _ h => List.mem_cons_of_mem _ (List.mem_append_left _ (List.mem_append_left _ (List.mem_append_right _ h)))) (by decide +kernel))) (goodIn_sub (fun _ h => List.mem_cons_of_mem _ (List.mem_append_left _ (List.mem_append_right _ h))) (by decide +kernel))) (goodIn_sub (fun _ h => List.mem_cons_of_mem _ (List.mem_append_right _ h)) (by decide +kernel))
set_option maxRecDepth 20000 in
theorem gL_form_X9_form : GoodIn wsL_form (wsV RL 37 RX9 yX9_form wsX9_form) := goodIn_app (goodIn_of _ (by decide +kernel)) ggL_form_X9_form
theorem dL_form_0 : decode cL_form 0 = .ok (.aload_n 2, 1) := by decide +kernel
theorem dL_form_1 : decode cL_form 1 = .ok (.iconst 0, 1) := by decide +kernel
theorem dL_form_2 : decode cL_form 2 = .ok (.aload_n 0, 1) := by decide +kernel
theorem dL_form_3 : decode cL_form 3 = .ok (.iload_n 1, 1) := by decide +kernel
theorem dL_form_4 : decode cL_form 4 = .ok (.invokevirtual 37, 3) := by decide +kernel
theorem dL_form_7 : decode cL_form 7 = .ok (.i2l, 1) := by decide +kernel
theorem dL_form_8 : decode cL_form 8 = .ok (.lastore, 1) := by decide +kernel
theorem dL_form_9 : decode cL_form 9 = .ok (.goto 12, 3) := by decide +kernel
theorem dL_form_12 : decode cL_form 12 = .ok (.astore_n 3, 1) := by decide +kernel
theorem dL_form_13 : decode cL_form 13 = .ok (.iconst 1, 1) := by decide +kernel
theorem dL_form_14 : decode cL_form 14 = .ok (.ireturn, 1) := by decide +kernel
theorem dL_form_15 : decode cL_form 15 = .ok (.astore_n 3, 1) := by decide +kernel
theorem dL_form_16 : decode cL_form 16 = .ok (.iconst 2, 1) := by decide +kernel
theorem dL_form_17 : decode cL_form 17 = .ok (.ireturn, 1) := by decide +kernel
theorem dL_form_18 : decode cL_form 18 = .ok (.astore_n 3, 1) := by decide +kernel
theorem dL_form_19 : decode cL_form 19 = .ok (.iconst 3, 1) := by decide +kernel
theorem dL_form_20 : decode cL_form 20 = .ok (.ireturn, 1) := by decide +kernel
theorem dL_form_21 : decode cL_form 21 = .ok (.iconst 0, 1) := by decide +kernel
theorem dL_form_22 : decode cL_form 22 = .ok (.ireturn, 1) := by decide +kernel
set_option maxRecDepth 20000 in
theorem ggL_pass_X9_pass : GoodIn wsL_pass wsX9_pass := goodIn_ca (goodIn_ca (goodIn_ca (goodIn_r _ [8, 9, 10, 11, 7, 12, 13, 14, 15, 16, 17, 18, 19, 20, 21, 22, 23, 24, 25, 26, 27, 28, 29, 30, 31, 32, 33, 34, 35, 36, 37, 38, 39, 40, 41, 42, 43, 44, 45, 46, 47, 48, 49, 50, 51, 52, 53, 54, 55, 56, 57, 58, 59, 60, 61, 62, 63, 64, 65, 66, 67, 68, 69, 70, 71, 72, 73, 74, 75, 76, 77, 78, 79, 80, 81, 82, 83, 84, 85, 86, 87, 88, 89, 90, 91, 92, 93, 94, 95, 96, 97, 98, 99, 100, 101, 102, 103, 104, 105, 106, 107, 108, 109, 110, 111, 112, 113, 114, 115, 116, 117, 118, 119, 120, 121, 122, 123, 124, 125, 126, 127, 128, 129, 130, 131, 132, 133, 134, 135, 136, 137, 138, 139, 140, 141, 142, 143, 144, 145, 146, 147, 148, 149, 150, 151, 152, 153, 154, 155, 156, 157, 158, 159, 160, 161, 162, 163, 164, 165, 166, 167, 168, 169, 170, 171, 172, 173, 174, 175, 176, 177, 178, 179, 180, 181, 182, 183, 184, 185, 186, 187, 188, 189, 190, 191, 192, 193, 194, 195, 196, 197, 198, 199, 200, 201, 202, 203, 204, 205, 206, 207, 208, 209, 210, 211, 212, 213, 214, 215, 216, 217, 218, 219, 220, 221, 222, 223, 224, 225, 226, 227, 228, 229, 230, 231, 232, 233, 234, 235, 236, 237, 238, 239, 240, 241, 242, 243, 244, 245, 246, 247, 248, 249, 250, 251, 252, 253, 254, 255, 256, 257, 258, 259, 260, 261, 262, 263, 264, 265, 266, 267, 268, 269, 270, 271, 272, 273, 274, 275, 276, 277, 278, 279, 280, 281, 282, 283, 284, 285, 286, 287] (by decide +kernel) (by decide +kernel)) (goodIn_sub (fun _ h => List.mem_cons_of_mem _ (List.mem_append_left _ (List.mem_append_left _ (List.mem_append_right _ h)))) (by decide +kernel))) (goodIn_sub (fun _ h => List.mem_cons_of_mem _ (List.mem_append_left _ (List.mem_append_right _ h))) (by decide +kernel))) (goodIn_sub (fun _ h => List.mem_cons_of_mem _ (List.mem_append_right _ h)) (by decide +kernel))
set_option maxRecDepth 20000 in
theorem gL_pass_X9_pass : GoodIn wsL_pass (wsV RL 40 RX9 yX9_pass wsX9_pass) := goodIn_app (goodIn_of _ (by decide +kernel)) ggL_pass_X9_pass
theorem dL_pass_0 : decode cL_pass 0 = .ok (.aload_n 2, 1) := by decide +kernel
theorem dL_pass_1 : decode cL_pass 1 = .ok (.iconst 0, 1) := by decide +kernel
theorem dL_pass_2 : decode cL_pass 2 = .ok (.aload_n 0, 1) := by decide +kernel
theorem dL_pass_3 : decode cL_pass 3 = .ok (.iload_n 1, 1) := by decide +kernel
theorem dL_pass_4 : decode cL_pass 4 = .ok (.invokevirtual 40, 3) := by decide +kernel
theorem dL_pass_7 : decode cL_pass 7 = .ok (.i2l, 1) := by decide +kernel
theorem dL_pass_8 : decode cL_pass 8 = .ok (.lastore, 1) := by decide +kernel
theorem dL_pass_9 : decode cL_pass 9 = .ok (.goto 12, 3) := by decide +kernel
theorem dL_pass_12 : decode cL_pass 12 = .ok (.astore_n 3, 1) := by decide +kernel
theorem dL_pass_13 : decode cL_pass 13 = .ok (.iconst 1, 1) := by decide +kernel
theorem dL_pass_14 : decode cL_pass 14 = .ok (.ireturn, 1) := by decide +kernel
theorem dL_pass_15 : decode cL_pass 15 = .ok (.astore_n 3, 1) := by decide +kernel
theorem dL_pass_16 : decode cL_pass 16 = .ok (.iconst 2, 1) := by decide +kernel
theorem dL_pass_17 : decode cL_pass 17 = .ok (.ireturn, 1) := by decide +kernel
theorem dL_pass_18 : decode cL_pass 18 = .ok (.astore_n 3, 1) := by decide +kernel
theorem dL_pass_19 : decode cL_pass 19 = .ok (.iconst 3, 1) := by decide +kernel
theorem dL_pass_20 : decode cL_pass 20 = .ok (.ireturn, 1) := by decide +kernel
theorem dL_pass_21 : decode cL_pass 21 = .ok (.iconst 0, 1) := by decide +kernel
theorem dL_pass_22 : decode cL_pass 22 = .ok (.ireturn, 1) := by decide +kernel
set_option maxRecDepth 20000 in
theorem ggL_best_X9_best : GoodIn wsL_best wsX9_best := goodIn_ca (goodIn_ca (goodIn_ca (goodIn_r _ [8, 9, 10, 11, 7, 12, 13, 14, 15, 16, 17, 18, 19, 20, 21, 22, 23, 24, 25, 26, 27, 28, 29, 30, 31, 32, 33, 34, 35, 36, 37, 38, 39, 40, 41, 42, 43, 44, 45, 46, 47, 48, 49, 50, 51, 52, 53, 54, 55, 56, 57, 58, 59, 60, 61, 62, 63, 64, 65, 66, 67, 68, 69, 70, 71, 72, 73, 74, 75, 76, 77, 78, 79, 80, 81, 82, 83, 84, 85, 86, 87, 88, 89, 90, 91, 92, 93, 94, 95, 96, 97, 98, 99, 100, 101, 102, 103, 104, 105, 106, 107, 108, 109, 110, 111, 112, 113, 114, 115, 116, 117, 118, 119, 120, 121, 122, 123, 124, 125, 126, 127, 128, 129, 130, 131, 132, 133, 134, 135, 136, 137, 138, 139, 140, 141, 142, 143, 144, 145, 146, 147, 148, 149, 150, 151, 152, 153, 154, 155, 156, 157, 158, 159, 160, 161, 162, 163, 164, 165, 166, 167, 168, 169, 170, 171, 172, 173, 174, 175, 176, 177, 178, 179, 180, 181, 182, 183, 184, 185, 186, 187, 188, 189, 190, 191, 192, 193, 194, 195, 196, 197, 198, 199, 200, 201, 202, 203, 204, 205, 206, 207, 208, 209, 210, 211, 212, 213, 214, 215, 216, 217, 218, 219, 220, 221, 222, 223, 224, 225, 226, 227, 228, 229, 230, 231, 232, 233, 234, 235, 236, 237, 238, 239, 240, 241, 242, 243, 244, 245, 246, 247, 248, 249, 250, 251, 252, 253, 254, 255, 256, 257, 258, 259, 260, 261, 262, 263, 264, 265, 266, 267, 268, 269, 270, 271, 272, 273, 274, 275, 276, 277, 278, 279, 280, 281, 282, 283, 284, 285, 286, 287, 288, 289, 290] (by decide +kernel) (by decide +kernel)) (goodIn_sub (fun _ h => List.mem_cons_of_mem _ (List.mem_append_left _ (List.mem_append_left _ (List.mem_append_right _ h)))) (by decide +kernel))) (goodIn_sub (fun _ h => List.mem_cons_of_mem _ (List.mem_append_left _ (List.mem_append_right _ h))) (by decide +kernel))) (goodIn_sub (fun _ h => List.mem_cons_of_mem _ (List.mem_append_right _ h)) (by decide +kernel))
set_option maxRecDepth 20000 in
theorem gL_best_X9_best : GoodIn wsL_best (wsV RL 43 RX9 yX9_best wsX9_best) := goodIn_app (goodIn_of _ (by decide +kernel)) ggL_best_X9_best
theorem dL_best_0 : decode cL_best 0 = .ok (.aload_n 2, 1) := by decide +kernel
theorem dL_best_1 : decode cL_best 1 = .ok (.iconst 0, 1) := by decide +kernel
theorem dL_best_2 : decode cL_best 2 = .ok (.aload_n 0, 1) := by decide +kernel
theorem dL_best_3 : decode cL_best 3 = .ok (.iload_n 1, 1) := by decide +kernel
theorem dL_best_4 : decode cL_best 4 = .ok (.invokevirtual 43, 3) := by decide +kernel
theorem dL_best_7 : decode cL_best 7 = .ok (.i2l, 1) := by decide +kernel
theorem dL_best_8 : decode cL_best 8 = .ok (.lastore, 1) := by decide +kernel
theorem dL_best_9 : decode cL_best 9 = .ok (.goto 12, 3) := by decide +kernel
theorem dL_best_12 : decode cL_best 12 = .ok (.astore_n 3, 1) := by decide +kernel
theorem dL_best_13 : decode cL_best 13 = .ok (.iconst 1, 1) := by decide +kernel
theorem dL_best_14 : decode cL_best 14 = .ok (.ireturn, 1) := by decide +kernel
theorem dL_best_15 : decode cL_best 15 = .ok (.astore_n 3, 1) := by decide +kernel
theorem dL_best_16 : decode cL_best 16 = .ok (.iconst 2, 1) := by decide +kernel
theorem dL_best_17 : decode cL_best 17 = .ok (.ireturn, 1) := by decide +kernel
theorem dL_best_18 : decode cL_best 18 = .ok (.astore_n 3, 1) := by decide +kernel
theorem dL_best_19 : decode cL_best 19 = .ok (.iconst 3, 1) := by decide +kernel
theorem dL_best_20 : decode cL_best 20 = .ok (.ireturn, 1) := by decide +kernel
theorem dL_best_21 : decode cL_best 21 = .ok (.iconst 0, 1) := by decide +kernel
theorem dL_best_22 : decode cL_best 22 = .ok (.ireturn, 1) := by decide +kernel
set_option maxRecDepth 20000 in
theorem ggL_poly_X9_poly : GoodIn wsL_poly wsX9_poly := goodIn_ca (goodIn_ca (goodIn_ca (goodIn_r _ [8, 9, 10, 11, 12, 13, 14, 15, 7, 16, 17, 18, 19, 20, 21, 22, 23, 24, 25, 26, 27, 28, 29, 30, 31, 32, 33, 34, 35, 36, 37, 38, 39, 40, 41, 42, 43, 44, 45, 46, 47, 48, 49, 50, 51, 52, 53, 54, 55, 56, 57, 58, 59, 60, 61, 62, 63, 64, 65, 66, 67, 68, 69, 70, 71, 72, 73, 74, 75, 76, 77, 78, 79, 80, 81, 82, 83, 84, 85, 86, 87, 88, 89, 90, 91, 92, 93, 94, 95, 96, 97, 98, 99, 100, 101, 102, 103, 104, 105, 106, 107, 108, 109, 110, 111, 112, 113, 114, 115, 116, 117, 118, 119, 120, 121, 122, 123, 124, 125, 126, 127, 128, 129, 130, 131, 132, 133, 134, 135, 136, 137, 138, 139, 140, 141, 142, 143, 144, 145, 146, 147, 148, 149, 150, 151, 152, 153, 154, 155, 156, 157, 158, 159, 160, 161, 162, 163, 164, 165, 166, 167, 168, 169, 170, 171, 172, 173, 174, 175, 176, 177, 178, 179, 180, 181, 182, 183, 184, 185, 186, 187, 188, 189, 190, 191, 192, 193, 194, 195, 196, 197, 198, 199, 200, 201, 202, 203, 204, 205, 206, 207, 208, 209, 210, 211, 212, 213, 214, 215, 216, 217, 218, 219, 220, 221, 222, 223, 224, 225, 226, 227, 228, 229, 230, 231, 232, 233, 234, 235, 236, 237, 238, 239, 240, 241, 242, 243, 244, 245, 246, 247, 248, 249, 250, 251, 252, 253, 254, 255, 256, 257, 258, 259, 260, 261, 262, 263, 264, 265, 266, 267, 268, 269, 270, 271, 272, 273, 274, 275, 276, 277, 278, 279, 280, 281, 282, 283, 284, 285, 286, 287, 288, 289, 290, 291, 292, 293, 294, 295, 296, 297, 298, 299, 300, 301, 302, 303, 304, 305, 306, 307, 308, 309, 310, 311, 312, 313, 314, 315, 316, 317, 318, 319, 320, 321, 322, 323, 324, 325, 326, 327, 328] (by decide +kernel) (by decide +kernel)) (goodIn_sub (fun _ h => List.mem_cons_of_mem _ (List.mem_append_left _ (List.mem_append_left _ (List.mem_append_right _ h)))) (by decide +kernel))) (goodIn_sub (fun _ h => List.mem_cons_of_mem _ (List.mem_append_left _ (List.mem_append_right _ h))) (by decide +kernel))) (goodIn_sub (fun _ h => List.mem_cons_of_mem _ (List.mem_append_right _ h)) (by decide +kernel))
set_option maxRecDepth 20000 in
theorem gL_poly_X9_poly : GoodIn wsL_poly (wsV RL 46 RX9 yX9_poly wsX9_poly) := goodIn_app (goodIn_of _ (by decide +kernel)) ggL_poly_X9_poly
theorem dL_poly_0 : decode cL_poly 0 = .ok (.aload_n 2, 1) := by decide +kernel
theorem dL_poly_1 : decode cL_poly 1 = .ok (.iconst 0, 1) := by decide +kernel
theorem dL_poly_2 : decode cL_poly 2 = .ok (.aload_n 0, 1) := by decide +kernel
theorem dL_poly_3 : decode cL_poly 3 = .ok (.iload_n 1, 1) := by decide +kernel
theorem dL_poly_4 : decode cL_poly 4 = .ok (.invokevirtual 46, 3) := by decide +kernel
theorem dL_poly_7 : decode cL_poly 7 = .ok (.i2l, 1) := by decide +kernel
theorem dL_poly_8 : decode cL_poly 8 = .ok (.lastore, 1) := by decide +kernel
theorem dL_poly_9 : decode cL_poly 9 = .ok (.goto 12, 3) := by decide +kernel
theorem dL_poly_12 : decode cL_poly 12 = .ok (.astore_n 3, 1) := by decide +kernel
theorem dL_poly_13 : decode cL_poly 13 = .ok (.iconst 1, 1) := by decide +kernel
theorem dL_poly_14 : decode cL_poly 14 = .ok (.ireturn, 1) := by decide +kernel
theorem dL_poly_15 : decode cL_poly 15 = .ok (.astore_n 3, 1) := by decide +kernel
theorem dL_poly_16 : decode cL_poly 16 = .ok (.iconst 2, 1) := by decide +kernel
theorem dL_poly_17 : decode cL_poly 17 = .ok (.ireturn, 1) := by decide +kernel
theorem dL_poly_18 : decode cL_poly 18 = .ok (.astore_n 3, 1) := by decide +kernel
theorem dL_poly_19 : decode cL_poly 19 = .ok (.iconst 3, 1) := by decide +kernel
theorem dL_poly_20 : decode cL_poly 20 = .ok (.ireturn, 1) := by decide +kernel
theorem dL_poly_21 : decode cL_poly 21 = .ok (.iconst 0, 1) := by decide +kernel
theorem dL_poly_22 : decode cL_poly 22 = .ok (.ireturn, 1) := by decide +kernel
set_option maxRecDepth 20000 in
theorem ggL_plan_X9_plan : GoodIn wsL_plan wsX9_plan := goodIn_ca (goodIn_r _ [6, 7, 8, 9, 10, 11, 12, 13, 14, 15, 16, 5, 17, 18, 19, 20, 21, 22, 23, 24, 25, 26, 27, 28, 29, 30, 31, 32, 33, 34, 35, 36, 37, 38, 39, 40, 41, 42, 43, 44, 45, 46, 47, 48, 49, 50, 51, 52, 53, 54, 55, 56, 57, 58, 59, 60, 61, 62, 63, 64, 65, 66, 67, 68, 69, 70, 71, 72, 73, 74, 75, 76, 77, 78, 79, 80, 81, 82, 83] (by decide +kernel) (by decide +kernel)) (goodIn_sub (fun _ h => List.mem_cons_of_mem _ (List.mem_append_right _ h)) (by decide +kernel))
set_option maxRecDepth 20000 in
theorem gL_plan_X9_plan : GoodIn wsL_plan (wsV RL 49 RX9 yX9_plan wsX9_plan) := goodIn_app (goodIn_of _ (by decide +kernel)) ggL_plan_X9_plan
theorem dL_plan_0 : decode cL_plan 0 = .ok (.aload_n 2, 1) := by decide +kernel
theorem dL_plan_1 : decode cL_plan 1 = .ok (.iconst 0, 1) := by decide +kernel
theorem dL_plan_2 : decode cL_plan 2 = .ok (.aload_n 0, 1) := by decide +kernel
theorem dL_plan_3 : decode cL_plan 3 = .ok (.iload_n 1, 1) := by decide +kernel
theorem dL_plan_4 : decode cL_plan 4 = .ok (.invokevirtual 49, 3) := by decide +kernel
theorem dL_plan_7 : decode cL_plan 7 = .ok (.i2l, 1) := by decide +kernel
theorem dL_plan_8 : decode cL_plan 8 = .ok (.lastore, 1) := by decide +kernel
theorem dL_plan_9 : decode cL_plan 9 = .ok (.goto 6, 3) := by decide +kernel
theorem dL_plan_12 : decode cL_plan 12 = .ok (.astore_n 3, 1) := by decide +kernel
theorem dL_plan_13 : decode cL_plan 13 = .ok (.iconst 1, 1) := by decide +kernel
theorem dL_plan_14 : decode cL_plan 14 = .ok (.ireturn, 1) := by decide +kernel
theorem dL_plan_15 : decode cL_plan 15 = .ok (.iconst 0, 1) := by decide +kernel
theorem dL_plan_16 : decode cL_plan 16 = .ok (.ireturn, 1) := by decide +kernel
set_option maxRecDepth 20000 in
theorem ggL_records_X9_records : GoodIn wsL_records wsX9_records := goodIn_ca (goodIn_r _ [6, 7, 8, 9, 10, 11, 12, 13, 14, 15, 16, 17, 18, 19, 20, 21, 22, 23, 24, 25, 26, 5, 27, 28, 29, 30, 31, 32, 33, 34, 35, 36, 37, 38, 39, 40, 41, 42, 43, 44, 45, 46, 47, 48, 49, 50, 51, 52, 53, 54, 55, 56, 57, 58, 59, 60, 61, 62, 63, 64, 65, 66, 67, 68, 69, 70, 71, 72, 73, 74, 75] (by decide +kernel) (by decide +kernel)) (goodIn_sub (fun _ h => List.mem_cons_of_mem _ (List.mem_append_right _ h)) (by decide +kernel))
set_option maxRecDepth 20000 in
theorem gL_records_X9_records : GoodIn wsL_records (wsV RL 52 RX9 yX9_records wsX9_records) := goodIn_app (goodIn_of _ (by decide +kernel)) ggL_records_X9_records
theorem dL_records_0 : decode cL_records 0 = .ok (.aload_n 2, 1) := by decide +kernel
theorem dL_records_1 : decode cL_records 1 = .ok (.iconst 0, 1) := by decide +kernel
theorem dL_records_2 : decode cL_records 2 = .ok (.aload_n 0, 1) := by decide +kernel
theorem dL_records_3 : decode cL_records 3 = .ok (.iload_n 1, 1) := by decide +kernel
theorem dL_records_4 : decode cL_records 4 = .ok (.invokevirtual 52, 3) := by decide +kernel
theorem dL_records_7 : decode cL_records 7 = .ok (.i2l, 1) := by decide +kernel
theorem dL_records_8 : decode cL_records 8 = .ok (.lastore, 1) := by decide +kernel
theorem dL_records_9 : decode cL_records 9 = .ok (.goto 6, 3) := by decide +kernel
theorem dL_records_12 : decode cL_records 12 = .ok (.astore_n 3, 1) := by decide +kernel
theorem dL_records_13 : decode cL_records 13 = .ok (.iconst 1, 1) := by decide +kernel
theorem dL_records_14 : decode cL_records 14 = .ok (.ireturn, 1) := by decide +kernel
theorem dL_records_15 : decode cL_records 15 = .ok (.iconst 0, 1) := by decide +kernel
theorem dL_records_16 : decode cL_records 16 = .ok (.ireturn, 1) := by decide +kernel
set_option maxRecDepth 20000 in
theorem ggL_block_X9_block : GoodIn wsL_block wsX9_block := goodIn_ca (goodIn_r _ [6, 7, 8, 9, 10, 11, 12, 13, 14, 5, 15, 16, 17, 18, 19, 20, 21, 22, 23, 24, 25, 26, 27, 28, 29, 30, 31, 32, 33, 34, 35, 36, 37, 38, 39, 40, 41, 42, 43, 44, 45, 46, 47, 48, 49, 50, 51, 52, 53, 54, 55, 56, 57, 58, 59, 60, 61, 62, 63] (by decide +kernel) (by decide +kernel)) (goodIn_sub (fun _ h => List.mem_cons_of_mem _ (List.mem_append_right _ h)) (by decide +kernel))
set_option maxRecDepth 20000 in
theorem gL_block_X9_block : GoodIn wsL_block (wsV RL 55 RX9 yX9_block wsX9_block) := goodIn_app (goodIn_of _ (by decide +kernel)) ggL_block_X9_block
theorem dL_block_0 : decode cL_block 0 = .ok (.aload_n 3, 1) := by decide +kernel
theorem dL_block_1 : decode cL_block 1 = .ok (.iconst 0, 1) := by decide +kernel
theorem dL_block_2 : decode cL_block 2 = .ok (.aload_n 0, 1) := by decide +kernel
theorem dL_block_3 : decode cL_block 3 = .ok (.iload_n 1, 1) := by decide +kernel
theorem dL_block_4 : decode cL_block 4 = .ok (.iload_n 2, 1) := by decide +kernel
theorem dL_block_5 : decode cL_block 5 = .ok (.invokevirtual 55, 3) := by decide +kernel
theorem dL_block_8 : decode cL_block 8 = .ok (.i2l, 1) := by decide +kernel
theorem dL_block_9 : decode cL_block 9 = .ok (.lastore, 1) := by decide +kernel
theorem dL_block_10 : decode cL_block 10 = .ok (.goto 7, 3) := by decide +kernel
theorem dL_block_13 : decode cL_block 13 = .ok (.astore 4, 2) := by decide +kernel
theorem dL_block_15 : decode cL_block 15 = .ok (.iconst 1, 1) := by decide +kernel
theorem dL_block_16 : decode cL_block 16 = .ok (.ireturn, 1) := by decide +kernel
theorem dL_block_17 : decode cL_block 17 = .ok (.iconst 0, 1) := by decide +kernel
theorem dL_block_18 : decode cL_block 18 = .ok (.ireturn, 1) := by decide +kernel
set_option maxRecDepth 20000 in
theorem ggL_told_X9_told : GoodIn wsL_told wsX9_told := goodIn_ca (goodIn_ca (goodIn_r _ [7, 8, 9, 10, 11, 12, 13, 14, 15, 6, 16, 17, 18, 19, 20, 21, 22, 23, 24, 25, 26, 27, 28, 29, 30, 31, 32, 33, 34, 35, 36, 37, 38, 39, 40, 41, 42, 43, 44, 45, 46, 47, 48, 49, 50, 51, 52, 53, 54, 55, 56, 57, 58, 59, 60, 61, 62, 63, 64, 65, 66, 67, 68, 69, 70, 71, 72, 73, 74, 75, 76, 77, 78, 79, 80, 81, 82, 83, 84, 85, 86, 87, 88, 89, 90, 91, 92, 93, 94, 95, 96, 97, 98, 99, 100, 101, 102, 103, 104, 105, 106, 107, 108] (by decide +kernel) (by decide +kernel)) (goodIn_sub (fun _ h => List.mem_cons_of_mem _ (List.mem_append_left _ (List.mem_append_right _ h))) (by decide +kernel))) (goodIn_sub (fun _ h => List.mem_cons_of_mem _ (List.mem_append_right _ h)) (by decide +kernel))
set_option maxRecDepth 20000 in
theorem gL_told_X9_told : GoodIn wsL_told (wsV RL 59 RX9 yX9_told wsX9_told) := goodIn_app (goodIn_of _ (by decide +kernel)) ggL_told_X9_told
theorem dL_told_0 : decode cL_told 0 = .ok (.aload 4, 2) := by decide +kernel
theorem dL_told_2 : decode cL_told 2 = .ok (.iconst 0, 1) := by decide +kernel
theorem dL_told_3 : decode cL_told 3 = .ok (.aload_n 0, 1) := by decide +kernel
theorem dL_told_4 : decode cL_told 4 = .ok (.iload_n 1, 1) := by decide +kernel
theorem dL_told_5 : decode cL_told 5 = .ok (.iload_n 2, 1) := by decide +kernel
theorem dL_told_6 : decode cL_told 6 = .ok (.iload_n 3, 1) := by decide +kernel
theorem dL_told_7 : decode cL_told 7 = .ok (.invokevirtual 59, 3) := by decide +kernel
theorem dL_told_10 : decode cL_told 10 = .ok (.lastore, 1) := by decide +kernel
theorem dL_told_11 : decode cL_told 11 = .ok (.goto 11, 3) := by decide +kernel
theorem dL_told_14 : decode cL_told 14 = .ok (.astore 5, 2) := by decide +kernel
theorem dL_told_16 : decode cL_told 16 = .ok (.iconst 1, 1) := by decide +kernel
theorem dL_told_17 : decode cL_told 17 = .ok (.ireturn, 1) := by decide +kernel
theorem dL_told_18 : decode cL_told 18 = .ok (.astore 5, 2) := by decide +kernel
theorem dL_told_20 : decode cL_told 20 = .ok (.iconst 2, 1) := by decide +kernel
theorem dL_told_21 : decode cL_told 21 = .ok (.ireturn, 1) := by decide +kernel
theorem dL_told_22 : decode cL_told 22 = .ok (.iconst 0, 1) := by decide +kernel
theorem dL_told_23 : decode cL_told 23 = .ok (.ireturn, 1) := by decide +kernel
set_option maxRecDepth 20000 in
theorem ggL_rank_X9_rank : GoodIn wsL_rank wsX9_rank := goodIn_ca (goodIn_ca (goodIn_r _ [7, 8, 9, 10, 11, 12, 13, 6, 14, 15, 16, 17, 18, 19, 20, 21, 22, 23, 24, 25, 26, 27, 28, 29, 30, 31, 32, 33, 34, 35, 36, 37, 38, 39, 40, 41, 42, 43, 44, 45, 46, 47, 48, 49, 50, 51, 52, 53, 54, 55, 56, 57, 58, 59, 60, 61, 62, 63, 64, 65, 66, 67, 68, 69, 70, 71, 72, 73, 74, 75, 76, 77, 78, 79, 80, 81, 82, 83, 84, 85, 86, 87, 88, 89, 90, 91, 92, 93, 94, 95, 96, 97, 98, 99, 100, 101, 102, 103, 104, 105, 106, 107, 108, 109, 110, 111, 112, 113, 114, 115, 116, 117, 118, 119, 120] (by decide +kernel) (by decide +kernel)) (goodIn_sub (fun _ h => List.mem_cons_of_mem _ (List.mem_append_left _ (List.mem_append_right _ h))) (by decide +kernel))) (goodIn_sub (fun _ h => List.mem_cons_of_mem _ (List.mem_append_right _ h)) (by decide +kernel))
set_option maxRecDepth 20000 in
theorem gL_rank_X9_rank : GoodIn wsL_rank (wsV RL 63 RX9 yX9_rank wsX9_rank) := goodIn_app (goodIn_of _ (by decide +kernel)) ggL_rank_X9_rank
theorem dL_rank_0 : decode cL_rank 0 = .ok (.aload 4, 2) := by decide +kernel
theorem dL_rank_2 : decode cL_rank 2 = .ok (.iconst 0, 1) := by decide +kernel
theorem dL_rank_3 : decode cL_rank 3 = .ok (.aload_n 0, 1) := by decide +kernel
theorem dL_rank_4 : decode cL_rank 4 = .ok (.iload_n 1, 1) := by decide +kernel
theorem dL_rank_5 : decode cL_rank 5 = .ok (.lload_n 2, 1) := by decide +kernel
theorem dL_rank_6 : decode cL_rank 6 = .ok (.invokevirtual 63, 3) := by decide +kernel
theorem dL_rank_9 : decode cL_rank 9 = .ok (.i2l, 1) := by decide +kernel
theorem dL_rank_10 : decode cL_rank 10 = .ok (.lastore, 1) := by decide +kernel
theorem dL_rank_11 : decode cL_rank 11 = .ok (.goto 11, 3) := by decide +kernel
theorem dL_rank_14 : decode cL_rank 14 = .ok (.astore 5, 2) := by decide +kernel
theorem dL_rank_16 : decode cL_rank 16 = .ok (.iconst 1, 1) := by decide +kernel
theorem dL_rank_17 : decode cL_rank 17 = .ok (.ireturn, 1) := by decide +kernel
theorem dL_rank_18 : decode cL_rank 18 = .ok (.astore 5, 2) := by decide +kernel
theorem dL_rank_20 : decode cL_rank 20 = .ok (.iconst 2, 1) := by decide +kernel
theorem dL_rank_21 : decode cL_rank 21 = .ok (.ireturn, 1) := by decide +kernel
theorem dL_rank_22 : decode cL_rank 22 = .ok (.iconst 0, 1) := by decide +kernel
theorem dL_rank_23 : decode cL_rank 23 = .ok (.ireturn, 1) := by decide +kernel
set_option maxRecDepth 20000 in
theorem ggL_drop_X9_drop : GoodIn wsL_drop wsX9_drop := goodIn_ca (goodIn_ca (goodIn_r _ [7, 8, 9, 10, 11, 12, 6, 13, 14, 15, 16, 17, 18, 19, 20, 21, 22, 23, 24, 25, 26, 27, 28, 29, 30, 31, 32, 33, 34, 35, 36, 37, 38, 39, 40, 41, 42, 43, 44, 45, 46, 47, 48, 49, 50, 51, 52, 53, 54, 55, 56, 57, 58, 59, 60, 61, 62, 63, 64, 65, 66, 67, 68, 69, 70, 71, 72, 73, 74, 75, 76, 77, 78, 79, 80, 81] (by decide +kernel) (by decide +kernel)) (goodIn_sub (fun _ h => List.mem_cons_of_mem _ (List.mem_append_left _ (List.mem_append_right _ h))) (by decide +kernel))) (goodIn_sub (fun _ h => List.mem_cons_of_mem _ (List.mem_append_right _ h)) (by decide +kernel))
set_option maxRecDepth 20000 in
theorem gL_drop_X9_drop : GoodIn wsL_drop (wsV RL 67 RX9 yX9_drop wsX9_drop) := goodIn_app (goodIn_of _ (by decide +kernel)) ggL_drop_X9_drop
theorem dL_drop_0 : decode cL_drop 0 = .ok (.aload_n 2, 1) := by decide +kernel
theorem dL_drop_1 : decode cL_drop 1 = .ok (.iconst 0, 1) := by decide +kernel
theorem dL_drop_2 : decode cL_drop 2 = .ok (.aload_n 0, 1) := by decide +kernel
theorem dL_drop_3 : decode cL_drop 3 = .ok (.iload_n 1, 1) := by decide +kernel
theorem dL_drop_4 : decode cL_drop 4 = .ok (.invokevirtual 67, 3) := by decide +kernel
theorem dL_drop_7 : decode cL_drop 7 = .ok (.i2l, 1) := by decide +kernel
theorem dL_drop_8 : decode cL_drop 8 = .ok (.lastore, 1) := by decide +kernel
theorem dL_drop_9 : decode cL_drop 9 = .ok (.goto 9, 3) := by decide +kernel
theorem dL_drop_12 : decode cL_drop 12 = .ok (.astore_n 3, 1) := by decide +kernel
theorem dL_drop_13 : decode cL_drop 13 = .ok (.iconst 1, 1) := by decide +kernel
theorem dL_drop_14 : decode cL_drop 14 = .ok (.ireturn, 1) := by decide +kernel
theorem dL_drop_15 : decode cL_drop 15 = .ok (.astore_n 3, 1) := by decide +kernel
theorem dL_drop_16 : decode cL_drop 16 = .ok (.iconst 2, 1) := by decide +kernel
theorem dL_drop_17 : decode cL_drop 17 = .ok (.ireturn, 1) := by decide +kernel
theorem dL_drop_18 : decode cL_drop 18 = .ok (.iconst 0, 1) := by decide +kernel
theorem dL_drop_19 : decode cL_drop 19 = .ok (.ireturn, 1) := by decide +kernel
set_option maxRecDepth 20000 in
theorem ggL_count_X9_count : GoodIn wsL_count wsX9_count := goodIn_ca (goodIn_r _ [6, 7, 8, 9, 10, 11, 12, 13, 14, 15, 16, 17, 18, 19, 20, 21, 22, 23, 24, 25, 26, 27, 28, 29, 30, 31, 32, 33, 34, 35, 36, 37, 38, 39, 40, 41, 42, 43, 44, 45, 46, 47, 48, 49, 50, 51, 52, 53, 54, 55, 56] (by decide +kernel) (by decide +kernel)) (goodIn_sub (fun _ h => List.mem_cons_of_mem _ (List.mem_append_right _ h)) (by decide +kernel))
set_option maxRecDepth 20000 in
theorem gL_count_X9_count : GoodIn wsL_count (wsV RL 70 RX9 yX9_count wsX9_count) := goodIn_app (goodIn_of _ (by decide +kernel)) ggL_count_X9_count
theorem dL_count_0 : decode cL_count 0 = .ok (.aload_n 2, 1) := by decide +kernel
theorem dL_count_1 : decode cL_count 1 = .ok (.iconst 0, 1) := by decide +kernel
theorem dL_count_2 : decode cL_count 2 = .ok (.aload_n 0, 1) := by decide +kernel
theorem dL_count_3 : decode cL_count 3 = .ok (.iload_n 1, 1) := by decide +kernel
theorem dL_count_4 : decode cL_count 4 = .ok (.invokevirtual 70, 3) := by decide +kernel
theorem dL_count_7 : decode cL_count 7 = .ok (.i2l, 1) := by decide +kernel
theorem dL_count_8 : decode cL_count 8 = .ok (.lastore, 1) := by decide +kernel
theorem dL_count_9 : decode cL_count 9 = .ok (.goto 6, 3) := by decide +kernel
theorem dL_count_12 : decode cL_count 12 = .ok (.astore_n 3, 1) := by decide +kernel
theorem dL_count_13 : decode cL_count 13 = .ok (.iconst 1, 1) := by decide +kernel
theorem dL_count_14 : decode cL_count 14 = .ok (.ireturn, 1) := by decide +kernel
theorem dL_count_15 : decode cL_count 15 = .ok (.iconst 0, 1) := by decide +kernel
theorem dL_count_16 : decode cL_count 16 = .ok (.ireturn, 1) := by decide +kernel
set_option maxRecDepth 20000 in
theorem ggL_crash_X9_crash : GoodIn wsL_crash wsX9_crash := goodIn_ca (goodIn_ca (goodIn_r _ [7, 8, 9, 10, 11, 12, 13, 14, 6, 15, 16, 17, 18, 19, 20, 21, 22, 23, 24, 25, 26, 27, 28, 29, 30, 31, 32, 33, 34, 35, 36, 37, 38, 39] (by decide +kernel) (by decide +kernel)) (goodIn_sub (fun _ h => List.mem_cons_of_mem _ (List.mem_append_left _ (List.mem_append_right _ h))) (by decide +kernel))) (goodIn_sub (fun _ h => List.mem_cons_of_mem _ (List.mem_append_right _ h)) (by decide +kernel))
set_option maxRecDepth 20000 in
theorem gL_crash_X9_crash : GoodIn wsL_crash (wsV RL 73 RX9 yX9_crash wsX9_crash) := goodIn_app (goodIn_of _ (by decide +kernel)) ggL_crash_X9_crash
theorem dL_crash_0 : decode cL_crash 0 = .ok (.aload_n 0, 1) := by decide +kernel
theorem dL_crash_1 : decode cL_crash 1 = .ok (.iload_n 1, 1) := by decide +kernel
theorem dL_crash_2 : decode cL_crash 2 = .ok (.invokevirtual 73, 3) := by decide +kernel
theorem dL_crash_5 : decode cL_crash 5 = .ok (.goto 9, 3) := by decide +kernel
theorem dL_crash_8 : decode cL_crash 8 = .ok (.astore_n 2, 1) := by decide +kernel
theorem dL_crash_9 : decode cL_crash 9 = .ok (.iconst 1, 1) := by decide +kernel
theorem dL_crash_10 : decode cL_crash 10 = .ok (.ireturn, 1) := by decide +kernel
theorem dL_crash_11 : decode cL_crash 11 = .ok (.astore_n 2, 1) := by decide +kernel
theorem dL_crash_12 : decode cL_crash 12 = .ok (.iconst 2, 1) := by decide +kernel
theorem dL_crash_13 : decode cL_crash 13 = .ok (.ireturn, 1) := by decide +kernel
theorem dL_crash_14 : decode cL_crash 14 = .ok (.iconst 0, 1) := by decide +kernel
theorem dL_crash_15 : decode cL_crash 15 = .ok (.ireturn, 1) := by decide +kernel
set_option maxRecDepth 20000 in
theorem ggL_up_X9_up : GoodIn wsL_up wsX9_up := goodIn_ca (goodIn_r _ [6, 7, 8, 9, 10, 11, 12, 13, 14, 15, 16, 17, 18, 19, 20, 21, 22, 23, 24, 25, 26, 27, 28, 29, 30, 31, 32, 33, 34, 35, 36, 37, 38, 39, 40] (by decide +kernel) (by decide +kernel)) (goodIn_sub (fun _ h => List.mem_cons_of_mem _ (List.mem_append_right _ h)) (by decide +kernel))
set_option maxRecDepth 20000 in
theorem gL_up_X9_up : GoodIn wsL_up (wsV RL 76 RX9 yX9_up wsX9_up) := goodIn_app (goodIn_of _ (by decide +kernel)) ggL_up_X9_up
theorem dL_up_0 : decode cL_up 0 = .ok (.aload_n 1, 1) := by decide +kernel
theorem dL_up_1 : decode cL_up 1 = .ok (.iconst 0, 1) := by decide +kernel
theorem dL_up_2 : decode cL_up 2 = .ok (.aload_n 0, 1) := by decide +kernel
theorem dL_up_3 : decode cL_up 3 = .ok (.invokevirtual 76, 3) := by decide +kernel
theorem dL_up_6 : decode cL_up 6 = .ok (.i2l, 1) := by decide +kernel
theorem dL_up_7 : decode cL_up 7 = .ok (.lastore, 1) := by decide +kernel
theorem dL_up_8 : decode cL_up 8 = .ok (.goto 6, 3) := by decide +kernel
theorem dL_up_11 : decode cL_up 11 = .ok (.astore_n 2, 1) := by decide +kernel
theorem dL_up_12 : decode cL_up 12 = .ok (.iconst 1, 1) := by decide +kernel
theorem dL_up_13 : decode cL_up 13 = .ok (.ireturn, 1) := by decide +kernel
theorem dL_up_14 : decode cL_up 14 = .ok (.iconst 0, 1) := by decide +kernel
theorem dL_up_15 : decode cL_up 15 = .ok (.ireturn, 1) := by decide +kernel
set_option maxRecDepth 20000 in
theorem ggL_law_L_cell : GoodIn wsL_law wsL_cell := goodIn_r _ [11] (by decide +kernel) (by decide +kernel)
set_option maxRecDepth 20000 in
theorem gL_law_L_cell : GoodIn wsL_law (va_wsS RL 80 yL_cell wsL_cell) := goodIn_app (goodIn_of _ (by decide +kernel)) ggL_law_L_cell
set_option maxRecDepth 20000 in
theorem ggL_law_X9_init : GoodIn wsL_law wsX9_init := goodIn_r _ [14, 15, 16, 17, 18, 19, 20, 21, 22, 23, 24, 25, 26, 27, 28, 29, 30, 31, 32, 33, 34, 35, 36, 37, 38, 39, 40, 41, 42, 43, 44, 45, 46, 47, 48, 49, 50, 51, 52, 53, 6, 54, 55, 56, 57, 58, 59, 60, 2, 61, 62, 63, 64, 65, 66, 67, 68, 69, 70, 71, 72, 73, 74, 75, 76, 77, 78, 79, 80, 81, 82, 83, 84, 85, 86, 87, 88, 89, 90, 91, 92, 93, 94, 95, 96, 97, 98, 99, 100, 101, 102, 103, 104, 105, 106, 107, 108, 109, 110, 111, 112, 113, 114, 115, 116, 117, 118, 119, 120, 121, 122, 123, 124, 125, 126, 127, 128, 129, 130, 131, 132, 133, 134, 135, 136, 137, 138, 139, 140, 141, 142, 143, 144, 145, 146, 147, 148, 149, 150, 151, 152, 153, 154, 155, 156, 157, 158, 159, 1084, 1085, 1086, 1087, 1088, 1089, 1090, 1091, 1092, 1014, 1015, 1016, 1017, 1018, 1019, 1020, 1021, 1022, 1023, 1024, 1025, 1026, 1093, 1094, 1095, 1096, 1097, 1098, 1099, 1100, 1101, 1102, 1103, 1104, 1105, 1106, 1107, 1108, 1109, 1110, 1111, 1112, 1113, 1114, 1115, 1116, 1117, 1118, 1119, 1120, 1121, 1122, 1123, 1124, 1125, 1126, 1127, 1128, 1129, 1130, 1131, 1132, 1133, 1134, 1135, 1136, 1137, 1138, 1139, 1140, 1141, 1142, 1143, 1144] (by decide +kernel) (by decide +kernel)
set_option maxRecDepth 20000 in
theorem gL_law_X9_init : GoodIn wsL_law (wsX9_init) := ggL_law_X9_init
set_option maxRecDepth 20000 in
theorem ggL_law_X10_init : GoodIn wsL_law wsX10_init := goodIn_r _ [162, 163, 16, 17, 6, 164, 55, 165, 166, 57, 167, 168, 169, 170, 171, 172, 173, 174, 175, 176, 177, 178, 179, 180, 181, 182, 183, 184, 185, 186, 187, 188, 189, 190, 191, 192, 193, 194, 195, 196, 197, 198, 199, 200, 201, 5, 202, 1027, 1028, 1029, 1030, 1031, 1032, 1033, 1034, 1035, 1036, 1037, 1038, 1039, 1040, 1041, 1042, 1043, 1044, 1045, 1046, 1047, 1048, 1049, 1050, 1051, 1052, 1053, 1054, 1055, 1056, 1057, 1058, 1059, 1060, 1061, 1062, 1063, 1064, 1065, 1066, 1067, 1068, 1069, 1070, 1071, 1072, 1073, 1074, 1075, 1076, 1077, 1078, 1079, 1080, 1081, 1082, 1083] (by decide +kernel) (by decide +kernel)
set_option maxRecDepth 20000 in
theorem gL_law_X10_init : GoodIn wsL_law (wsX10_init) := ggL_law_X10_init
set_option maxRecDepth 20000 in
theorem ggL_law_L_width : GoodIn wsL_law wsL_width := goodIn_ca (goodIn_ca (goodIn_r _ [205, 206, 207, 208, 209, 210, 2, 211, 212, 213, 214, 215, 53, 33, 25, 216, 217, 218, 219, 21, 220, 221, 222, 52, 223, 224, 225, 226, 227, 32, 228, 104, 102, 229, 230, 231, 232, 233, 24, 234, 85, 86, 82, 87, 67, 64, 68, 88, 235, 60, 61, 62, 63, 65, 66, 1014, 1015, 1016, 1017, 1018, 1019, 1020, 1021, 1022, 1023, 1024, 1025, 1026, 1084, 1085, 1086, 1087, 1088, 1089, 1090, 1091, 1092, 1143, 1144, 1103, 1104, 1105, 1106, 1107, 1108, 1109, 1110, 1111, 1093, 1094, 1095, 1096, 1097, 1098, 1099] (by decide +kernel) (by decide +kernel)) (goodIn_sub (fun _ h => List.mem_append_left _ (List.mem_append_left _ (List.mem_append_left _ (List.mem_append_right _ h)))) (by decide +kernel))) (goodIn_sub (fun _ h => List.mem_append_left _ (List.mem_append_left _ (List.mem_append_right _ h))) (by decide +kernel))
set_option maxRecDepth 20000 in
theorem gL_law_L_width : GoodIn wsL_law (va_wsS RL 92 yL_width wsL_width) := goodIn_app (goodIn_of _ (by decide +kernel)) ggL_law_L_width
set_option maxRecDepth 20000 in
theorem ggL_law_X10_width : GoodIn wsL_law wsX10_width := goodIn_r _ [239, 240, 241, 170, 242, 243, 197, 244, 245, 246, 5, 247, 1027, 1028, 1029, 1030, 1031, 1032, 1033, 1034, 1035, 1036, 1037, 1038, 1039, 1040, 1041, 1042, 1043, 1044, 1045, 1046, 1047, 1048, 1049, 1050, 1051, 1052, 1053, 1054, 1055, 1056, 1057, 1058, 1059, 1060, 1061, 1062, 1063, 1064, 1065, 1066, 1067, 1068, 1069, 1070, 1071, 1072, 1073, 1074, 1075, 1076, 1077, 1078, 1079, 1080, 1081, 1082, 1083] (by decide +kernel) (by decide +kernel)
set_option maxRecDepth 20000 in
theorem gL_law_X10_width : GoodIn wsL_law (wsV RL 95 RX10 yX10_width wsX10_width) := goodIn_app (goodIn_of _ (by decide +kernel)) ggL_law_X10_width
set_option maxRecDepth 20000 in
theorem ggL_law_X10_thrown : GoodIn wsL_law wsX10_thrown := goodIn_r _ [251, 243, 1027, 1028, 1029, 1030, 1031, 1032, 1033, 1034, 1035, 1036, 1037, 1038, 1039, 1040, 1041, 1042, 1043, 1044, 1045, 1046, 1047, 1048, 1049, 1050, 1051, 1052, 1053, 1054, 1055, 1056, 1057, 1058, 1059, 1060, 1061, 1062, 1063, 1064, 1065, 1066, 1067, 1068, 1069, 1070, 1071, 1072, 1073, 1074, 1075, 1076, 1077, 1078, 1079, 1080, 1081, 1082, 1083] (by decide +kernel) (by decide +kernel)
set_option maxRecDepth 20000 in
theorem gL_law_X10_thrown : GoodIn wsL_law (wsV RL 96 RX10 yX10_thrown wsX10_thrown) := goodIn_app (goodIn_of _ (by decide +kernel)) ggL_law_X10_thrown
set_option maxRecDepth 20000 in
theorem ggL_law_L_key : GoodIn wsL_law wsL_key := goodIn_ca (goodIn_ca (goodIn_ca (goodIn_r _ [254, 255, 206, 207, 256, 257, 258, 2, 259, 260, 261, 212, 213, 214, 215, 25, 53, 262, 263, 264, 24, 265, 235, 83, 216, 217, 218, 219, 21, 220, 221, 222, 52, 223, 224, 266, 267, 268, 269, 84, 1014, 1015, 1016, 1017, 1018, 1019, 1020, 1021, 1022, 1023, 1024, 1025, 1026, 1093, 1094, 1095, 1096, 1097, 1098, 1099, 1084, 1085, 1086, 1087, 1088, 1089, 1090, 1091, 1092, 1143, 1144] (by decide +kernel) (by decide +kernel)) (goodIn_sub (fun _ h => List.mem_append_left _ (List.mem_append_right _ h)) (by decide +kernel))) (goodIn_sub (fun _ h => List.mem_append_left _ (List.mem_append_left _ (List.mem_append_left _ (List.mem_append_right _ h)))) (by decide +kernel))) (goodIn_sub (fun _ h => List.mem_append_left _ (List.mem_append_left _ (List.mem_append_right _ h))) (by decide +kernel))
set_option maxRecDepth 20000 in
theorem gL_law_L_key : GoodIn wsL_law (va_wsS RL 99 yL_key wsL_key) := goodIn_app (goodIn_of _ (by decide +kernel)) ggL_law_L_key
set_option maxRecDepth 20000 in
theorem ggL_law_X10_key : GoodIn wsL_law wsX10_key := goodIn_r _ [273, 244, 174, 197, 240, 241, 243, 175, 245, 246, 5, 247, 1027, 1028, 1029, 1030, 1031, 1032, 1033, 1034, 1035, 1036, 1037, 1038, 1039, 1040, 1041, 1042, 1043, 1044, 1045, 1046, 1047, 1048, 1049, 1050, 1051, 1052, 1053, 1054, 1055, 1056, 1057, 1058, 1059, 1060, 1061, 1062, 1063, 1064, 1065, 1066, 1067, 1068, 1069, 1070, 1071, 1072, 1073, 1074, 1075, 1076, 1077, 1078, 1079, 1080, 1081, 1082, 1083] (by decide +kernel) (by decide +kernel)
set_option maxRecDepth 20000 in
theorem gL_law_X10_key : GoodIn wsL_law (wsV RL 102 RX10 yX10_key wsX10_key) := goodIn_app (goodIn_of _ (by decide +kernel)) ggL_law_X10_key
set_option maxRecDepth 20000 in
theorem ggL_law_L_mode : GoodIn wsL_law wsL_mode := goodIn_ca (goodIn_ca (goodIn_r _ [276, 206, 207, 277, 278, 279, 2, 280, 212, 213, 281, 216, 217, 218, 219, 214, 215, 21, 1014, 1015, 1016, 1017, 1018, 1019, 1020, 1021, 1022, 1023, 1024, 1025, 1026, 1084, 1085, 1086, 1087, 1088, 1089, 1090, 1091, 1092] (by decide +kernel) (by decide +kernel)) (goodIn_sub (fun _ h => List.mem_append_left _ (List.mem_append_left _ (List.mem_append_left _ (List.mem_append_right _ h)))) (by decide +kernel))) (goodIn_sub (fun _ h => List.mem_append_left _ (List.mem_append_left _ (List.mem_append_right _ h))) (by decide +kernel))
set_option maxRecDepth 20000 in
theorem gL_law_L_mode : GoodIn wsL_law (va_wsS RL 103 yL_mode wsL_mode) := goodIn_app (goodIn_of _ (by decide +kernel)) ggL_law_L_mode
set_option maxRecDepth 20000 in
theorem ggL_law_X10_mode : GoodIn wsL_law wsX10_mode := goodIn_r _ [285, 240, 243, 286, 245, 246, 5, 247, 1027, 1028, 1029, 1030, 1031, 1032, 1033, 1034, 1035, 1036, 1037, 1038, 1039, 1040, 1041, 1042, 1043, 1044, 1045, 1046, 1047, 1048, 1049, 1050, 1051, 1052, 1053, 1054, 1055, 1056, 1057, 1058, 1059, 1060, 1061, 1062, 1063, 1064, 1065, 1066, 1067, 1068, 1069, 1070, 1071, 1072, 1073, 1074, 1075, 1076, 1077, 1078, 1079, 1080, 1081, 1082, 1083] (by decide +kernel) (by decide +kernel)
set_option maxRecDepth 20000 in
theorem gL_law_X10_mode : GoodIn wsL_law (wsV RL 106 RX10 yX10_mode wsX10_mode) := goodIn_app (goodIn_of _ (by decide +kernel)) ggL_law_X10_mode
set_option maxRecDepth 20000 in
theorem ggL_law_L_feed : GoodIn wsL_law wsL_feed := goodIn_ca (goodIn_ca (goodIn_r _ [289, 207, 290, 291, 292, 293, 2, 294, 33, 54, 216, 217, 218, 219, 214, 215, 21, 295, 296, 297, 298, 299, 300, 301, 32, 302, 229, 102, 303, 101, 106, 104, 304, 305, 306, 307, 308, 309, 310, 20, 311, 76, 77, 312, 313, 73, 75, 314, 315, 316, 317, 318, 319, 320, 321, 322, 323, 324, 325, 326, 52, 327, 224, 113, 328, 329, 330, 331, 332, 333, 53, 220, 221, 222, 223, 1014, 1015, 1016, 1017, 1018, 1019, 1020, 1021, 1022, 1023, 1024, 1025, 1026, 1084, 1085, 1086, 1087, 1088, 1089, 1090, 1091, 1092, 1103, 1104, 1105, 1106, 1107, 1108, 1109, 1110, 1111, 1093, 1094, 1095, 1096, 1097, 1098, 1099, 1143, 1144] (by decide +kernel) (by decide +kernel)) (goodIn_sub (fun _ h => List.mem_append_left _ (List.mem_append_left _ (List.mem_append_right _ h))) (by decide +kernel))) (goodIn_sub (fun _ h => List.mem_append_right _ h) (by decide +kernel))
set_option maxRecDepth 20000 in
theorem gL_law_L_feed : GoodIn wsL_law (va_wsS RL 109 yL_feed wsL_feed) := goodIn_app (goodIn_of _ (by decide +kernel)) ggL_law_L_feed
set_option maxRecDepth 20000 in
theorem ggL_law_X10_feed : GoodIn wsL_law wsX10_feed := goodIn_r _ [337, 240, 243, 178, 338, 339, 340, 341, 342, 5, 343, 242, 197, 173, 344, 345, 346, 347, 194, 166, 348, 349, 350, 351, 195, 352, 353, 354, 355, 165, 199, 167, 356, 164, 357, 358, 359, 360, 361, 362, 198, 363, 364, 365, 366, 168, 169, 170, 1027, 1028, 1029, 1030, 1031, 1032, 1033, 1034, 1035, 1036, 1037, 1038, 1039, 1040, 1041, 1042, 1043, 1044, 1045, 1046, 1047, 1048, 1049, 1050, 1051, 1052, 1053, 1054, 1055, 1056, 1057, 1058, 1059, 1060, 1061, 1062, 1063, 1064, 1065, 1066, 1067, 1068, 1069, 1070, 1071, 1072, 1073, 1074, 1075, 1076, 1077, 1078, 1079, 1080, 1081, 1082, 1083] (by decide +kernel) (by decide +kernel)
set_option maxRecDepth 20000 in
theorem gL_law_X10_feed : GoodIn wsL_law (wsV RL 112 RX10 yX10_feed wsX10_feed) := goodIn_app (goodIn_of _ (by decide +kernel)) ggL_law_X10_feed
set_option maxRecDepth 20000 in
theorem ggL_law_L_run : GoodIn wsL_law wsL_run := goodIn_ca (goodIn_ca (goodIn_r _ [369, 206, 207, 370, 371, 372, 2, 373, 212, 213, 374, 25, 375, 376, 33, 54, 216, 217, 218, 219, 214, 215, 21, 295, 296, 297, 298, 299, 300, 301, 32, 302, 229, 102, 303, 101, 106, 104, 304, 305, 306, 307, 308, 309, 310, 20, 311, 76, 77, 312, 313, 73, 75, 314, 315, 316, 317, 318, 319, 320, 321, 322, 323, 324, 325, 326, 52, 327, 224, 113, 1014, 1015, 1016, 1017, 1018, 1019, 1020, 1021, 1022, 1023, 1024, 1025, 1026, 1093, 1094, 1095, 1096, 1097, 1098, 1099, 1084, 1085, 1086, 1087, 1088, 1089, 1090, 1091, 1092, 1103, 1104, 1105, 1106, 1107, 1108, 1109, 1110, 1111, 1143, 1144] (by decide +kernel) (by decide +kernel)) (goodIn_sub (fun _ h => List.mem_append_left _ (List.mem_append_left _ (List.mem_append_left _ (List.mem_append_right _ h)))) (by decide +kernel))) (goodIn_sub (fun _ h => List.mem_append_left _ (List.mem_append_left _ (List.mem_append_right _ h))) (by decide +kernel))
set_option maxRecDepth 20000 in
theorem gL_law_L_run : GoodIn wsL_law (va_wsS RL 113 yL_run wsL_run) := goodIn_app (goodIn_of _ (by decide +kernel)) ggL_law_L_run
set_option maxRecDepth 20000 in
theorem ggL_law_X10_run : GoodIn wsL_law wsX10_run := goodIn_r _ [380, 381, 240, 243, 197, 382, 383, 178, 245, 246, 5, 247, 340, 341, 342, 343, 242, 173, 339, 338, 344, 345, 346, 347, 194, 166, 348, 349, 350, 351, 195, 352, 353, 354, 355, 165, 199, 167, 356, 164, 357, 358, 359, 360, 361, 362, 198, 363, 364, 365, 366, 168, 169, 170, 1027, 1028, 1029, 1030, 1031, 1032, 1033, 1034, 1035, 1036, 1037, 1038, 1039, 1040, 1041, 1042, 1043, 1044, 1045, 1046, 1047, 1048, 1049, 1050, 1051, 1052, 1053, 1054, 1055, 1056, 1057, 1058, 1059, 1060, 1061, 1062, 1063, 1064, 1065, 1066, 1067, 1068, 1069, 1070, 1071, 1072, 1073, 1074, 1075, 1076, 1077, 1078, 1079, 1080, 1081, 1082, 1083] (by decide +kernel) (by decide +kernel)
set_option maxRecDepth 20000 in
theorem gL_law_X10_run : GoodIn wsL_law (wsV RL 116 RX10 yX10_run wsX10_run) := goodIn_app (goodIn_of _ (by decide +kernel)) ggL_law_X10_run
set_option maxRecDepth 20000 in
theorem ggL_law_L_form : GoodIn wsL_law wsL_form := goodIn_ca (goodIn_ca (goodIn_ca (goodIn_r _ [386, 206, 207, 290, 387, 388, 389, 2, 390, 212, 213, 37, 281, 33, 53, 216, 217, 218, 219, 214, 215, 21, 391, 392, 393, 36, 394, 395, 119, 396, 124, 125, 397, 398, 399, 24, 400, 235, 85, 401, 263, 264, 265, 83, 402, 403, 404, 52, 405, 224, 406, 407, 408, 409, 410, 411, 412, 413, 414, 415, 416, 417, 32, 418, 419, 420, 107, 229, 101, 106, 102, 104, 421, 226, 227, 228, 230, 221, 222, 223, 308, 309, 310, 20, 311, 76, 77, 312, 313, 73, 75, 314, 315, 316, 317, 318, 319, 320, 321, 322, 323, 324, 325, 326, 327, 113, 422, 423, 424, 425, 41, 426, 427, 428, 40, 429, 430, 431, 432, 433, 434, 435, 436, 437, 438, 105, 67, 64, 68, 439, 440, 441, 442, 443, 444, 445, 446, 447, 448, 449, 450, 451, 134, 135, 452, 453, 454, 455, 131, 456, 457, 458, 459, 82, 460, 461, 462, 463, 84, 464, 465, 466, 467, 468, 469, 470, 471, 472, 473, 474, 475, 476, 477, 478, 479, 480, 481, 482, 483, 118, 122, 484, 485, 486, 487, 488, 489, 490, 491, 492, 493, 494, 495, 496, 497, 498, 499, 500, 120, 501, 502, 503, 504, 505, 28, 506, 95, 507, 508, 509, 510, 511, 512, 513, 514, 96, 515, 516, 517, 518, 25, 519, 520, 521, 522, 523, 524, 525, 526, 527, 528, 529, 530, 531, 532, 533, 534, 535, 536, 537, 538, 539, 540, 541, 542, 543, 544, 545, 546, 547, 548, 549, 550, 551, 552, 553, 554, 555, 328, 329, 330, 331, 332, 333, 220, 1014, 1015, 1016, 1017, 1018, 1019, 1020, 1021, 1022, 1023, 1024, 1025, 1026, 1084, 1085, 1086, 1087, 1088, 1089, 1090, 1091, 1092, 1112, 1113, 1114, 1115, 1116, 1117, 1118, 1119, 1120, 1121, 1122, 1123, 1124, 1093, 1094, 1095, 1096, 1097, 1098, 1099, 1143, 1144, 1103, 1104, 1105, 1106, 1107, 1108, 1109, 1110, 1111, 1125, 1126, 1127, 1128, 1129, 1100, 1101, 1102] (by decide +kernel) (by decide +kernel)) (goodIn_sub (fun _ h => List.mem_append_left _ (List.mem_append_left _ (List.mem_append_left _ (List.mem_append_right _ h)))) (by decide +kernel))) (goodIn_sub (fun _ h => List.mem_append_left _ (List.mem_append_left _ (List.mem_append_right _ h))) (by decide +kernel))) (goodIn_sub (fun _ h => List.mem_append_right _ h) (by decide +kernel))
set_option maxRecDepth 20000 in
theorem gL_law_L_form : GoodIn wsL_law (va_wsS RL 117 yL_form wsL_form) := goodIn_app (goodIn_of _ (by decide +kernel)) ggL_law_L_form
set_option maxRecDepth 20000 in
theorem ggL_law_X10_form : GoodIn wsL_law wsX10_form := goodIn_r _ [559, 240, 243, 168, 169, 170, 560, 242, 173, 561, 562, 338, 563, 564, 167, 171, 181, 172, 241, 245, 246, 5, 247, 344, 345, 346, 347, 194, 166, 352, 353, 354, 355, 165, 199, 356, 197, 164, 357, 358, 359, 360, 361, 362, 198, 363, 364, 365, 366, 565, 566, 567, 568, 179, 180, 569, 570, 571, 572, 196, 573, 574, 575, 576, 348, 349, 350, 351, 195, 577, 578, 579, 580, 581, 582, 583, 584, 585, 586, 587, 588, 589, 590, 591, 592, 593, 594, 595, 596, 597, 598, 599, 600, 601, 602, 603, 604, 605, 606, 607, 608, 244, 174, 175, 609, 610, 611, 612, 286, 177, 613, 614, 615, 616, 176, 617, 618, 619, 620, 621, 622, 623, 624, 625, 626, 627, 628, 629, 630, 631, 632, 633, 634, 635, 636, 637, 638, 639, 640, 641, 642, 643, 644, 645, 646, 647, 648, 1027, 1028, 1029, 1030, 1031, 1032, 1033, 1034, 1035, 1036, 1037, 1038, 1039, 1040, 1041, 1042, 1043, 1044, 1045, 1046, 1047, 1048, 1049, 1050, 1051, 1052, 1053, 1054, 1055, 1056, 1057, 1058, 1059, 1060, 1061, 1062, 1063, 1064, 1065, 1066, 1067, 1068, 1069, 1070, 1071, 1072, 1073, 1074, 1075, 1076, 1077, 1078, 1079, 1080, 1081, 1082, 1083] (by decide +kernel) (by decide +kernel)
set_option maxRecDepth 20000 in
theorem gL_law_X10_form : GoodIn wsL_law (wsV RL 119 RX10 yX10_form wsX10_form) := goodIn_app (goodIn_of _ (by decide +kernel)) ggL_law_X10_form
set_option maxRecDepth 20000 in
theorem ggL_law_L_pass : GoodIn wsL_law wsL_pass := goodIn_ca (goodIn_ca (goodIn_ca (goodIn_r _ [651, 206, 207, 290, 652, 653, 654, 2, 655, 656, 657, 658, 659, 212, 213, 216, 217, 218, 219, 214, 215, 21, 660, 661, 662, 663, 53, 62, 63, 64, 65, 45, 281, 220, 221, 222, 52, 223, 224, 664, 403, 404, 405, 665, 440, 441, 442, 113, 666, 325, 326, 327, 667, 668, 669, 44, 670, 143, 148, 145, 142, 671, 392, 393, 36, 394, 395, 119, 396, 124, 125, 397, 398, 399, 24, 400, 235, 85, 401, 263, 264, 265, 83, 402, 406, 407, 408, 409, 410, 411, 412, 413, 414, 672, 673, 674, 675, 140, 146, 147, 676, 677, 678, 444, 445, 20, 446, 447, 318, 319, 320, 321, 322, 323, 679, 680, 681, 28, 682, 96, 683, 684, 685, 686, 141, 687, 457, 458, 459, 82, 460, 461, 462, 463, 84, 464, 465, 466, 467, 75, 688, 481, 482, 483, 118, 122, 484, 485, 486, 487, 488, 489, 490, 491, 492, 493, 494, 495, 496, 497, 498, 499, 500, 120, 501, 309, 310, 311, 76, 77, 312, 313, 73, 314, 315, 316, 317, 502, 503, 504, 505, 506, 95, 689, 690, 691, 692, 693, 67, 68, 694, 695, 696, 697, 698, 508, 509, 510, 511, 512, 513, 514, 699, 544, 545, 546, 541, 542, 547, 533, 534, 535, 700, 701, 702, 703, 93, 704, 705, 706, 707, 708, 709, 710, 553, 554, 555, 328, 329, 330, 331, 332, 333, 1014, 1015, 1016, 1017, 1018, 1019, 1020, 1021, 1022, 1023, 1024, 1025, 1026, 1084, 1085, 1086, 1087, 1088, 1089, 1090, 1091, 1092, 1130, 1131, 1132, 1133, 1134, 1135, 1136, 1137, 1143, 1144, 1112, 1113, 1114, 1115, 1116, 1117, 1118, 1119, 1120, 1121, 1122, 1123, 1124, 1093, 1094, 1095, 1096, 1097, 1098, 1099, 1100, 1101, 1102] (by decide +kernel) (by decide +kernel)) (goodIn_sub (fun _ h => List.mem_append_left _ (List.mem_append_left _ (List.mem_append_left _ (List.mem_append_right _ h)))) (by decide +kernel))) (goodIn_sub (fun _ h => List.mem_append_left _ (List.mem_append_left _ (List.mem_append_right _ h))) (by decide +kernel))) (goodIn_sub (fun _ h => List.mem_append_right _ h) (by decide +kernel))
set_option maxRecDepth 20000 in
theorem gL_law_L_pass : GoodIn wsL_law (va_wsS RL 120 yL_pass wsL_pass) := goodIn_app (goodIn_of _ (by decide +kernel)) ggL_law_L_pass
set_option maxRecDepth 20000 in
theorem ggL_law_X10_pass : GoodIn wsL_law wsX10_pass := goodIn_r _ [714, 240, 243, 241, 338, 245, 246, 5, 247, 715, 716, 717, 718, 182, 172, 719, 720, 721, 722, 183, 168, 184, 185, 170, 171, 586, 344, 345, 346, 347, 194, 166, 587, 588, 589, 590, 591, 592, 593, 594, 595, 596, 169, 577, 578, 579, 580, 581, 357, 358, 359, 360, 361, 362, 198, 723, 724, 725, 726, 727, 728, 729, 730, 197, 601, 602, 603, 604, 164, 605, 606, 607, 608, 244, 174, 175, 609, 610, 611, 612, 286, 177, 613, 614, 615, 616, 176, 348, 349, 350, 351, 195, 617, 618, 619, 620, 352, 353, 354, 355, 165, 199, 167, 356, 363, 364, 365, 366, 621, 622, 623, 624, 731, 732, 733, 734, 625, 626, 627, 628, 637, 638, 639, 640, 645, 646, 647, 648, 641, 642, 643, 644, 1027, 1028, 1029, 1030, 1031, 1032, 1033, 1034, 1035, 1036, 1037, 1038, 1039, 1040, 1041, 1042, 1043, 1044, 1045, 1046, 1047, 1048, 1049, 1050, 1051, 1052, 1053, 1054, 1055, 1056, 1057, 1058, 1059, 1060, 1061, 1062, 1063, 1064, 1065, 1066, 1067, 1068, 1069, 1070, 1071, 1072, 1073, 1074, 1075, 1076, 1077, 1078, 1079, 1080, 1081, 1082, 1083] (by decide +kernel) (by decide +kernel)
set_option maxRecDepth 20000 in
theorem gL_law_X10_pass : GoodIn wsL_law (wsV RL 122 RX10 yX10_pass wsX10_pass) := goodIn_app (goodIn_of _ (by decide +kernel)) ggL_law_X10_pass
set_option maxRecDepth 20000 in
theorem ggL_law_L_best : GoodIn wsL_law wsL_best := goodIn_ca (goodIn_ca (goodIn_ca (goodIn_r _ [737, 206, 207, 290, 738, 739, 740, 2, 741, 656, 657, 658, 659, 212, 213, 216, 217, 218, 219, 214, 215, 21, 742, 743, 744, 745, 53, 45, 281, 56, 62, 63, 64, 65, 220, 221, 222, 52, 223, 224, 746, 747, 748, 749, 29, 665, 440, 441, 442, 113, 750, 680, 681, 28, 682, 96, 664, 403, 404, 405, 666, 325, 326, 327, 667, 668, 669, 44, 670, 143, 148, 145, 142, 671, 392, 393, 36, 394, 395, 119, 396, 124, 125, 397, 398, 399, 24, 400, 235, 85, 401, 263, 264, 265, 83, 402, 406, 407, 408, 409, 410, 411, 412, 413, 414, 672, 673, 674, 675, 140, 146, 147, 676, 677, 678, 444, 445, 20, 446, 447, 318, 319, 320, 321, 322, 323, 679, 683, 684, 685, 686, 141, 687, 457, 458, 459, 82, 460, 461, 462, 463, 84, 464, 465, 466, 467, 75, 688, 481, 482, 483, 118, 122, 484, 485, 486, 487, 488, 489, 490, 491, 492, 493, 494, 495, 496, 497, 498, 499, 500, 120, 501, 309, 310, 311, 76, 77, 312, 313, 73, 314, 315, 316, 317, 502, 503, 504, 505, 506, 95, 689, 690, 691, 692, 693, 67, 68, 694, 695, 696, 697, 698, 508, 509, 510, 511, 512, 513, 514, 699, 544, 545, 546, 541, 542, 547, 533, 534, 535, 700, 701, 702, 703, 93, 704, 705, 710, 553, 554, 555, 328, 329, 330, 331, 332, 333, 1014, 1015, 1016, 1017, 1018, 1019, 1020, 1021, 1022, 1023, 1024, 1025, 1026, 1084, 1085, 1086, 1087, 1088, 1089, 1090, 1091, 1092, 1143, 1144, 1130, 1131, 1132, 1133, 1134, 1135, 1136, 1137, 1100, 1101, 1102, 1112, 1113, 1114, 1115, 1116, 1117, 1118, 1119, 1120, 1121, 1122, 1123, 1124, 1093, 1094, 1095, 1096, 1097, 1098, 1099] (by decide +kernel) (by decide +kernel)) (goodIn_sub (fun _ h => List.mem_append_left _ (List.mem_append_left _ (List.mem_append_left _ (List.mem_append_right _ h)))) (by decide +kernel))) (goodIn_sub (fun _ h => List.mem_append_left _ (List.mem_append_left _ (List.mem_append_right _ h))) (by decide +kernel))) (goodIn_sub (fun _ h => List.mem_append_right _ h) (by decide +kernel))
set_option maxRecDepth 20000 in
theorem gL_law_L_best : GoodIn wsL_law (va_wsS RL 123 yL_best wsL_best) := goodIn_app (goodIn_of _ (by decide +kernel)) ggL_law_L_best
set_option maxRecDepth 20000 in
theorem ggL_law_X10_best : GoodIn wsL_law wsX10_best := goodIn_r _ [754, 240, 243, 338, 241, 245, 246, 5, 247, 755, 756, 757, 758, 186, 182, 172, 759, 760, 761, 762, 170, 719, 720, 721, 722, 183, 168, 184, 185, 171, 586, 344, 345, 346, 347, 194, 166, 587, 588, 589, 590, 591, 592, 593, 594, 595, 596, 169, 577, 578, 579, 580, 581, 357, 358, 359, 360, 361, 362, 198, 723, 724, 725, 726, 727, 728, 729, 730, 197, 601, 602, 603, 604, 164, 605, 606, 607, 608, 244, 174, 175, 609, 610, 611, 612, 286, 177, 613, 614, 615, 616, 176, 348, 349, 350, 351, 195, 617, 618, 619, 620, 352, 353, 354, 355, 165, 199, 167, 356, 363, 364, 365, 366, 621, 622, 623, 624, 731, 732, 733, 734, 625, 626, 627, 628, 637, 638, 639, 640, 645, 646, 647, 648, 641, 642, 643, 644, 1027, 1028, 1029, 1030, 1031, 1032, 1033, 1034, 1035, 1036, 1037, 1038, 1039, 1040, 1041, 1042, 1043, 1044, 1045, 1046, 1047, 1048, 1049, 1050, 1051, 1052, 1053, 1054, 1055, 1056, 1057, 1058, 1059, 1060, 1061, 1062, 1063, 1064, 1065, 1066, 1067, 1068, 1069, 1070, 1071, 1072, 1073, 1074, 1075, 1076, 1077, 1078, 1079, 1080, 1081, 1082, 1083] (by decide +kernel) (by decide +kernel)
set_option maxRecDepth 20000 in
theorem gL_law_X10_best : GoodIn wsL_law (wsV RL 125 RX10 yX10_best wsX10_best) := goodIn_app (goodIn_of _ (by decide +kernel)) ggL_law_X10_best
set_option maxRecDepth 20000 in
theorem ggL_law_L_poly : GoodIn wsL_law wsL_poly := goodIn_ca (goodIn_ca (goodIn_ca (goodIn_r _ [765, 206, 207, 290, 766, 767, 768, 2, 769, 212, 213, 49, 53, 216, 217, 218, 219, 214, 215, 21, 770, 771, 772, 48, 773, 774, 775, 155, 156, 157, 60, 61, 62, 63, 64, 65, 66, 67, 68, 776, 403, 404, 52, 405, 224, 777, 221, 222, 223, 778, 440, 441, 442, 113, 779, 325, 326, 327, 780, 781, 782, 783, 784, 785, 786, 787, 788, 789, 790, 791, 45, 281, 792, 793, 794, 795, 796, 797, 798, 799, 665, 220, 667, 668, 669, 44, 670, 143, 148, 145, 142, 671, 392, 393, 36, 394, 395, 119, 396, 124, 125, 397, 398, 399, 24, 400, 235, 85, 401, 263, 264, 265, 83, 402, 406, 407, 408, 409, 410, 411, 412, 413, 414, 672, 673, 674, 675, 140, 146, 147, 676, 677, 678, 444, 445, 20, 446, 447, 318, 319, 320, 321, 322, 323, 679, 680, 681, 28, 682, 96, 683, 684, 685, 686, 141, 687, 457, 458, 459, 82, 460, 461, 462, 463, 84, 464, 465, 466, 467, 75, 688, 481, 482, 483, 118, 122, 484, 485, 486, 487, 488, 489, 490, 491, 492, 493, 494, 495, 496, 497, 498, 499, 500, 120, 501, 309, 310, 311, 76, 77, 312, 313, 73, 314, 315, 316, 317, 502, 503, 504, 505, 506, 95, 689, 690, 691, 692, 693, 694, 695, 696, 697, 698, 508, 509, 510, 511, 512, 513, 514, 699, 544, 545, 546, 541, 542, 547, 533, 534, 535, 700, 701, 702, 703, 93, 704, 705, 800, 801, 802, 803, 804, 553, 554, 555, 805, 806, 807, 808, 809, 810, 811, 812, 328, 329, 330, 331, 332, 333, 1014, 1015, 1016, 1017, 1018, 1019, 1020, 1021, 1022, 1023, 1024, 1025, 1026, 1138, 1139, 1140, 1141, 1142, 1084, 1085, 1086, 1087, 1088, 1089, 1090, 1091, 1092, 1143, 1144, 1130, 1131, 1132, 1133, 1134, 1135, 1136, 1137, 1112, 1113, 1114, 1115, 1116, 1117, 1118, 1119, 1120, 1121, 1122, 1123, 1124, 1093, 1094, 1095, 1096, 1097, 1098, 1099, 1100, 1101, 1102] (by decide +kernel) (by decide +kernel)) (goodIn_sub (fun _ h => List.mem_append_left _ (List.mem_append_left _ (List.mem_append_left _ (List.mem_append_right _ h)))) (by decide +kernel))) (goodIn_sub (fun _ h => List.mem_append_left _ (List.mem_append_left _ (List.mem_append_right _ h))) (by decide +kernel))) (goodIn_sub (fun _ h => List.mem_append_right _ h) (by decide +kernel))
set_option maxRecDepth 20000 in
theorem gL_law_L_poly : GoodIn wsL_law (va_wsS RL 126 yL_poly wsL_poly) := goodIn_app (goodIn_of _ (by decide +kernel)) ggL_law_L_poly
set_option maxRecDepth 20000 in
theorem ggL_law_X10_poly : GoodIn wsL_law wsX10_poly := goodIn_r _ [816, 240, 243, 241, 338, 817, 192, 245, 246, 5, 247, 818, 819, 820, 821, 191, 188, 189, 190, 172, 822, 823, 824, 825, 187, 826, 827, 828, 829, 830, 831, 832, 833, 182, 834, 835, 836, 837, 719, 720, 721, 722, 183, 168, 184, 185, 170, 171, 586, 344, 345, 346, 347, 194, 166, 587, 588, 589, 590, 591, 592, 593, 594, 595, 596, 169, 577, 578, 579, 580, 581, 357, 358, 359, 360, 361, 362, 198, 723, 724, 725, 726, 727, 728, 729, 730, 197, 601, 602, 603, 604, 164, 605, 606, 607, 608, 244, 174, 175, 609, 610, 611, 612, 286, 177, 613, 614, 615, 616, 176, 348, 349, 350, 351, 195, 617, 618, 619, 620, 352, 353, 354, 355, 165, 199, 167, 356, 363, 364, 365, 366, 621, 622, 623, 624, 731, 732, 733, 734, 625, 626, 627, 628, 637, 638, 639, 640, 645, 646, 647, 648, 838, 839, 840, 841, 842, 843, 844, 845, 846, 847, 848, 849, 641, 642, 643, 644, 1027, 1028, 1029, 1030, 1031, 1032, 1033, 1034, 1035, 1036, 1037, 1038, 1039, 1040, 1041, 1042, 1043, 1044, 1045, 1046, 1047, 1048, 1049, 1050, 1051, 1052, 1053, 1054, 1055, 1056, 1057, 1058, 1059, 1060, 1061, 1062, 1063, 1064, 1065, 1066, 1067, 1068, 1069, 1070, 1071, 1072, 1073, 1074, 1075, 1076, 1077, 1078, 1079, 1080, 1081, 1082, 1083] (by decide +kernel) (by decide +kernel)
set_option maxRecDepth 20000 in
theorem gL_law_X10_poly : GoodIn wsL_law (wsV RL 128 RX10 yX10_poly wsX10_poly) := goodIn_app (goodIn_of _ (by decide +kernel)) ggL_law_X10_poly
set_option maxRecDepth 20000 in
theorem ggL_law_L_plan : GoodIn wsL_law wsL_plan := goodIn_ca (goodIn_r _ [852, 206, 853, 854, 855, 2, 856, 53, 58, 62, 63, 64, 65, 29, 656, 657, 658, 659, 212, 213, 220, 221, 222, 52, 223, 224, 665, 440, 441, 442, 113, 750, 680, 681, 28, 682, 96, 857, 858, 859, 860, 25, 861, 862, 863, 24, 864, 88, 87, 67, 68, 865, 866, 867, 868, 869, 870, 871, 872, 1014, 1015, 1016, 1017, 1018, 1019, 1020, 1021, 1022, 1023, 1024, 1025, 1026, 1143, 1144, 1100, 1101, 1102, 1093, 1094, 1095, 1096, 1097, 1098, 1099] (by decide +kernel) (by decide +kernel)) (goodIn_sub (fun _ h => List.mem_append_left _ (List.mem_append_left _ (List.mem_append_left _ (List.mem_append_right _ h)))) (by decide +kernel))
set_option maxRecDepth 20000 in
theorem gL_law_L_plan : GoodIn wsL_law (va_wsS RL 129 yL_plan wsL_plan) := goodIn_app (goodIn_of _ (by decide +kernel)) ggL_law_L_plan
set_option maxRecDepth 20000 in
theorem ggL_law_X10_plan : GoodIn wsL_law wsX10_plan := goodIn_r _ [876, 243, 241, 193, 170, 172, 245, 246, 5, 247, 348, 349, 350, 351, 195, 197, 1027, 1028, 1029, 1030, 1031, 1032, 1033, 1034, 1035, 1036, 1037, 1038, 1039, 1040, 1041, 1042, 1043, 1044, 1045, 1046, 1047, 1048, 1049, 1050, 1051, 1052, 1053, 1054, 1055, 1056, 1057, 1058, 1059, 1060, 1061, 1062, 1063, 1064, 1065, 1066, 1067, 1068, 1069, 1070, 1071, 1072, 1073, 1074, 1075, 1076, 1077, 1078, 1079, 1080, 1081, 1082, 1083] (by decide +kernel) (by decide +kernel)
set_option maxRecDepth 20000 in
theorem gL_law_X10_plan : GoodIn wsL_law (wsV RL 131 RX10 yX10_plan wsX10_plan) := goodIn_app (goodIn_of _ (by decide +kernel)) ggL_law_X10_plan
set_option maxRecDepth 20000 in
theorem ggL_law_X9_runs : GoodIn wsL_law wsX9_runs := goodIn_r _ [880, 53, 220, 221, 222, 52, 223, 224, 1014, 1015, 1016, 1017, 1018, 1019, 1020, 1021, 1022, 1023, 1024, 1025, 1026, 1143, 1144] (by decide +kernel) (by decide +kernel)
set_option maxRecDepth 20000 in
theorem gL_law_X9_runs : GoodIn wsL_law (wsV RL 132 RX9 yX9_runs wsX9_runs) := goodIn_app (goodIn_of _ (by decide +kernel)) ggL_law_X9_runs
set_option maxRecDepth 20000 in
theorem ggL_law_X10_runs : GoodIn wsL_law wsX10_runs := goodIn_r _ [884, 243, 241, 1027, 1028, 1029, 1030, 1031, 1032, 1033, 1034, 1035, 1036, 1037, 1038, 1039, 1040, 1041, 1042, 1043, 1044, 1045, 1046, 1047, 1048, 1049, 1050, 1051, 1052, 1053, 1054, 1055, 1056, 1057, 1058, 1059, 1060, 1061, 1062, 1063, 1064, 1065, 1066, 1067, 1068, 1069, 1070, 1071, 1072, 1073, 1074, 1075, 1076, 1077, 1078, 1079, 1080, 1081, 1082, 1083] (by decide +kernel) (by decide +kernel)
set_option maxRecDepth 20000 in
theorem gL_law_X10_runs : GoodIn wsL_law (wsV RL 135 RX10 yX10_runs wsX10_runs) := goodIn_app (goodIn_of _ (by decide +kernel)) ggL_law_X10_runs
set_option maxRecDepth 20000 in
theorem ggL_law_L_records : GoodIn wsL_law wsL_records := goodIn_ca (goodIn_r _ [887, 255, 888, 889, 890, 2, 891, 33, 29, 53, 225, 226, 227, 32, 228, 104, 102, 229, 230, 221, 222, 52, 223, 224, 892, 893, 894, 895, 260, 261, 220, 665, 440, 441, 442, 113, 750, 680, 681, 28, 682, 96, 1014, 1015, 1016, 1017, 1018, 1019, 1020, 1021, 1022, 1023, 1024, 1025, 1026, 1103, 1104, 1105, 1106, 1107, 1108, 1109, 1110, 1111, 1093, 1094, 1095, 1096, 1097, 1098, 1099, 1143, 1144, 1100, 1101, 1102] (by decide +kernel) (by decide +kernel)) (goodIn_sub (fun _ h => List.mem_append_left _ (List.mem_append_right _ h)) (by decide +kernel))
set_option maxRecDepth 20000 in
theorem gL_law_L_records : GoodIn wsL_law (va_wsS RL 136 yL_records wsL_records) := goodIn_app (goodIn_of _ (by decide +kernel)) ggL_law_L_records
set_option maxRecDepth 20000 in
theorem ggL_law_X10_records : GoodIn wsL_law wsX10_records := goodIn_r _ [899, 241, 243, 170, 242, 172, 245, 246, 5, 247, 1027, 1028, 1029, 1030, 1031, 1032, 1033, 1034, 1035, 1036, 1037, 1038, 1039, 1040, 1041, 1042, 1043, 1044, 1045, 1046, 1047, 1048, 1049, 1050, 1051, 1052, 1053, 1054, 1055, 1056, 1057, 1058, 1059, 1060, 1061, 1062, 1063, 1064, 1065, 1066, 1067, 1068, 1069, 1070, 1071, 1072, 1073, 1074, 1075, 1076, 1077, 1078, 1079, 1080, 1081, 1082, 1083] (by decide +kernel) (by decide +kernel)
set_option maxRecDepth 20000 in
theorem gL_law_X10_records : GoodIn wsL_law (wsV RL 138 RX10 yX10_records wsX10_records) := goodIn_app (goodIn_of _ (by decide +kernel)) ggL_law_X10_records
set_option maxRecDepth 20000 in
theorem ggL_law_L_block : GoodIn wsL_law wsL_block := goodIn_ca (goodIn_r _ [902, 255, 903, 904, 905, 2, 906, 260, 261, 33, 29, 53, 892, 893, 894, 895, 220, 221, 222, 52, 223, 224, 665, 440, 441, 442, 113, 907, 908, 909, 28, 910, 95, 705, 695, 696, 697, 1014, 1015, 1016, 1017, 1018, 1019, 1020, 1021, 1022, 1023, 1024, 1025, 1026, 1103, 1104, 1105, 1106, 1107, 1108, 1109, 1110, 1111, 1143, 1144, 1100, 1101, 1102] (by decide +kernel) (by decide +kernel)) (goodIn_sub (fun _ h => List.mem_append_left _ (List.mem_append_right _ h)) (by decide +kernel))
set_option maxRecDepth 20000 in
theorem gL_law_L_block : GoodIn wsL_law (va_wsS RL 139 yL_block wsL_block) := goodIn_app (goodIn_of _ (by decide +kernel)) ggL_law_L_block
set_option maxRecDepth 20000 in
theorem ggL_law_X10_block : GoodIn wsL_law wsX10_block := goodIn_r _ [914, 241, 243, 172, 245, 246, 5, 247, 915, 916, 917, 918, 168, 167, 1027, 1028, 1029, 1030, 1031, 1032, 1033, 1034, 1035, 1036, 1037, 1038, 1039, 1040, 1041, 1042, 1043, 1044, 1045, 1046, 1047, 1048, 1049, 1050, 1051, 1052, 1053, 1054, 1055, 1056, 1057, 1058, 1059, 1060, 1061, 1062, 1063, 1064, 1065, 1066, 1067, 1068, 1069, 1070, 1071, 1072, 1073, 1074, 1075, 1076, 1077, 1078, 1079, 1080, 1081, 1082, 1083] (by decide +kernel) (by decide +kernel)
set_option maxRecDepth 20000 in
theorem gL_law_X10_block : GoodIn wsL_law (wsV RL 142 RX10 yX10_block wsX10_block) := goodIn_app (goodIn_of _ (by decide +kernel)) ggL_law_X10_block
set_option maxRecDepth 20000 in
theorem ggL_law_L_told : GoodIn wsL_law wsL_told := goodIn_ca (goodIn_ca (goodIn_r _ [921, 255, 207, 922, 923, 924, 2, 925, 260, 261, 29, 53, 25, 892, 893, 894, 895, 220, 221, 222, 52, 223, 224, 665, 440, 441, 442, 113, 750, 680, 681, 28, 682, 96, 216, 217, 218, 219, 214, 215, 21, 926, 927, 928, 929, 66, 67, 64, 68, 907, 908, 909, 910, 95, 705, 695, 696, 697, 930, 444, 445, 20, 446, 447, 318, 319, 320, 321, 322, 323, 931, 465, 466, 467, 75, 1014, 1015, 1016, 1017, 1018, 1019, 1020, 1021, 1022, 1023, 1024, 1025, 1026, 1093, 1094, 1095, 1096, 1097, 1098, 1099, 1143, 1144, 1100, 1101, 1102, 1084, 1085, 1086, 1087, 1088, 1089, 1090, 1091, 1092] (by decide +kernel) (by decide +kernel)) (goodIn_sub (fun _ h => List.mem_append_left _ (List.mem_append_right _ h)) (by decide +kernel))) (goodIn_sub (fun _ h => List.mem_append_left _ (List.mem_append_left _ (List.mem_append_right _ h))) (by decide +kernel))
set_option maxRecDepth 20000 in
theorem gL_law_L_told : GoodIn wsL_law (va_wsS RL 143 yL_told wsL_told) := goodIn_app (goodIn_of _ (by decide +kernel)) ggL_law_L_told
set_option maxRecDepth 20000 in
theorem ggL_law_X10_told : GoodIn wsL_law wsX10_told := goodIn_r _ [935, 241, 197, 170, 172, 240, 243, 164, 245, 246, 5, 247, 936, 937, 938, 939, 198, 581, 348, 349, 350, 351, 195, 915, 916, 917, 918, 168, 167, 357, 358, 359, 360, 361, 362, 1027, 1028, 1029, 1030, 1031, 1032, 1033, 1034, 1035, 1036, 1037, 1038, 1039, 1040, 1041, 1042, 1043, 1044, 1045, 1046, 1047, 1048, 1049, 1050, 1051, 1052, 1053, 1054, 1055, 1056, 1057, 1058, 1059, 1060, 1061, 1062, 1063, 1064, 1065, 1066, 1067, 1068, 1069, 1070, 1071, 1072, 1073, 1074, 1075, 1076, 1077, 1078, 1079, 1080, 1081, 1082, 1083] (by decide +kernel) (by decide +kernel)
set_option maxRecDepth 20000 in
theorem gL_law_X10_told : GoodIn wsL_law (wsV RL 146 RX10 yX10_told wsX10_told) := goodIn_app (goodIn_of _ (by decide +kernel)) ggL_law_X10_told
set_option maxRecDepth 20000 in
theorem ggL_law_L_rank : GoodIn wsL_law wsL_rank := goodIn_ca (goodIn_ca (goodIn_r _ [942, 255, 207, 943, 944, 945, 2, 946, 29, 53, 25, 892, 893, 894, 895, 260, 261, 220, 221, 222, 52, 223, 224, 216, 217, 218, 219, 214, 215, 21, 665, 440, 441, 442, 113, 750, 680, 681, 28, 682, 96, 947, 948, 949, 24, 950, 235, 83, 926, 927, 928, 929, 66, 67, 64, 68, 907, 908, 909, 910, 95, 705, 695, 696, 697, 930, 444, 445, 20, 446, 447, 318, 319, 320, 321, 322, 323, 931, 465, 466, 467, 75, 951, 952, 953, 954, 84, 1014, 1015, 1016, 1017, 1018, 1019, 1020, 1021, 1022, 1023, 1024, 1025, 1026, 1143, 1144, 1084, 1085, 1086, 1087, 1088, 1089, 1090, 1091, 1092, 1100, 1101, 1102, 1093, 1094, 1095, 1096, 1097, 1098, 1099] (by decide +kernel) (by decide +kernel)) (goodIn_sub (fun _ h => List.mem_append_left _ (List.mem_append_right _ h)) (by decide +kernel))) (goodIn_sub (fun _ h => List.mem_append_left _ (List.mem_append_left _ (List.mem_append_right _ h))) (by decide +kernel))
set_option maxRecDepth 20000 in
theorem gL_law_L_rank : GoodIn wsL_law (va_wsS RL 147 yL_rank wsL_rank) := goodIn_app (goodIn_of _ (by decide +kernel)) ggL_law_L_rank
set_option maxRecDepth 20000 in
theorem ggL_law_X10_rank : GoodIn wsL_law wsX10_rank := goodIn_r _ [958, 241, 240, 243, 244, 174, 175, 170, 172, 164, 245, 246, 5, 247, 936, 937, 938, 939, 198, 581, 197, 348, 349, 350, 351, 195, 915, 916, 917, 918, 168, 167, 357, 358, 359, 360, 361, 362, 1027, 1028, 1029, 1030, 1031, 1032, 1033, 1034, 1035, 1036, 1037, 1038, 1039, 1040, 1041, 1042, 1043, 1044, 1045, 1046, 1047, 1048, 1049, 1050, 1051, 1052, 1053, 1054, 1055, 1056, 1057, 1058, 1059, 1060, 1061, 1062, 1063, 1064, 1065, 1066, 1067, 1068, 1069, 1070, 1071, 1072, 1073, 1074, 1075, 1076, 1077, 1078, 1079, 1080, 1081, 1082, 1083] (by decide +kernel) (by decide +kernel)
set_option maxRecDepth 20000 in
theorem gL_law_X10_rank : GoodIn wsL_law (wsV RL 150 RX10 yX10_rank wsX10_rank) := goodIn_app (goodIn_of _ (by decide +kernel)) ggL_law_X10_rank
set_option maxRecDepth 20000 in
theorem ggL_law_L_drop : GoodIn wsL_law wsL_drop := goodIn_ca (goodIn_ca (goodIn_r _ [961, 255, 207, 962, 963, 964, 2, 965, 29, 53, 892, 893, 894, 895, 260, 261, 220, 221, 222, 52, 223, 224, 216, 217, 218, 219, 214, 215, 21, 665, 440, 441, 442, 113, 966, 701, 702, 28, 703, 95, 93, 704, 533, 534, 20, 535, 76, 705, 695, 696, 697, 710, 553, 554, 555, 1014, 1015, 1016, 1017, 1018, 1019, 1020, 1021, 1022, 1023, 1024, 1025, 1026, 1143, 1144, 1084, 1085, 1086, 1087, 1088, 1089, 1090, 1091, 1092, 1100, 1101, 1102] (by decide +kernel) (by decide +kernel)) (goodIn_sub (fun _ h => List.mem_append_left _ (List.mem_append_right _ h)) (by decide +kernel))) (goodIn_sub (fun _ h => List.mem_append_left _ (List.mem_append_left _ (List.mem_append_right _ h))) (by decide +kernel))
set_option maxRecDepth 20000 in
theorem gL_law_L_drop : GoodIn wsL_law (va_wsS RL 151 yL_drop wsL_drop) := goodIn_app (goodIn_of _ (by decide +kernel)) ggL_law_L_drop
set_option maxRecDepth 20000 in
theorem ggL_law_X10_drop : GoodIn wsL_law wsX10_drop := goodIn_r _ [970, 241, 240, 243, 172, 245, 246, 5, 247, 645, 646, 647, 648, 168, 165, 167, 169, 170, 171, 1027, 1028, 1029, 1030, 1031, 1032, 1033, 1034, 1035, 1036, 1037, 1038, 1039, 1040, 1041, 1042, 1043, 1044, 1045, 1046, 1047, 1048, 1049, 1050, 1051, 1052, 1053, 1054, 1055, 1056, 1057, 1058, 1059, 1060, 1061, 1062, 1063, 1064, 1065, 1066, 1067, 1068, 1069, 1070, 1071, 1072, 1073, 1074, 1075, 1076, 1077, 1078, 1079, 1080, 1081, 1082, 1083] (by decide +kernel) (by decide +kernel)
set_option maxRecDepth 20000 in
theorem gL_law_X10_drop : GoodIn wsL_law (wsV RL 153 RX10 yX10_drop wsX10_drop) := goodIn_app (goodIn_of _ (by decide +kernel)) ggL_law_X10_drop
set_option maxRecDepth 20000 in
theorem ggL_law_L_count : GoodIn wsL_law wsL_count := goodIn_ca (goodIn_r _ [973, 206, 974, 975, 976, 2, 977, 212, 213, 21, 33, 25, 281, 978, 979, 980, 20, 981, 76, 1014, 1015, 1016, 1017, 1018, 1019, 1020, 1021, 1022, 1023, 1024, 1025, 1026, 1084, 1085, 1086, 1087, 1088, 1089, 1090, 1091, 1092, 1103, 1104, 1105, 1106, 1107, 1108, 1109, 1110, 1111, 1093, 1094, 1095, 1096, 1097, 1098, 1099] (by decide +kernel) (by decide +kernel)) (goodIn_sub (fun _ h => List.mem_append_left _ (List.mem_append_left _ (List.mem_append_left _ (List.mem_append_right _ h)))) (by decide +kernel))
set_option maxRecDepth 20000 in
theorem gL_law_L_count : GoodIn wsL_law (va_wsS RL 154 yL_count wsL_count) := goodIn_app (goodIn_of _ (by decide +kernel)) ggL_law_L_count
set_option maxRecDepth 20000 in
theorem ggL_law_X10_count : GoodIn wsL_law wsX10_count := goodIn_r _ [985, 243, 581, 356, 361, 362, 339, 242, 244, 286, 197, 240, 245, 246, 5, 247, 986, 987, 988, 989, 194, 165, 348, 349, 350, 351, 195, 1027, 1028, 1029, 1030, 1031, 1032, 1033, 1034, 1035, 1036, 1037, 1038, 1039, 1040, 1041, 1042, 1043, 1044, 1045, 1046, 1047, 1048, 1049, 1050, 1051, 1052, 1053, 1054, 1055, 1056, 1057, 1058, 1059, 1060, 1061, 1062, 1063, 1064, 1065, 1066, 1067, 1068, 1069, 1070, 1071, 1072, 1073, 1074, 1075, 1076, 1077, 1078, 1079, 1080, 1081, 1082, 1083] (by decide +kernel) (by decide +kernel)
set_option maxRecDepth 20000 in
theorem gL_law_X10_count : GoodIn wsL_law (wsV RL 156 RX10 yX10_count wsX10_count) := goodIn_app (goodIn_of _ (by decide +kernel)) ggL_law_X10_count
set_option maxRecDepth 20000 in
theorem ggL_law_L_crash : GoodIn wsL_law wsL_crash := goodIn_ca (goodIn_ca (goodIn_r _ [992, 206, 207, 993, 994, 995, 2, 996, 212, 213, 997, 21, 216, 217, 218, 219, 214, 215, 1014, 1015, 1016, 1017, 1018, 1019, 1020, 1021, 1022, 1023, 1024, 1025, 1026, 1084, 1085, 1086, 1087, 1088, 1089, 1090, 1091, 1092] (by decide +kernel) (by decide +kernel)) (goodIn_sub (fun _ h => List.mem_append_left _ (List.mem_append_left _ (List.mem_append_left _ (List.mem_append_right _ h)))) (by decide +kernel))) (goodIn_sub (fun _ h => List.mem_append_left _ (List.mem_append_left _ (List.mem_append_right _ h))) (by decide +kernel))
set_option maxRecDepth 20000 in
theorem gL_law_L_crash : GoodIn wsL_law (va_wsS RL 157 yL_crash wsL_crash) := goodIn_app (goodIn_of _ (by decide +kernel)) ggL_law_L_crash
set_option maxRecDepth 20000 in
theorem ggL_law_X10_crash : GoodIn wsL_law wsX10_crash := goodIn_r _ [1001, 1002, 240, 243, 199, 245, 246, 5, 247, 1027, 1028, 1029, 1030, 1031, 1032, 1033, 1034, 1035, 1036, 1037, 1038, 1039, 1040, 1041, 1042, 1043, 1044, 1045, 1046, 1047, 1048, 1049, 1050, 1051, 1052, 1053, 1054, 1055, 1056, 1057, 1058, 1059, 1060, 1061, 1062, 1063, 1064, 1065, 1066, 1067, 1068, 1069, 1070, 1071, 1072, 1073, 1074, 1075, 1076, 1077, 1078, 1079, 1080, 1081, 1082, 1083] (by decide +kernel) (by decide +kernel)
set_option maxRecDepth 20000 in
theorem gL_law_X10_crash : GoodIn wsL_law (wsV RL 159 RX10 yX10_crash wsX10_crash) := goodIn_app (goodIn_of _ (by decide +kernel)) ggL_law_X10_crash
set_option maxRecDepth 20000 in
theorem ggL_law_L_up : GoodIn wsL_law wsL_up := goodIn_ca (goodIn_r _ [1005, 207, 1006, 1007, 1008, 2, 1009, 214, 215, 21, 53, 220, 221, 222, 52, 223, 224, 1014, 1015, 1016, 1017, 1018, 1019, 1020, 1021, 1022, 1023, 1024, 1025, 1026, 1084, 1085, 1086, 1087, 1088, 1089, 1090, 1091, 1092, 1143, 1144] (by decide +kernel) (by decide +kernel)) (goodIn_sub (fun _ h => List.mem_append_left _ (List.mem_append_left _ (List.mem_append_right _ h))) (by decide +kernel))
set_option maxRecDepth 20000 in
theorem gL_law_L_up : GoodIn wsL_law (va_wsS RL 160 yL_up wsL_up) := goodIn_app (goodIn_of _ (by decide +kernel)) ggL_law_L_up
set_option maxRecDepth 20000 in
theorem ggL_law_X10_up : GoodIn wsL_law wsX10_up := goodIn_r _ [1013, 240, 243, 199, 241, 1027, 1028, 1029, 1030, 1031, 1032, 1033, 1034, 1035, 1036, 1037, 1038, 1039, 1040, 1041, 1042, 1043, 1044, 1045, 1046, 1047, 1048, 1049, 1050, 1051, 1052, 1053, 1054, 1055, 1056, 1057, 1058, 1059, 1060, 1061, 1062, 1063, 1064, 1065, 1066, 1067, 1068, 1069, 1070, 1071, 1072, 1073, 1074, 1075, 1076, 1077, 1078, 1079, 1080, 1081, 1082, 1083] (by decide +kernel) (by decide +kernel)
set_option maxRecDepth 20000 in
theorem gL_law_X10_up : GoodIn wsL_law (wsV RL 163 RX10 yX10_up wsX10_up) := goodIn_app (goodIn_of _ (by decide +kernel)) ggL_law_X10_up
theorem dL_law_0 : decode cL_law 0 = .ok (.new 8, 3) := by decide +kernel
theorem dL_law_3 : decode cL_law 3 = .ok (.dup, 1) := by decide +kernel
theorem dL_law_4 : decode cL_law 4 = .ok (.aload_n 0, 1) := by decide +kernel
theorem dL_law_5 : decode cL_law 5 = .ok (.iconst 0, 1) := by decide +kernel
theorem dL_law_6 : decode cL_law 6 = .ok (.invokestatic 80, 3) := by decide +kernel
theorem dL_law_9 : decode cL_law 9 = .ok (.aload_n 0, 1) := by decide +kernel
theorem dL_law_10 : decode cL_law 10 = .ok (.iconst 1, 1) := by decide +kernel
theorem dL_law_11 : decode cL_law 11 = .ok (.invokestatic 80, 3) := by decide +kernel
theorem dL_law_14 : decode cL_law 14 = .ok (.aload_n 0, 1) := by decide +kernel
theorem dL_law_15 : decode cL_law 15 = .ok (.iconst 2, 1) := by decide +kernel
theorem dL_law_16 : decode cL_law 16 = .ok (.invokestatic 80, 3) := by decide +kernel
theorem dL_law_19 : decode cL_law 19 = .ok (.invokespecial 86, 3) := by decide +kernel
theorem dL_law_22 : decode cL_law 22 = .ok (.astore_n 1, 1) := by decide +kernel
theorem dL_law_23 : decode cL_law 23 = .ok (.new 89, 3) := by decide +kernel
theorem dL_law_26 : decode cL_law 26 = .ok (.dup, 1) := by decide +kernel
theorem dL_law_27 : decode cL_law 27 = .ok (.aload_n 0, 1) := by decide +kernel
theorem dL_law_28 : decode cL_law 28 = .ok (.iconst 0, 1) := by decide +kernel
theorem dL_law_29 : decode cL_law 29 = .ok (.invokestatic 80, 3) := by decide +kernel
theorem dL_law_32 : decode cL_law 32 = .ok (.aload_n 0, 1) := by decide +kernel
theorem dL_law_33 : decode cL_law 33 = .ok (.iconst 1, 1) := by decide +kernel
theorem dL_law_34 : decode cL_law 34 = .ok (.invokestatic 80, 3) := by decide +kernel
theorem dL_law_37 : decode cL_law 37 = .ok (.aload_n 0, 1) := by decide +kernel
theorem dL_law_38 : decode cL_law 38 = .ok (.iconst 2, 1) := by decide +kernel
theorem dL_law_39 : decode cL_law 39 = .ok (.invokestatic 80, 3) := by decide +kernel
theorem dL_law_42 : decode cL_law 42 = .ok (.invokespecial 91, 3) := by decide +kernel
theorem dL_law_45 : decode cL_law 45 = .ok (.astore_n 2, 1) := by decide +kernel
theorem dL_law_46 : decode cL_law 46 = .ok (.iconst 1, 1) := by decide +kernel
theorem dL_law_47 : decode cL_law 47 = .ok (.newarray .long, 2) := by decide +kernel
theorem dL_law_49 : decode cL_law 49 = .ok (.astore_n 3, 1) := by decide +kernel
theorem dL_law_50 : decode cL_law 50 = .ok (.iconst 3, 1) := by decide +kernel
theorem dL_law_51 : decode cL_law 51 = .ok (.istore 4, 2) := by decide +kernel
theorem dL_law_53 : decode cL_law 53 = .ok (.iload 4, 2) := by decide +kernel
theorem dL_law_55 : decode cL_law 55 = .ok (.aload_n 0, 1) := by decide +kernel
theorem dL_law_56 : decode cL_law 56 = .ok (.arraylength, 1) := by decide +kernel
theorem dL_law_57 : decode cL_law 57 = .ok (.bipush 9, 2) := by decide +kernel
theorem dL_law_59 : decode cL_law 59 = .ok (.isub, 1) := by decide +kernel
theorem dL_law_60 : decode cL_law 60 = .ok (.if_icmp .gt 1408, 3) := by decide +kernel
theorem dL_law_63 : decode cL_law 63 = .ok (.aload_n 0, 1) := by decide +kernel
theorem dL_law_64 : decode cL_law 64 = .ok (.iload 4, 2) := by decide +kernel
theorem dL_law_66 : decode cL_law 66 = .ok (.iaload, 1) := by decide +kernel
theorem dL_law_67 : decode cL_law 67 = .ok (.bipush 31, 2) := by decide +kernel
theorem dL_law_69 : decode cL_law 69 = .ok (.iand, 1) := by decide +kernel
theorem dL_law_70 : decode cL_law 70 = .ok (.tableswitch 1392 0 18 #[90, 126, 210, 266, 492, 604, 660, 716, 772, 828, 884, 897, 953, 1021, 1100, 1200, 1256, 1312, 1348], 90) := by decide +kernel
theorem dL_law_160 : decode cL_law 160 = .ok (.aload_n 1, 1) := by decide +kernel
theorem dL_law_161 : decode cL_law 161 = .ok (.aload_n 0, 1) := by decide +kernel
theorem dL_law_162 : decode cL_law 162 = .ok (.iload 4, 2) := by decide +kernel
theorem dL_law_164 : decode cL_law 164 = .ok (.iconst 1, 1) := by decide +kernel
theorem dL_law_165 : decode cL_law 165 = .ok (.iadd, 1) := by decide +kernel
theorem dL_law_166 : decode cL_law 166 = .ok (.iaload, 1) := by decide +kernel
theorem dL_law_167 : decode cL_law 167 = .ok (.invokestatic 92, 3) := by decide +kernel
theorem dL_law_170 : decode cL_law 170 = .ok (.istore 5, 2) := by decide +kernel
theorem dL_law_172 : decode cL_law 172 = .ok (.aload_n 2, 1) := by decide +kernel
theorem dL_law_173 : decode cL_law 173 = .ok (.aload_n 0, 1) := by decide +kernel
theorem dL_law_174 : decode cL_law 174 = .ok (.iload 4, 2) := by decide +kernel
theorem dL_law_176 : decode cL_law 176 = .ok (.iconst 1, 1) := by decide +kernel
theorem dL_law_177 : decode cL_law 177 = .ok (.iadd, 1) := by decide +kernel
theorem dL_law_178 : decode cL_law 178 = .ok (.iaload, 1) := by decide +kernel
theorem dL_law_179 : decode cL_law 179 = .ok (.invokevirtual 95, 3) := by decide +kernel
theorem dL_law_182 : decode cL_law 182 = .ok (.aload_n 2, 1) := by decide +kernel
theorem dL_law_183 : decode cL_law 183 = .ok (.invokevirtual 96, 3) := by decide +kernel
theorem dL_law_186 : decode cL_law 186 = .ok (.iload 5, 2) := by decide +kernel
theorem dL_law_188 : decode cL_law 188 = .ok (.if_icmp .eq 5, 3) := by decide +kernel
theorem dL_law_191 : decode cL_law 191 = .ok (.iconst 0, 1) := by decide +kernel
theorem dL_law_192 : decode cL_law 192 = .ok (.ireturn, 1) := by decide +kernel
theorem dL_law_193 : decode cL_law 193 = .ok (.goto 1269, 3) := by decide +kernel
theorem dL_law_196 : decode cL_law 196 = .ok (.aload_n 1, 1) := by decide +kernel
theorem dL_law_197 : decode cL_law 197 = .ok (.aload_n 0, 1) := by decide +kernel
theorem dL_law_198 : decode cL_law 198 = .ok (.iload 4, 2) := by decide +kernel
theorem dL_law_200 : decode cL_law 200 = .ok (.iconst 1, 1) := by decide +kernel
theorem dL_law_201 : decode cL_law 201 = .ok (.iadd, 1) := by decide +kernel
theorem dL_law_202 : decode cL_law 202 = .ok (.iaload, 1) := by decide +kernel
theorem dL_law_203 : decode cL_law 203 = .ok (.aload_n 0, 1) := by decide +kernel
theorem dL_law_204 : decode cL_law 204 = .ok (.iload 4, 2) := by decide +kernel
theorem dL_law_206 : decode cL_law 206 = .ok (.iconst 2, 1) := by decide +kernel
theorem dL_law_207 : decode cL_law 207 = .ok (.iadd, 1) := by decide +kernel
theorem dL_law_208 : decode cL_law 208 = .ok (.iaload, 1) := by decide +kernel
theorem dL_law_209 : decode cL_law 209 = .ok (.ifCond .eq 7, 3) := by decide +kernel
theorem dL_law_212 : decode cL_law 212 = .ok (.iconst 1, 1) := by decide +kernel
theorem dL_law_213 : decode cL_law 213 = .ok (.goto 4, 3) := by decide +kernel
theorem dL_law_216 : decode cL_law 216 = .ok (.iconst 0, 1) := by decide +kernel
theorem dL_law_217 : decode cL_law 217 = .ok (.aload_n 3, 1) := by decide +kernel
theorem dL_law_218 : decode cL_law 218 = .ok (.invokestatic 99, 3) := by decide +kernel
theorem dL_law_221 : decode cL_law 221 = .ok (.istore 5, 2) := by decide +kernel
theorem dL_law_223 : decode cL_law 223 = .ok (.aload_n 2, 1) := by decide +kernel
theorem dL_law_224 : decode cL_law 224 = .ok (.aload_n 0, 1) := by decide +kernel
theorem dL_law_225 : decode cL_law 225 = .ok (.iload 4, 2) := by decide +kernel
theorem dL_law_227 : decode cL_law 227 = .ok (.iconst 1, 1) := by decide +kernel
theorem dL_law_228 : decode cL_law 228 = .ok (.iadd, 1) := by decide +kernel
theorem dL_law_229 : decode cL_law 229 = .ok (.iaload, 1) := by decide +kernel
theorem dL_law_230 : decode cL_law 230 = .ok (.aload_n 0, 1) := by decide +kernel
theorem dL_law_231 : decode cL_law 231 = .ok (.iload 4, 2) := by decide +kernel
theorem dL_law_233 : decode cL_law 233 = .ok (.iconst 2, 1) := by decide +kernel
theorem dL_law_234 : decode cL_law 234 = .ok (.iadd, 1) := by decide +kernel
theorem dL_law_235 : decode cL_law 235 = .ok (.iaload, 1) := by decide +kernel
theorem dL_law_236 : decode cL_law 236 = .ok (.ifCond .eq 7, 3) := by decide +kernel
theorem dL_law_239 : decode cL_law 239 = .ok (.iconst 1, 1) := by decide +kernel
theorem dL_law_240 : decode cL_law 240 = .ok (.goto 4, 3) := by decide +kernel
theorem dL_law_243 : decode cL_law 243 = .ok (.iconst 0, 1) := by decide +kernel
theorem dL_law_244 : decode cL_law 244 = .ok (.invokevirtual 102, 3) := by decide +kernel
theorem dL_law_247 : decode cL_law 247 = .ok (.istore 6, 2) := by decide +kernel
theorem dL_law_249 : decode cL_law 249 = .ok (.aload_n 2, 1) := by decide +kernel
theorem dL_law_250 : decode cL_law 250 = .ok (.invokevirtual 96, 3) := by decide +kernel
theorem dL_law_253 : decode cL_law 253 = .ok (.iload 5, 2) := by decide +kernel
theorem dL_law_255 : decode cL_law 255 = .ok (.if_icmp .eq 5, 3) := by decide +kernel
theorem dL_law_258 : decode cL_law 258 = .ok (.iconst 0, 1) := by decide +kernel
theorem dL_law_259 : decode cL_law 259 = .ok (.ireturn, 1) := by decide +kernel
theorem dL_law_260 : decode cL_law 260 = .ok (.iload 5, 2) := by decide +kernel
theorem dL_law_262 : decode cL_law 262 = .ok (.ifCond .ne 15, 3) := by decide +kernel
theorem dL_law_265 : decode cL_law 265 = .ok (.aload_n 3, 1) := by decide +kernel
theorem dL_law_266 : decode cL_law 266 = .ok (.iconst 0, 1) := by decide +kernel
theorem dL_law_267 : decode cL_law 267 = .ok (.laload, 1) := by decide +kernel
theorem dL_law_268 : decode cL_law 268 = .ok (.iload 6, 2) := by decide +kernel
theorem dL_law_270 : decode cL_law 270 = .ok (.i2l, 1) := by decide +kernel
theorem dL_law_271 : decode cL_law 271 = .ok (.lcmp, 1) := by decide +kernel
theorem dL_law_272 : decode cL_law 272 = .ok (.ifCond .eq 5, 3) := by decide +kernel
theorem dL_law_275 : decode cL_law 275 = .ok (.iconst 0, 1) := by decide +kernel
theorem dL_law_276 : decode cL_law 276 = .ok (.ireturn, 1) := by decide +kernel
theorem dL_law_277 : decode cL_law 277 = .ok (.goto 1185, 3) := by decide +kernel
theorem dL_law_280 : decode cL_law 280 = .ok (.aload_n 1, 1) := by decide +kernel
theorem dL_law_281 : decode cL_law 281 = .ok (.aload_n 0, 1) := by decide +kernel
theorem dL_law_282 : decode cL_law 282 = .ok (.iload 4, 2) := by decide +kernel
theorem dL_law_284 : decode cL_law 284 = .ok (.iconst 1, 1) := by decide +kernel
theorem dL_law_285 : decode cL_law 285 = .ok (.iadd, 1) := by decide +kernel
theorem dL_law_286 : decode cL_law 286 = .ok (.iaload, 1) := by decide +kernel
theorem dL_law_287 : decode cL_law 287 = .ok (.aload_n 3, 1) := by decide +kernel
theorem dL_law_288 : decode cL_law 288 = .ok (.invokestatic 103, 3) := by decide +kernel
theorem dL_law_291 : decode cL_law 291 = .ok (.istore 5, 2) := by decide +kernel
theorem dL_law_293 : decode cL_law 293 = .ok (.aload_n 2, 1) := by decide +kernel
theorem dL_law_294 : decode cL_law 294 = .ok (.aload_n 0, 1) := by decide +kernel
theorem dL_law_295 : decode cL_law 295 = .ok (.iload 4, 2) := by decide +kernel
theorem dL_law_297 : decode cL_law 297 = .ok (.iconst 1, 1) := by decide +kernel
theorem dL_law_298 : decode cL_law 298 = .ok (.iadd, 1) := by decide +kernel
theorem dL_law_299 : decode cL_law 299 = .ok (.iaload, 1) := by decide +kernel
theorem dL_law_300 : decode cL_law 300 = .ok (.invokevirtual 106, 3) := by decide +kernel
theorem dL_law_303 : decode cL_law 303 = .ok (.istore 6, 2) := by decide +kernel
theorem dL_law_305 : decode cL_law 305 = .ok (.aload_n 2, 1) := by decide +kernel
theorem dL_law_306 : decode cL_law 306 = .ok (.invokevirtual 96, 3) := by decide +kernel
theorem dL_law_309 : decode cL_law 309 = .ok (.iload 5, 2) := by decide +kernel
theorem dL_law_311 : decode cL_law 311 = .ok (.if_icmp .eq 5, 3) := by decide +kernel
theorem dL_law_314 : decode cL_law 314 = .ok (.iconst 0, 1) := by decide +kernel
theorem dL_law_315 : decode cL_law 315 = .ok (.ireturn, 1) := by decide +kernel
theorem dL_law_316 : decode cL_law 316 = .ok (.iload 5, 2) := by decide +kernel
theorem dL_law_318 : decode cL_law 318 = .ok (.ifCond .ne 15, 3) := by decide +kernel
theorem dL_law_321 : decode cL_law 321 = .ok (.aload_n 3, 1) := by decide +kernel
theorem dL_law_322 : decode cL_law 322 = .ok (.iconst 0, 1) := by decide +kernel
theorem dL_law_323 : decode cL_law 323 = .ok (.laload, 1) := by decide +kernel
theorem dL_law_324 : decode cL_law 324 = .ok (.iload 6, 2) := by decide +kernel
theorem dL_law_326 : decode cL_law 326 = .ok (.i2l, 1) := by decide +kernel
theorem dL_law_327 : decode cL_law 327 = .ok (.lcmp, 1) := by decide +kernel
theorem dL_law_328 : decode cL_law 328 = .ok (.ifCond .eq 5, 3) := by decide +kernel
theorem dL_law_331 : decode cL_law 331 = .ok (.iconst 0, 1) := by decide +kernel
theorem dL_law_332 : decode cL_law 332 = .ok (.ireturn, 1) := by decide +kernel
theorem dL_law_333 : decode cL_law 333 = .ok (.goto 1129, 3) := by decide +kernel
theorem dL_law_336 : decode cL_law 336 = .ok (.aload_n 1, 1) := by decide +kernel
theorem dL_law_337 : decode cL_law 337 = .ok (.aload_n 0, 1) := by decide +kernel
theorem dL_law_338 : decode cL_law 338 = .ok (.iload 4, 2) := by decide +kernel
theorem dL_law_340 : decode cL_law 340 = .ok (.iconst 1, 1) := by decide +kernel
theorem dL_law_341 : decode cL_law 341 = .ok (.iadd, 1) := by decide +kernel
theorem dL_law_342 : decode cL_law 342 = .ok (.iaload, 1) := by decide +kernel
theorem dL_law_343 : decode cL_law 343 = .ok (.i2l, 1) := by decide +kernel
theorem dL_law_344 : decode cL_law 344 = .ok (.bipush 32, 2) := by decide +kernel
theorem dL_law_346 : decode cL_law 346 = .ok (.lshl, 1) := by decide +kernel
theorem dL_law_347 : decode cL_law 347 = .ok (.aload_n 0, 1) := by decide +kernel
theorem dL_law_348 : decode cL_law 348 = .ok (.iload 4, 2) := by decide +kernel
theorem dL_law_350 : decode cL_law 350 = .ok (.iconst 2, 1) := by decide +kernel
theorem dL_law_351 : decode cL_law 351 = .ok (.iadd, 1) := by decide +kernel
theorem dL_law_352 : decode cL_law 352 = .ok (.iaload, 1) := by decide +kernel
theorem dL_law_353 : decode cL_law 353 = .ok (.i2l, 1) := by decide +kernel
theorem dL_law_354 : decode cL_law 354 = .ok (.ldc2_w 107, 3) := by decide +kernel
theorem dL_law_357 : decode cL_law 357 = .ok (.land, 1) := by decide +kernel
theorem dL_law_358 : decode cL_law 358 = .ok (.lor, 1) := by decide +kernel
theorem dL_law_359 : decode cL_law 359 = .ok (.aload_n 0, 1) := by decide +kernel
theorem dL_law_360 : decode cL_law 360 = .ok (.iload 4, 2) := by decide +kernel
theorem dL_law_362 : decode cL_law 362 = .ok (.iconst 3, 1) := by decide +kernel
theorem dL_law_363 : decode cL_law 363 = .ok (.iadd, 1) := by decide +kernel
theorem dL_law_364 : decode cL_law 364 = .ok (.iaload, 1) := by decide +kernel
theorem dL_law_365 : decode cL_law 365 = .ok (.i2l, 1) := by decide +kernel
theorem dL_law_366 : decode cL_law 366 = .ok (.bipush 32, 2) := by decide +kernel
theorem dL_law_368 : decode cL_law 368 = .ok (.lshl, 1) := by decide +kernel
theorem dL_law_369 : decode cL_law 369 = .ok (.aload_n 0, 1) := by decide +kernel
theorem dL_law_370 : decode cL_law 370 = .ok (.iload 4, 2) := by decide +kernel
theorem dL_law_372 : decode cL_law 372 = .ok (.iconst 4, 1) := by decide +kernel
theorem dL_law_373 : decode cL_law 373 = .ok (.iadd, 1) := by decide +kernel
theorem dL_law_374 : decode cL_law 374 = .ok (.iaload, 1) := by decide +kernel
theorem dL_law_375 : decode cL_law 375 = .ok (.i2l, 1) := by decide +kernel
theorem dL_law_376 : decode cL_law 376 = .ok (.ldc2_w 107, 3) := by decide +kernel
theorem dL_law_379 : decode cL_law 379 = .ok (.land, 1) := by decide +kernel
theorem dL_law_380 : decode cL_law 380 = .ok (.lor, 1) := by decide +kernel
theorem dL_law_381 : decode cL_law 381 = .ok (.aload_n 0, 1) := by decide +kernel
theorem dL_law_382 : decode cL_law 382 = .ok (.iload 4, 2) := by decide +kernel
theorem dL_law_384 : decode cL_law 384 = .ok (.iconst 5, 1) := by decide +kernel
theorem dL_law_385 : decode cL_law 385 = .ok (.iadd, 1) := by decide +kernel
theorem dL_law_386 : decode cL_law 386 = .ok (.iaload, 1) := by decide +kernel
theorem dL_law_387 : decode cL_law 387 = .ok (.i2l, 1) := by decide +kernel
theorem dL_law_388 : decode cL_law 388 = .ok (.bipush 32, 2) := by decide +kernel
theorem dL_law_390 : decode cL_law 390 = .ok (.lshl, 1) := by decide +kernel
theorem dL_law_391 : decode cL_law 391 = .ok (.aload_n 0, 1) := by decide +kernel
theorem dL_law_392 : decode cL_law 392 = .ok (.iload 4, 2) := by decide +kernel
theorem dL_law_394 : decode cL_law 394 = .ok (.bipush 6, 2) := by decide +kernel
theorem dL_law_396 : decode cL_law 396 = .ok (.iadd, 1) := by decide +kernel
theorem dL_law_397 : decode cL_law 397 = .ok (.iaload, 1) := by decide +kernel
theorem dL_law_398 : decode cL_law 398 = .ok (.i2l, 1) := by decide +kernel
theorem dL_law_399 : decode cL_law 399 = .ok (.ldc2_w 107, 3) := by decide +kernel
theorem dL_law_402 : decode cL_law 402 = .ok (.land, 1) := by decide +kernel
theorem dL_law_403 : decode cL_law 403 = .ok (.lor, 1) := by decide +kernel
theorem dL_law_404 : decode cL_law 404 = .ok (.aload_n 0, 1) := by decide +kernel
theorem dL_law_405 : decode cL_law 405 = .ok (.iload 4, 2) := by decide +kernel
theorem dL_law_407 : decode cL_law 407 = .ok (.bipush 7, 2) := by decide +kernel
theorem dL_law_409 : decode cL_law 409 = .ok (.iadd, 1) := by decide +kernel
theorem dL_law_410 : decode cL_law 410 = .ok (.iaload, 1) := by decide +kernel
theorem dL_law_411 : decode cL_law 411 = .ok (.i2l, 1) := by decide +kernel
theorem dL_law_412 : decode cL_law 412 = .ok (.bipush 32, 2) := by decide +kernel
theorem dL_law_414 : decode cL_law 414 = .ok (.lshl, 1) := by decide +kernel
theorem dL_law_415 : decode cL_law 415 = .ok (.aload_n 0, 1) := by decide +kernel
theorem dL_law_416 : decode cL_law 416 = .ok (.iload 4, 2) := by decide +kernel
theorem dL_law_418 : decode cL_law 418 = .ok (.bipush 8, 2) := by decide +kernel
theorem dL_law_420 : decode cL_law 420 = .ok (.iadd, 1) := by decide +kernel
theorem dL_law_421 : decode cL_law 421 = .ok (.iaload, 1) := by decide +kernel
theorem dL_law_422 : decode cL_law 422 = .ok (.i2l, 1) := by decide +kernel
theorem dL_law_423 : decode cL_law 423 = .ok (.ldc2_w 107, 3) := by decide +kernel
theorem dL_law_426 : decode cL_law 426 = .ok (.land, 1) := by decide +kernel
theorem dL_law_427 : decode cL_law 427 = .ok (.lor, 1) := by decide +kernel
theorem dL_law_428 : decode cL_law 428 = .ok (.aload_n 3, 1) := by decide +kernel
theorem dL_law_429 : decode cL_law 429 = .ok (.invokestatic 109, 3) := by decide +kernel
theorem dL_law_432 : decode cL_law 432 = .ok (.istore 5, 2) := by decide +kernel
theorem dL_law_434 : decode cL_law 434 = .ok (.aload_n 2, 1) := by decide +kernel
theorem dL_law_435 : decode cL_law 435 = .ok (.aload_n 0, 1) := by decide +kernel
theorem dL_law_436 : decode cL_law 436 = .ok (.iload 4, 2) := by decide +kernel
theorem dL_law_438 : decode cL_law 438 = .ok (.iconst 1, 1) := by decide +kernel
theorem dL_law_439 : decode cL_law 439 = .ok (.iadd, 1) := by decide +kernel
theorem dL_law_440 : decode cL_law 440 = .ok (.iaload, 1) := by decide +kernel
theorem dL_law_441 : decode cL_law 441 = .ok (.i2l, 1) := by decide +kernel
theorem dL_law_442 : decode cL_law 442 = .ok (.bipush 32, 2) := by decide +kernel
theorem dL_law_444 : decode cL_law 444 = .ok (.lshl, 1) := by decide +kernel
theorem dL_law_445 : decode cL_law 445 = .ok (.aload_n 0, 1) := by decide +kernel
theorem dL_law_446 : decode cL_law 446 = .ok (.iload 4, 2) := by decide +kernel
theorem dL_law_448 : decode cL_law 448 = .ok (.iconst 2, 1) := by decide +kernel
theorem dL_law_449 : decode cL_law 449 = .ok (.iadd, 1) := by decide +kernel
theorem dL_law_450 : decode cL_law 450 = .ok (.iaload, 1) := by decide +kernel
theorem dL_law_451 : decode cL_law 451 = .ok (.i2l, 1) := by decide +kernel
theorem dL_law_452 : decode cL_law 452 = .ok (.ldc2_w 107, 3) := by decide +kernel
theorem dL_law_455 : decode cL_law 455 = .ok (.land, 1) := by decide +kernel
theorem dL_law_456 : decode cL_law 456 = .ok (.lor, 1) := by decide +kernel
theorem dL_law_457 : decode cL_law 457 = .ok (.aload_n 0, 1) := by decide +kernel
theorem dL_law_458 : decode cL_law 458 = .ok (.iload 4, 2) := by decide +kernel
theorem dL_law_460 : decode cL_law 460 = .ok (.iconst 3, 1) := by decide +kernel
theorem dL_law_461 : decode cL_law 461 = .ok (.iadd, 1) := by decide +kernel
theorem dL_law_462 : decode cL_law 462 = .ok (.iaload, 1) := by decide +kernel
theorem dL_law_463 : decode cL_law 463 = .ok (.i2l, 1) := by decide +kernel
theorem dL_law_464 : decode cL_law 464 = .ok (.bipush 32, 2) := by decide +kernel
theorem dL_law_466 : decode cL_law 466 = .ok (.lshl, 1) := by decide +kernel
theorem dL_law_467 : decode cL_law 467 = .ok (.aload_n 0, 1) := by decide +kernel
theorem dL_law_468 : decode cL_law 468 = .ok (.iload 4, 2) := by decide +kernel
theorem dL_law_470 : decode cL_law 470 = .ok (.iconst 4, 1) := by decide +kernel
theorem dL_law_471 : decode cL_law 471 = .ok (.iadd, 1) := by decide +kernel
theorem dL_law_472 : decode cL_law 472 = .ok (.iaload, 1) := by decide +kernel
theorem dL_law_473 : decode cL_law 473 = .ok (.i2l, 1) := by decide +kernel
theorem dL_law_474 : decode cL_law 474 = .ok (.ldc2_w 107, 3) := by decide +kernel
theorem dL_law_477 : decode cL_law 477 = .ok (.land, 1) := by decide +kernel
theorem dL_law_478 : decode cL_law 478 = .ok (.lor, 1) := by decide +kernel
theorem dL_law_479 : decode cL_law 479 = .ok (.aload_n 0, 1) := by decide +kernel
theorem dL_law_480 : decode cL_law 480 = .ok (.iload 4, 2) := by decide +kernel
theorem dL_law_482 : decode cL_law 482 = .ok (.iconst 5, 1) := by decide +kernel
theorem dL_law_483 : decode cL_law 483 = .ok (.iadd, 1) := by decide +kernel
theorem dL_law_484 : decode cL_law 484 = .ok (.iaload, 1) := by decide +kernel
theorem dL_law_485 : decode cL_law 485 = .ok (.i2l, 1) := by decide +kernel
theorem dL_law_486 : decode cL_law 486 = .ok (.bipush 32, 2) := by decide +kernel
theorem dL_law_488 : decode cL_law 488 = .ok (.lshl, 1) := by decide +kernel
theorem dL_law_489 : decode cL_law 489 = .ok (.aload_n 0, 1) := by decide +kernel
theorem dL_law_490 : decode cL_law 490 = .ok (.iload 4, 2) := by decide +kernel
theorem dL_law_492 : decode cL_law 492 = .ok (.bipush 6, 2) := by decide +kernel
theorem dL_law_494 : decode cL_law 494 = .ok (.iadd, 1) := by decide +kernel
theorem dL_law_495 : decode cL_law 495 = .ok (.iaload, 1) := by decide +kernel
theorem dL_law_496 : decode cL_law 496 = .ok (.i2l, 1) := by decide +kernel
theorem dL_law_497 : decode cL_law 497 = .ok (.ldc2_w 107, 3) := by decide +kernel
theorem dL_law_500 : decode cL_law 500 = .ok (.land, 1) := by decide +kernel
theorem dL_law_501 : decode cL_law 501 = .ok (.lor, 1) := by decide +kernel
theorem dL_law_502 : decode cL_law 502 = .ok (.aload_n 0, 1) := by decide +kernel
theorem dL_law_503 : decode cL_law 503 = .ok (.iload 4, 2) := by decide +kernel
theorem dL_law_505 : decode cL_law 505 = .ok (.bipush 7, 2) := by decide +kernel
theorem dL_law_507 : decode cL_law 507 = .ok (.iadd, 1) := by decide +kernel
theorem dL_law_508 : decode cL_law 508 = .ok (.iaload, 1) := by decide +kernel
theorem dL_law_509 : decode cL_law 509 = .ok (.i2l, 1) := by decide +kernel
theorem dL_law_510 : decode cL_law 510 = .ok (.bipush 32, 2) := by decide +kernel
theorem dL_law_512 : decode cL_law 512 = .ok (.lshl, 1) := by decide +kernel
theorem dL_law_513 : decode cL_law 513 = .ok (.aload_n 0, 1) := by decide +kernel
theorem dL_law_514 : decode cL_law 514 = .ok (.iload 4, 2) := by decide +kernel
theorem dL_law_516 : decode cL_law 516 = .ok (.bipush 8, 2) := by decide +kernel
theorem dL_law_518 : decode cL_law 518 = .ok (.iadd, 1) := by decide +kernel
theorem dL_law_519 : decode cL_law 519 = .ok (.iaload, 1) := by decide +kernel
theorem dL_law_520 : decode cL_law 520 = .ok (.i2l, 1) := by decide +kernel
theorem dL_law_521 : decode cL_law 521 = .ok (.ldc2_w 107, 3) := by decide +kernel
theorem dL_law_524 : decode cL_law 524 = .ok (.land, 1) := by decide +kernel
theorem dL_law_525 : decode cL_law 525 = .ok (.lor, 1) := by decide +kernel
theorem dL_law_526 : decode cL_law 526 = .ok (.invokevirtual 112, 3) := by decide +kernel
theorem dL_law_529 : decode cL_law 529 = .ok (.istore 6, 2) := by decide +kernel
theorem dL_law_531 : decode cL_law 531 = .ok (.aload_n 2, 1) := by decide +kernel
theorem dL_law_532 : decode cL_law 532 = .ok (.invokevirtual 96, 3) := by decide +kernel
theorem dL_law_535 : decode cL_law 535 = .ok (.iload 5, 2) := by decide +kernel
theorem dL_law_537 : decode cL_law 537 = .ok (.if_icmp .eq 5, 3) := by decide +kernel
theorem dL_law_540 : decode cL_law 540 = .ok (.iconst 0, 1) := by decide +kernel
theorem dL_law_541 : decode cL_law 541 = .ok (.ireturn, 1) := by decide +kernel
theorem dL_law_542 : decode cL_law 542 = .ok (.iload 5, 2) := by decide +kernel
theorem dL_law_544 : decode cL_law 544 = .ok (.ifCond .ne 15, 3) := by decide +kernel
theorem dL_law_547 : decode cL_law 547 = .ok (.aload_n 3, 1) := by decide +kernel
theorem dL_law_548 : decode cL_law 548 = .ok (.iconst 0, 1) := by decide +kernel
theorem dL_law_549 : decode cL_law 549 = .ok (.laload, 1) := by decide +kernel
theorem dL_law_550 : decode cL_law 550 = .ok (.iload 6, 2) := by decide +kernel
theorem dL_law_552 : decode cL_law 552 = .ok (.i2l, 1) := by decide +kernel
theorem dL_law_553 : decode cL_law 553 = .ok (.lcmp, 1) := by decide +kernel
theorem dL_law_554 : decode cL_law 554 = .ok (.ifCond .eq 5, 3) := by decide +kernel
theorem dL_law_557 : decode cL_law 557 = .ok (.iconst 0, 1) := by decide +kernel
theorem dL_law_558 : decode cL_law 558 = .ok (.ireturn, 1) := by decide +kernel
theorem dL_law_559 : decode cL_law 559 = .ok (.goto 903, 3) := by decide +kernel
theorem dL_law_562 : decode cL_law 562 = .ok (.aload_n 1, 1) := by decide +kernel
theorem dL_law_563 : decode cL_law 563 = .ok (.aload_n 0, 1) := by decide +kernel
theorem dL_law_564 : decode cL_law 564 = .ok (.iload 4, 2) := by decide +kernel
theorem dL_law_566 : decode cL_law 566 = .ok (.iconst 1, 1) := by decide +kernel
theorem dL_law_567 : decode cL_law 567 = .ok (.iadd, 1) := by decide +kernel
theorem dL_law_568 : decode cL_law 568 = .ok (.iaload, 1) := by decide +kernel
theorem dL_law_569 : decode cL_law 569 = .ok (.i2l, 1) := by decide +kernel
theorem dL_law_570 : decode cL_law 570 = .ok (.bipush 32, 2) := by decide +kernel
theorem dL_law_572 : decode cL_law 572 = .ok (.lshl, 1) := by decide +kernel
theorem dL_law_573 : decode cL_law 573 = .ok (.aload_n 0, 1) := by decide +kernel
theorem dL_law_574 : decode cL_law 574 = .ok (.iload 4, 2) := by decide +kernel
theorem dL_law_576 : decode cL_law 576 = .ok (.iconst 2, 1) := by decide +kernel
theorem dL_law_577 : decode cL_law 577 = .ok (.iadd, 1) := by decide +kernel
theorem dL_law_578 : decode cL_law 578 = .ok (.iaload, 1) := by decide +kernel
theorem dL_law_579 : decode cL_law 579 = .ok (.i2l, 1) := by decide +kernel
theorem dL_law_580 : decode cL_law 580 = .ok (.ldc2_w 107, 3) := by decide +kernel
theorem dL_law_583 : decode cL_law 583 = .ok (.land, 1) := by decide +kernel
theorem dL_law_584 : decode cL_law 584 = .ok (.lor, 1) := by decide +kernel
theorem dL_law_585 : decode cL_law 585 = .ok (.aload_n 0, 1) := by decide +kernel
theorem dL_law_586 : decode cL_law 586 = .ok (.iload 4, 2) := by decide +kernel
theorem dL_law_588 : decode cL_law 588 = .ok (.iconst 3, 1) := by decide +kernel
theorem dL_law_589 : decode cL_law 589 = .ok (.iadd, 1) := by decide +kernel
theorem dL_law_590 : decode cL_law 590 = .ok (.iaload, 1) := by decide +kernel
theorem dL_law_591 : decode cL_law 591 = .ok (.aload_n 0, 1) := by decide +kernel
theorem dL_law_592 : decode cL_law 592 = .ok (.iload 4, 2) := by decide +kernel
theorem dL_law_594 : decode cL_law 594 = .ok (.iconst 4, 1) := by decide +kernel
theorem dL_law_595 : decode cL_law 595 = .ok (.iadd, 1) := by decide +kernel
theorem dL_law_596 : decode cL_law 596 = .ok (.iaload, 1) := by decide +kernel
theorem dL_law_597 : decode cL_law 597 = .ok (.aload_n 3, 1) := by decide +kernel
theorem dL_law_598 : decode cL_law 598 = .ok (.invokestatic 113, 3) := by decide +kernel
theorem dL_law_601 : decode cL_law 601 = .ok (.istore 5, 2) := by decide +kernel
theorem dL_law_603 : decode cL_law 603 = .ok (.aload_n 2, 1) := by decide +kernel
theorem dL_law_604 : decode cL_law 604 = .ok (.aload_n 0, 1) := by decide +kernel
theorem dL_law_605 : decode cL_law 605 = .ok (.iload 4, 2) := by decide +kernel
theorem dL_law_607 : decode cL_law 607 = .ok (.iconst 1, 1) := by decide +kernel
theorem dL_law_608 : decode cL_law 608 = .ok (.iadd, 1) := by decide +kernel
theorem dL_law_609 : decode cL_law 609 = .ok (.iaload, 1) := by decide +kernel
theorem dL_law_610 : decode cL_law 610 = .ok (.i2l, 1) := by decide +kernel
theorem dL_law_611 : decode cL_law 611 = .ok (.bipush 32, 2) := by decide +kernel
theorem dL_law_613 : decode cL_law 613 = .ok (.lshl, 1) := by decide +kernel
theorem dL_law_614 : decode cL_law 614 = .ok (.aload_n 0, 1) := by decide +kernel
theorem dL_law_615 : decode cL_law 615 = .ok (.iload 4, 2) := by decide +kernel
theorem dL_law_617 : decode cL_law 617 = .ok (.iconst 2, 1) := by decide +kernel
theorem dL_law_618 : decode cL_law 618 = .ok (.iadd, 1) := by decide +kernel
theorem dL_law_619 : decode cL_law 619 = .ok (.iaload, 1) := by decide +kernel
theorem dL_law_620 : decode cL_law 620 = .ok (.i2l, 1) := by decide +kernel
theorem dL_law_621 : decode cL_law 621 = .ok (.ldc2_w 107, 3) := by decide +kernel
theorem dL_law_624 : decode cL_law 624 = .ok (.land, 1) := by decide +kernel
theorem dL_law_625 : decode cL_law 625 = .ok (.lor, 1) := by decide +kernel
theorem dL_law_626 : decode cL_law 626 = .ok (.aload_n 0, 1) := by decide +kernel
theorem dL_law_627 : decode cL_law 627 = .ok (.iload 4, 2) := by decide +kernel
theorem dL_law_629 : decode cL_law 629 = .ok (.iconst 3, 1) := by decide +kernel
theorem dL_law_630 : decode cL_law 630 = .ok (.iadd, 1) := by decide +kernel
theorem dL_law_631 : decode cL_law 631 = .ok (.iaload, 1) := by decide +kernel
theorem dL_law_632 : decode cL_law 632 = .ok (.aload_n 0, 1) := by decide +kernel
theorem dL_law_633 : decode cL_law 633 = .ok (.iload 4, 2) := by decide +kernel
theorem dL_law_635 : decode cL_law 635 = .ok (.iconst 4, 1) := by decide +kernel
theorem dL_law_636 : decode cL_law 636 = .ok (.iadd, 1) := by decide +kernel
theorem dL_law_637 : decode cL_law 637 = .ok (.iaload, 1) := by decide +kernel
theorem dL_law_638 : decode cL_law 638 = .ok (.invokevirtual 116, 3) := by decide +kernel
theorem dL_law_641 : decode cL_law 641 = .ok (.istore 6, 2) := by decide +kernel
theorem dL_law_643 : decode cL_law 643 = .ok (.aload_n 2, 1) := by decide +kernel
theorem dL_law_644 : decode cL_law 644 = .ok (.invokevirtual 96, 3) := by decide +kernel
theorem dL_law_647 : decode cL_law 647 = .ok (.iload 5, 2) := by decide +kernel
theorem dL_law_649 : decode cL_law 649 = .ok (.if_icmp .eq 5, 3) := by decide +kernel
theorem dL_law_652 : decode cL_law 652 = .ok (.iconst 0, 1) := by decide +kernel
theorem dL_law_653 : decode cL_law 653 = .ok (.ireturn, 1) := by decide +kernel
theorem dL_law_654 : decode cL_law 654 = .ok (.iload 5, 2) := by decide +kernel
theorem dL_law_656 : decode cL_law 656 = .ok (.ifCond .ne 15, 3) := by decide +kernel
theorem dL_law_659 : decode cL_law 659 = .ok (.aload_n 3, 1) := by decide +kernel
theorem dL_law_660 : decode cL_law 660 = .ok (.iconst 0, 1) := by decide +kernel
theorem dL_law_661 : decode cL_law 661 = .ok (.laload, 1) := by decide +kernel
theorem dL_law_662 : decode cL_law 662 = .ok (.iload 6, 2) := by decide +kernel
theorem dL_law_664 : decode cL_law 664 = .ok (.i2l, 1) := by decide +kernel
theorem dL_law_665 : decode cL_law 665 = .ok (.lcmp, 1) := by decide +kernel
theorem dL_law_666 : decode cL_law 666 = .ok (.ifCond .eq 5, 3) := by decide +kernel
theorem dL_law_669 : decode cL_law 669 = .ok (.iconst 0, 1) := by decide +kernel
theorem dL_law_670 : decode cL_law 670 = .ok (.ireturn, 1) := by decide +kernel
theorem dL_law_671 : decode cL_law 671 = .ok (.goto 791, 3) := by decide +kernel
theorem dL_law_674 : decode cL_law 674 = .ok (.aload_n 1, 1) := by decide +kernel
theorem dL_law_675 : decode cL_law 675 = .ok (.aload_n 0, 1) := by decide +kernel
theorem dL_law_676 : decode cL_law 676 = .ok (.iload 4, 2) := by decide +kernel
theorem dL_law_678 : decode cL_law 678 = .ok (.iconst 1, 1) := by decide +kernel
theorem dL_law_679 : decode cL_law 679 = .ok (.iadd, 1) := by decide +kernel
theorem dL_law_680 : decode cL_law 680 = .ok (.iaload, 1) := by decide +kernel
theorem dL_law_681 : decode cL_law 681 = .ok (.aload_n 3, 1) := by decide +kernel
theorem dL_law_682 : decode cL_law 682 = .ok (.invokestatic 117, 3) := by decide +kernel
theorem dL_law_685 : decode cL_law 685 = .ok (.istore 5, 2) := by decide +kernel
theorem dL_law_687 : decode cL_law 687 = .ok (.aload_n 2, 1) := by decide +kernel
theorem dL_law_688 : decode cL_law 688 = .ok (.aload_n 0, 1) := by decide +kernel
theorem dL_law_689 : decode cL_law 689 = .ok (.iload 4, 2) := by decide +kernel
theorem dL_law_691 : decode cL_law 691 = .ok (.iconst 1, 1) := by decide +kernel
theorem dL_law_692 : decode cL_law 692 = .ok (.iadd, 1) := by decide +kernel
theorem dL_law_693 : decode cL_law 693 = .ok (.iaload, 1) := by decide +kernel
theorem dL_law_694 : decode cL_law 694 = .ok (.invokevirtual 119, 3) := by decide +kernel
theorem dL_law_697 : decode cL_law 697 = .ok (.istore 6, 2) := by decide +kernel
theorem dL_law_699 : decode cL_law 699 = .ok (.aload_n 2, 1) := by decide +kernel
theorem dL_law_700 : decode cL_law 700 = .ok (.invokevirtual 96, 3) := by decide +kernel
theorem dL_law_703 : decode cL_law 703 = .ok (.iload 5, 2) := by decide +kernel
theorem dL_law_705 : decode cL_law 705 = .ok (.if_icmp .eq 5, 3) := by decide +kernel
theorem dL_law_708 : decode cL_law 708 = .ok (.iconst 0, 1) := by decide +kernel
theorem dL_law_709 : decode cL_law 709 = .ok (.ireturn, 1) := by decide +kernel
theorem dL_law_710 : decode cL_law 710 = .ok (.iload 5, 2) := by decide +kernel
theorem dL_law_712 : decode cL_law 712 = .ok (.ifCond .ne 15, 3) := by decide +kernel
theorem dL_law_715 : decode cL_law 715 = .ok (.aload_n 3, 1) := by decide +kernel
theorem dL_law_716 : decode cL_law 716 = .ok (.iconst 0, 1) := by decide +kernel
theorem dL_law_717 : decode cL_law 717 = .ok (.laload, 1) := by decide +kernel
theorem dL_law_718 : decode cL_law 718 = .ok (.iload 6, 2) := by decide +kernel
theorem dL_law_720 : decode cL_law 720 = .ok (.i2l, 1) := by decide +kernel
theorem dL_law_721 : decode cL_law 721 = .ok (.lcmp, 1) := by decide +kernel
theorem dL_law_722 : decode cL_law 722 = .ok (.ifCond .eq 5, 3) := by decide +kernel
theorem dL_law_725 : decode cL_law 725 = .ok (.iconst 0, 1) := by decide +kernel
theorem dL_law_726 : decode cL_law 726 = .ok (.ireturn, 1) := by decide +kernel
theorem dL_law_727 : decode cL_law 727 = .ok (.goto 735, 3) := by decide +kernel
theorem dL_law_730 : decode cL_law 730 = .ok (.aload_n 1, 1) := by decide +kernel
theorem dL_law_731 : decode cL_law 731 = .ok (.aload_n 0, 1) := by decide +kernel
theorem dL_law_732 : decode cL_law 732 = .ok (.iload 4, 2) := by decide +kernel
theorem dL_law_734 : decode cL_law 734 = .ok (.iconst 1, 1) := by decide +kernel
theorem dL_law_735 : decode cL_law 735 = .ok (.iadd, 1) := by decide +kernel
theorem dL_law_736 : decode cL_law 736 = .ok (.iaload, 1) := by decide +kernel
theorem dL_law_737 : decode cL_law 737 = .ok (.aload_n 3, 1) := by decide +kernel
theorem dL_law_738 : decode cL_law 738 = .ok (.invokestatic 120, 3) := by decide +kernel
theorem dL_law_741 : decode cL_law 741 = .ok (.istore 5, 2) := by decide +kernel
theorem dL_law_743 : decode cL_law 743 = .ok (.aload_n 2, 1) := by decide +kernel
theorem dL_law_744 : decode cL_law 744 = .ok (.aload_n 0, 1) := by decide +kernel
theorem dL_law_745 : decode cL_law 745 = .ok (.iload 4, 2) := by decide +kernel
theorem dL_law_747 : decode cL_law 747 = .ok (.iconst 1, 1) := by decide +kernel
theorem dL_law_748 : decode cL_law 748 = .ok (.iadd, 1) := by decide +kernel
theorem dL_law_749 : decode cL_law 749 = .ok (.iaload, 1) := by decide +kernel
theorem dL_law_750 : decode cL_law 750 = .ok (.invokevirtual 122, 3) := by decide +kernel
theorem dL_law_753 : decode cL_law 753 = .ok (.istore 6, 2) := by decide +kernel
theorem dL_law_755 : decode cL_law 755 = .ok (.aload_n 2, 1) := by decide +kernel
theorem dL_law_756 : decode cL_law 756 = .ok (.invokevirtual 96, 3) := by decide +kernel
theorem dL_law_759 : decode cL_law 759 = .ok (.iload 5, 2) := by decide +kernel
theorem dL_law_761 : decode cL_law 761 = .ok (.if_icmp .eq 5, 3) := by decide +kernel
theorem dL_law_764 : decode cL_law 764 = .ok (.iconst 0, 1) := by decide +kernel
theorem dL_law_765 : decode cL_law 765 = .ok (.ireturn, 1) := by decide +kernel
theorem dL_law_766 : decode cL_law 766 = .ok (.iload 5, 2) := by decide +kernel
theorem dL_law_768 : decode cL_law 768 = .ok (.ifCond .ne 15, 3) := by decide +kernel
theorem dL_law_771 : decode cL_law 771 = .ok (.aload_n 3, 1) := by decide +kernel
theorem dL_law_772 : decode cL_law 772 = .ok (.iconst 0, 1) := by decide +kernel
theorem dL_law_773 : decode cL_law 773 = .ok (.laload, 1) := by decide +kernel
theorem dL_law_774 : decode cL_law 774 = .ok (.iload 6, 2) := by decide +kernel
theorem dL_law_776 : decode cL_law 776 = .ok (.i2l, 1) := by decide +kernel
theorem dL_law_777 : decode cL_law 777 = .ok (.lcmp, 1) := by decide +kernel
theorem dL_law_778 : decode cL_law 778 = .ok (.ifCond .eq 5, 3) := by decide +kernel
theorem dL_law_781 : decode cL_law 781 = .ok (.iconst 0, 1) := by decide +kernel
theorem dL_law_782 : decode cL_law 782 = .ok (.ireturn, 1) := by decide +kernel
theorem dL_law_783 : decode cL_law 783 = .ok (.goto 679, 3) := by decide +kernel
theorem dL_law_786 : decode cL_law 786 = .ok (.aload_n 1, 1) := by decide +kernel
theorem dL_law_787 : decode cL_law 787 = .ok (.aload_n 0, 1) := by decide +kernel
theorem dL_law_788 : decode cL_law 788 = .ok (.iload 4, 2) := by decide +kernel
theorem dL_law_790 : decode cL_law 790 = .ok (.iconst 1, 1) := by decide +kernel
theorem dL_law_791 : decode cL_law 791 = .ok (.iadd, 1) := by decide +kernel
theorem dL_law_792 : decode cL_law 792 = .ok (.iaload, 1) := by decide +kernel
theorem dL_law_793 : decode cL_law 793 = .ok (.aload_n 3, 1) := by decide +kernel
theorem dL_law_794 : decode cL_law 794 = .ok (.invokestatic 123, 3) := by decide +kernel
theorem dL_law_797 : decode cL_law 797 = .ok (.istore 5, 2) := by decide +kernel
theorem dL_law_799 : decode cL_law 799 = .ok (.aload_n 2, 1) := by decide +kernel
theorem dL_law_800 : decode cL_law 800 = .ok (.aload_n 0, 1) := by decide +kernel
theorem dL_law_801 : decode cL_law 801 = .ok (.iload 4, 2) := by decide +kernel
theorem dL_law_803 : decode cL_law 803 = .ok (.iconst 1, 1) := by decide +kernel
theorem dL_law_804 : decode cL_law 804 = .ok (.iadd, 1) := by decide +kernel
theorem dL_law_805 : decode cL_law 805 = .ok (.iaload, 1) := by decide +kernel
theorem dL_law_806 : decode cL_law 806 = .ok (.invokevirtual 125, 3) := by decide +kernel
theorem dL_law_809 : decode cL_law 809 = .ok (.istore 6, 2) := by decide +kernel
theorem dL_law_811 : decode cL_law 811 = .ok (.aload_n 2, 1) := by decide +kernel
theorem dL_law_812 : decode cL_law 812 = .ok (.invokevirtual 96, 3) := by decide +kernel
theorem dL_law_815 : decode cL_law 815 = .ok (.iload 5, 2) := by decide +kernel
theorem dL_law_817 : decode cL_law 817 = .ok (.if_icmp .eq 5, 3) := by decide +kernel
theorem dL_law_820 : decode cL_law 820 = .ok (.iconst 0, 1) := by decide +kernel
theorem dL_law_821 : decode cL_law 821 = .ok (.ireturn, 1) := by decide +kernel
theorem dL_law_822 : decode cL_law 822 = .ok (.iload 5, 2) := by decide +kernel
theorem dL_law_824 : decode cL_law 824 = .ok (.ifCond .ne 15, 3) := by decide +kernel
theorem dL_law_827 : decode cL_law 827 = .ok (.aload_n 3, 1) := by decide +kernel
theorem dL_law_828 : decode cL_law 828 = .ok (.iconst 0, 1) := by decide +kernel
theorem dL_law_829 : decode cL_law 829 = .ok (.laload, 1) := by decide +kernel
theorem dL_law_830 : decode cL_law 830 = .ok (.iload 6, 2) := by decide +kernel
theorem dL_law_832 : decode cL_law 832 = .ok (.i2l, 1) := by decide +kernel
theorem dL_law_833 : decode cL_law 833 = .ok (.lcmp, 1) := by decide +kernel
theorem dL_law_834 : decode cL_law 834 = .ok (.ifCond .eq 5, 3) := by decide +kernel
theorem dL_law_837 : decode cL_law 837 = .ok (.iconst 0, 1) := by decide +kernel
theorem dL_law_838 : decode cL_law 838 = .ok (.ireturn, 1) := by decide +kernel
theorem dL_law_839 : decode cL_law 839 = .ok (.goto 623, 3) := by decide +kernel
theorem dL_law_842 : decode cL_law 842 = .ok (.aload_n 1, 1) := by decide +kernel
theorem dL_law_843 : decode cL_law 843 = .ok (.aload_n 0, 1) := by decide +kernel
theorem dL_law_844 : decode cL_law 844 = .ok (.iload 4, 2) := by decide +kernel
theorem dL_law_846 : decode cL_law 846 = .ok (.iconst 1, 1) := by decide +kernel
theorem dL_law_847 : decode cL_law 847 = .ok (.iadd, 1) := by decide +kernel
theorem dL_law_848 : decode cL_law 848 = .ok (.iaload, 1) := by decide +kernel
theorem dL_law_849 : decode cL_law 849 = .ok (.aload_n 3, 1) := by decide +kernel
theorem dL_law_850 : decode cL_law 850 = .ok (.invokestatic 126, 3) := by decide +kernel
theorem dL_law_853 : decode cL_law 853 = .ok (.istore 5, 2) := by decide +kernel
theorem dL_law_855 : decode cL_law 855 = .ok (.aload_n 2, 1) := by decide +kernel
theorem dL_law_856 : decode cL_law 856 = .ok (.aload_n 0, 1) := by decide +kernel
theorem dL_law_857 : decode cL_law 857 = .ok (.iload 4, 2) := by decide +kernel
theorem dL_law_859 : decode cL_law 859 = .ok (.iconst 1, 1) := by decide +kernel
theorem dL_law_860 : decode cL_law 860 = .ok (.iadd, 1) := by decide +kernel
theorem dL_law_861 : decode cL_law 861 = .ok (.iaload, 1) := by decide +kernel
theorem dL_law_862 : decode cL_law 862 = .ok (.invokevirtual 128, 3) := by decide +kernel
theorem dL_law_865 : decode cL_law 865 = .ok (.istore 6, 2) := by decide +kernel
theorem dL_law_867 : decode cL_law 867 = .ok (.aload_n 2, 1) := by decide +kernel
theorem dL_law_868 : decode cL_law 868 = .ok (.invokevirtual 96, 3) := by decide +kernel
theorem dL_law_871 : decode cL_law 871 = .ok (.iload 5, 2) := by decide +kernel
theorem dL_law_873 : decode cL_law 873 = .ok (.if_icmp .eq 5, 3) := by decide +kernel
theorem dL_law_876 : decode cL_law 876 = .ok (.iconst 0, 1) := by decide +kernel
theorem dL_law_877 : decode cL_law 877 = .ok (.ireturn, 1) := by decide +kernel
theorem dL_law_878 : decode cL_law 878 = .ok (.iload 5, 2) := by decide +kernel
theorem dL_law_880 : decode cL_law 880 = .ok (.ifCond .ne 15, 3) := by decide +kernel
theorem dL_law_883 : decode cL_law 883 = .ok (.aload_n 3, 1) := by decide +kernel
theorem dL_law_884 : decode cL_law 884 = .ok (.iconst 0, 1) := by decide +kernel
theorem dL_law_885 : decode cL_law 885 = .ok (.laload, 1) := by decide +kernel
theorem dL_law_886 : decode cL_law 886 = .ok (.iload 6, 2) := by decide +kernel
theorem dL_law_888 : decode cL_law 888 = .ok (.i2l, 1) := by decide +kernel
theorem dL_law_889 : decode cL_law 889 = .ok (.lcmp, 1) := by decide +kernel
theorem dL_law_890 : decode cL_law 890 = .ok (.ifCond .eq 5, 3) := by decide +kernel
theorem dL_law_893 : decode cL_law 893 = .ok (.iconst 0, 1) := by decide +kernel
theorem dL_law_894 : decode cL_law 894 = .ok (.ireturn, 1) := by decide +kernel
theorem dL_law_895 : decode cL_law 895 = .ok (.goto 567, 3) := by decide +kernel
theorem dL_law_898 : decode cL_law 898 = .ok (.aload_n 1, 1) := by decide +kernel
theorem dL_law_899 : decode cL_law 899 = .ok (.aload_n 0, 1) := by decide +kernel
theorem dL_law_900 : decode cL_law 900 = .ok (.iload 4, 2) := by decide +kernel
theorem dL_law_902 : decode cL_law 902 = .ok (.iconst 1, 1) := by decide +kernel
theorem dL_law_903 : decode cL_law 903 = .ok (.iadd, 1) := by decide +kernel
theorem dL_law_904 : decode cL_law 904 = .ok (.iaload, 1) := by decide +kernel
theorem dL_law_905 : decode cL_law 905 = .ok (.aload_n 3, 1) := by decide +kernel
theorem dL_law_906 : decode cL_law 906 = .ok (.invokestatic 129, 3) := by decide +kernel
theorem dL_law_909 : decode cL_law 909 = .ok (.istore 5, 2) := by decide +kernel
theorem dL_law_911 : decode cL_law 911 = .ok (.aload_n 2, 1) := by decide +kernel
theorem dL_law_912 : decode cL_law 912 = .ok (.aload_n 0, 1) := by decide +kernel
theorem dL_law_913 : decode cL_law 913 = .ok (.iload 4, 2) := by decide +kernel
theorem dL_law_915 : decode cL_law 915 = .ok (.iconst 1, 1) := by decide +kernel
theorem dL_law_916 : decode cL_law 916 = .ok (.iadd, 1) := by decide +kernel
theorem dL_law_917 : decode cL_law 917 = .ok (.iaload, 1) := by decide +kernel
theorem dL_law_918 : decode cL_law 918 = .ok (.invokevirtual 131, 3) := by decide +kernel
theorem dL_law_921 : decode cL_law 921 = .ok (.istore 6, 2) := by decide +kernel
theorem dL_law_923 : decode cL_law 923 = .ok (.aload_n 2, 1) := by decide +kernel
theorem dL_law_924 : decode cL_law 924 = .ok (.invokevirtual 96, 3) := by decide +kernel
theorem dL_law_927 : decode cL_law 927 = .ok (.iload 5, 2) := by decide +kernel
theorem dL_law_929 : decode cL_law 929 = .ok (.if_icmp .eq 5, 3) := by decide +kernel
theorem dL_law_932 : decode cL_law 932 = .ok (.iconst 0, 1) := by decide +kernel
theorem dL_law_933 : decode cL_law 933 = .ok (.ireturn, 1) := by decide +kernel
theorem dL_law_934 : decode cL_law 934 = .ok (.iload 5, 2) := by decide +kernel
theorem dL_law_936 : decode cL_law 936 = .ok (.ifCond .ne 15, 3) := by decide +kernel
theorem dL_law_939 : decode cL_law 939 = .ok (.aload_n 3, 1) := by decide +kernel
theorem dL_law_940 : decode cL_law 940 = .ok (.iconst 0, 1) := by decide +kernel
theorem dL_law_941 : decode cL_law 941 = .ok (.laload, 1) := by decide +kernel
theorem dL_law_942 : decode cL_law 942 = .ok (.iload 6, 2) := by decide +kernel
theorem dL_law_944 : decode cL_law 944 = .ok (.i2l, 1) := by decide +kernel
theorem dL_law_945 : decode cL_law 945 = .ok (.lcmp, 1) := by decide +kernel
theorem dL_law_946 : decode cL_law 946 = .ok (.ifCond .eq 5, 3) := by decide +kernel
theorem dL_law_949 : decode cL_law 949 = .ok (.iconst 0, 1) := by decide +kernel
theorem dL_law_950 : decode cL_law 950 = .ok (.ireturn, 1) := by decide +kernel
theorem dL_law_951 : decode cL_law 951 = .ok (.goto 511, 3) := by decide +kernel
theorem dL_law_954 : decode cL_law 954 = .ok (.aload_n 1, 1) := by decide +kernel
theorem dL_law_955 : decode cL_law 955 = .ok (.invokevirtual 132, 3) := by decide +kernel
theorem dL_law_958 : decode cL_law 958 = .ok (.aload_n 2, 1) := by decide +kernel
theorem dL_law_959 : decode cL_law 959 = .ok (.invokevirtual 135, 3) := by decide +kernel
theorem dL_law_962 : decode cL_law 962 = .ok (.if_icmp .eq 500, 3) := by decide +kernel
theorem dL_law_965 : decode cL_law 965 = .ok (.iconst 0, 1) := by decide +kernel
theorem dL_law_966 : decode cL_law 966 = .ok (.ireturn, 1) := by decide +kernel
theorem dL_law_967 : decode cL_law 967 = .ok (.aload_n 1, 1) := by decide +kernel
theorem dL_law_968 : decode cL_law 968 = .ok (.aload_n 0, 1) := by decide +kernel
theorem dL_law_969 : decode cL_law 969 = .ok (.iload 4, 2) := by decide +kernel
theorem dL_law_971 : decode cL_law 971 = .ok (.iconst 1, 1) := by decide +kernel
theorem dL_law_972 : decode cL_law 972 = .ok (.iadd, 1) := by decide +kernel
theorem dL_law_973 : decode cL_law 973 = .ok (.iaload, 1) := by decide +kernel
theorem dL_law_974 : decode cL_law 974 = .ok (.aload_n 3, 1) := by decide +kernel
theorem dL_law_975 : decode cL_law 975 = .ok (.invokestatic 136, 3) := by decide +kernel
theorem dL_law_978 : decode cL_law 978 = .ok (.istore 5, 2) := by decide +kernel
theorem dL_law_980 : decode cL_law 980 = .ok (.aload_n 2, 1) := by decide +kernel
theorem dL_law_981 : decode cL_law 981 = .ok (.aload_n 0, 1) := by decide +kernel
theorem dL_law_982 : decode cL_law 982 = .ok (.iload 4, 2) := by decide +kernel
theorem dL_law_984 : decode cL_law 984 = .ok (.iconst 1, 1) := by decide +kernel
theorem dL_law_985 : decode cL_law 985 = .ok (.iadd, 1) := by decide +kernel
theorem dL_law_986 : decode cL_law 986 = .ok (.iaload, 1) := by decide +kernel
theorem dL_law_987 : decode cL_law 987 = .ok (.invokevirtual 138, 3) := by decide +kernel
theorem dL_law_990 : decode cL_law 990 = .ok (.istore 6, 2) := by decide +kernel
theorem dL_law_992 : decode cL_law 992 = .ok (.aload_n 2, 1) := by decide +kernel
theorem dL_law_993 : decode cL_law 993 = .ok (.invokevirtual 96, 3) := by decide +kernel
theorem dL_law_996 : decode cL_law 996 = .ok (.iload 5, 2) := by decide +kernel
theorem dL_law_998 : decode cL_law 998 = .ok (.if_icmp .eq 5, 3) := by decide +kernel
theorem dL_law_1001 : decode cL_law 1001 = .ok (.iconst 0, 1) := by decide +kernel
theorem dL_law_1002 : decode cL_law 1002 = .ok (.ireturn, 1) := by decide +kernel
theorem dL_law_1003 : decode cL_law 1003 = .ok (.iload 5, 2) := by decide +kernel
theorem dL_law_1005 : decode cL_law 1005 = .ok (.ifCond .ne 15, 3) := by decide +kernel
theorem dL_law_1008 : decode cL_law 1008 = .ok (.aload_n 3, 1) := by decide +kernel
theorem dL_law_1009 : decode cL_law 1009 = .ok (.iconst 0, 1) := by decide +kernel
theorem dL_law_1010 : decode cL_law 1010 = .ok (.laload, 1) := by decide +kernel
theorem dL_law_1011 : decode cL_law 1011 = .ok (.iload 6, 2) := by decide +kernel
theorem dL_law_1013 : decode cL_law 1013 = .ok (.i2l, 1) := by decide +kernel
theorem dL_law_1014 : decode cL_law 1014 = .ok (.lcmp, 1) := by decide +kernel
theorem dL_law_1015 : decode cL_law 1015 = .ok (.ifCond .eq 5, 3) := by decide +kernel
theorem dL_law_1018 : decode cL_law 1018 = .ok (.iconst 0, 1) := by decide +kernel
theorem dL_law_1019 : decode cL_law 1019 = .ok (.ireturn, 1) := by decide +kernel
theorem dL_law_1020 : decode cL_law 1020 = .ok (.goto 442, 3) := by decide +kernel
theorem dL_law_1023 : decode cL_law 1023 = .ok (.aload_n 1, 1) := by decide +kernel
theorem dL_law_1024 : decode cL_law 1024 = .ok (.aload_n 0, 1) := by decide +kernel
theorem dL_law_1025 : decode cL_law 1025 = .ok (.iload 4, 2) := by decide +kernel
theorem dL_law_1027 : decode cL_law 1027 = .ok (.iconst 1, 1) := by decide +kernel
theorem dL_law_1028 : decode cL_law 1028 = .ok (.iadd, 1) := by decide +kernel
theorem dL_law_1029 : decode cL_law 1029 = .ok (.iaload, 1) := by decide +kernel
theorem dL_law_1030 : decode cL_law 1030 = .ok (.aload_n 0, 1) := by decide +kernel
theorem dL_law_1031 : decode cL_law 1031 = .ok (.iload 4, 2) := by decide +kernel
theorem dL_law_1033 : decode cL_law 1033 = .ok (.iconst 2, 1) := by decide +kernel
theorem dL_law_1034 : decode cL_law 1034 = .ok (.iadd, 1) := by decide +kernel
theorem dL_law_1035 : decode cL_law 1035 = .ok (.iaload, 1) := by decide +kernel
theorem dL_law_1036 : decode cL_law 1036 = .ok (.aload_n 3, 1) := by decide +kernel
theorem dL_law_1037 : decode cL_law 1037 = .ok (.invokestatic 139, 3) := by decide +kernel
theorem dL_law_1040 : decode cL_law 1040 = .ok (.istore 5, 2) := by decide +kernel
theorem dL_law_1042 : decode cL_law 1042 = .ok (.aload_n 2, 1) := by decide +kernel
theorem dL_law_1043 : decode cL_law 1043 = .ok (.aload_n 0, 1) := by decide +kernel
theorem dL_law_1044 : decode cL_law 1044 = .ok (.iload 4, 2) := by decide +kernel
theorem dL_law_1046 : decode cL_law 1046 = .ok (.iconst 1, 1) := by decide +kernel
theorem dL_law_1047 : decode cL_law 1047 = .ok (.iadd, 1) := by decide +kernel
theorem dL_law_1048 : decode cL_law 1048 = .ok (.iaload, 1) := by decide +kernel
theorem dL_law_1049 : decode cL_law 1049 = .ok (.aload_n 0, 1) := by decide +kernel
theorem dL_law_1050 : decode cL_law 1050 = .ok (.iload 4, 2) := by decide +kernel
theorem dL_law_1052 : decode cL_law 1052 = .ok (.iconst 2, 1) := by decide +kernel
theorem dL_law_1053 : decode cL_law 1053 = .ok (.iadd, 1) := by decide +kernel
theorem dL_law_1054 : decode cL_law 1054 = .ok (.iaload, 1) := by decide +kernel
theorem dL_law_1055 : decode cL_law 1055 = .ok (.invokevirtual 142, 3) := by decide +kernel
theorem dL_law_1058 : decode cL_law 1058 = .ok (.istore 6, 2) := by decide +kernel
theorem dL_law_1060 : decode cL_law 1060 = .ok (.aload_n 2, 1) := by decide +kernel
theorem dL_law_1061 : decode cL_law 1061 = .ok (.invokevirtual 96, 3) := by decide +kernel
theorem dL_law_1064 : decode cL_law 1064 = .ok (.iload 5, 2) := by decide +kernel
theorem dL_law_1066 : decode cL_law 1066 = .ok (.if_icmp .eq 5, 3) := by decide +kernel
theorem dL_law_1069 : decode cL_law 1069 = .ok (.iconst 0, 1) := by decide +kernel
theorem dL_law_1070 : decode cL_law 1070 = .ok (.ireturn, 1) := by decide +kernel
theorem dL_law_1071 : decode cL_law 1071 = .ok (.iload 5, 2) := by decide +kernel
theorem dL_law_1073 : decode cL_law 1073 = .ok (.ifCond .ne 15, 3) := by decide +kernel
theorem dL_law_1076 : decode cL_law 1076 = .ok (.aload_n 3, 1) := by decide +kernel
theorem dL_law_1077 : decode cL_law 1077 = .ok (.iconst 0, 1) := by decide +kernel
theorem dL_law_1078 : decode cL_law 1078 = .ok (.laload, 1) := by decide +kernel
theorem dL_law_1079 : decode cL_law 1079 = .ok (.iload 6, 2) := by decide +kernel
theorem dL_law_1081 : decode cL_law 1081 = .ok (.i2l, 1) := by decide +kernel
theorem dL_law_1082 : decode cL_law 1082 = .ok (.lcmp, 1) := by decide +kernel
theorem dL_law_1083 : decode cL_law 1083 = .ok (.ifCond .eq 5, 3) := by decide +kernel
theorem dL_law_1086 : decode cL_law 1086 = .ok (.iconst 0, 1) := by decide +kernel
theorem dL_law_1087 : decode cL_law 1087 = .ok (.ireturn, 1) := by decide +kernel
theorem dL_law_1088 : decode cL_law 1088 = .ok (.goto 374, 3) := by decide +kernel
theorem dL_law_1091 : decode cL_law 1091 = .ok (.aload_n 1, 1) := by decide +kernel
theorem dL_law_1092 : decode cL_law 1092 = .ok (.aload_n 0, 1) := by decide +kernel
theorem dL_law_1093 : decode cL_law 1093 = .ok (.iload 4, 2) := by decide +kernel
theorem dL_law_1095 : decode cL_law 1095 = .ok (.iconst 1, 1) := by decide +kernel
theorem dL_law_1096 : decode cL_law 1096 = .ok (.iadd, 1) := by decide +kernel
theorem dL_law_1097 : decode cL_law 1097 = .ok (.iaload, 1) := by decide +kernel
theorem dL_law_1098 : decode cL_law 1098 = .ok (.aload_n 0, 1) := by decide +kernel
theorem dL_law_1099 : decode cL_law 1099 = .ok (.iload 4, 2) := by decide +kernel
theorem dL_law_1101 : decode cL_law 1101 = .ok (.iconst 2, 1) := by decide +kernel
theorem dL_law_1102 : decode cL_law 1102 = .ok (.iadd, 1) := by decide +kernel
theorem dL_law_1103 : decode cL_law 1103 = .ok (.iaload, 1) := by decide +kernel
theorem dL_law_1104 : decode cL_law 1104 = .ok (.aload_n 0, 1) := by decide +kernel
theorem dL_law_1105 : decode cL_law 1105 = .ok (.iload 4, 2) := by decide +kernel
theorem dL_law_1107 : decode cL_law 1107 = .ok (.iconst 3, 1) := by decide +kernel
theorem dL_law_1108 : decode cL_law 1108 = .ok (.iadd, 1) := by decide +kernel
theorem dL_law_1109 : decode cL_law 1109 = .ok (.iaload, 1) := by decide +kernel
theorem dL_law_1110 : decode cL_law 1110 = .ok (.aload_n 3, 1) := by decide +kernel
theorem dL_law_1111 : decode cL_law 1111 = .ok (.invokestatic 143, 3) := by decide +kernel
theorem dL_law_1114 : decode cL_law 1114 = .ok (.istore 5, 2) := by decide +kernel
theorem dL_law_1116 : decode cL_law 1116 = .ok (.aload_n 2, 1) := by decide +kernel
theorem dL_law_1117 : decode cL_law 1117 = .ok (.aload_n 0, 1) := by decide +kernel
theorem dL_law_1118 : decode cL_law 1118 = .ok (.iload 4, 2) := by decide +kernel
theorem dL_law_1120 : decode cL_law 1120 = .ok (.iconst 1, 1) := by decide +kernel
theorem dL_law_1121 : decode cL_law 1121 = .ok (.iadd, 1) := by decide +kernel
theorem dL_law_1122 : decode cL_law 1122 = .ok (.iaload, 1) := by decide +kernel
theorem dL_law_1123 : decode cL_law 1123 = .ok (.aload_n 0, 1) := by decide +kernel
theorem dL_law_1124 : decode cL_law 1124 = .ok (.iload 4, 2) := by decide +kernel
theorem dL_law_1126 : decode cL_law 1126 = .ok (.iconst 2, 1) := by decide +kernel
theorem dL_law_1127 : decode cL_law 1127 = .ok (.iadd, 1) := by decide +kernel
theorem dL_law_1128 : decode cL_law 1128 = .ok (.iaload, 1) := by decide +kernel
theorem dL_law_1129 : decode cL_law 1129 = .ok (.aload_n 0, 1) := by decide +kernel
theorem dL_law_1130 : decode cL_law 1130 = .ok (.iload 4, 2) := by decide +kernel
theorem dL_law_1132 : decode cL_law 1132 = .ok (.iconst 3, 1) := by decide +kernel
theorem dL_law_1133 : decode cL_law 1133 = .ok (.iadd, 1) := by decide +kernel
theorem dL_law_1134 : decode cL_law 1134 = .ok (.iaload, 1) := by decide +kernel
theorem dL_law_1135 : decode cL_law 1135 = .ok (.invokevirtual 146, 3) := by decide +kernel
theorem dL_law_1138 : decode cL_law 1138 = .ok (.lstore 6, 2) := by decide +kernel
theorem dL_law_1140 : decode cL_law 1140 = .ok (.aload_n 2, 1) := by decide +kernel
theorem dL_law_1141 : decode cL_law 1141 = .ok (.invokevirtual 96, 3) := by decide +kernel
theorem dL_law_1144 : decode cL_law 1144 = .ok (.iload 5, 2) := by decide +kernel
theorem dL_law_1146 : decode cL_law 1146 = .ok (.if_icmp .eq 5, 3) := by decide +kernel
theorem dL_law_1149 : decode cL_law 1149 = .ok (.iconst 0, 1) := by decide +kernel
theorem dL_law_1150 : decode cL_law 1150 = .ok (.ireturn, 1) := by decide +kernel
theorem dL_law_1151 : decode cL_law 1151 = .ok (.iload 5, 2) := by decide +kernel
theorem dL_law_1153 : decode cL_law 1153 = .ok (.ifCond .ne 14, 3) := by decide +kernel
theorem dL_law_1156 : decode cL_law 1156 = .ok (.aload_n 3, 1) := by decide +kernel
theorem dL_law_1157 : decode cL_law 1157 = .ok (.iconst 0, 1) := by decide +kernel
theorem dL_law_1158 : decode cL_law 1158 = .ok (.laload, 1) := by decide +kernel
theorem dL_law_1159 : decode cL_law 1159 = .ok (.lload 6, 2) := by decide +kernel
theorem dL_law_1161 : decode cL_law 1161 = .ok (.lcmp, 1) := by decide +kernel
theorem dL_law_1162 : decode cL_law 1162 = .ok (.ifCond .eq 5, 3) := by decide +kernel
theorem dL_law_1165 : decode cL_law 1165 = .ok (.iconst 0, 1) := by decide +kernel
theorem dL_law_1166 : decode cL_law 1166 = .ok (.ireturn, 1) := by decide +kernel
theorem dL_law_1167 : decode cL_law 1167 = .ok (.goto 295, 3) := by decide +kernel
theorem dL_law_1170 : decode cL_law 1170 = .ok (.aload_n 1, 1) := by decide +kernel
theorem dL_law_1171 : decode cL_law 1171 = .ok (.aload_n 0, 1) := by decide +kernel
theorem dL_law_1172 : decode cL_law 1172 = .ok (.iload 4, 2) := by decide +kernel
theorem dL_law_1174 : decode cL_law 1174 = .ok (.iconst 1, 1) := by decide +kernel
theorem dL_law_1175 : decode cL_law 1175 = .ok (.iadd, 1) := by decide +kernel
theorem dL_law_1176 : decode cL_law 1176 = .ok (.iaload, 1) := by decide +kernel
theorem dL_law_1177 : decode cL_law 1177 = .ok (.aload_n 0, 1) := by decide +kernel
theorem dL_law_1178 : decode cL_law 1178 = .ok (.iload 4, 2) := by decide +kernel
theorem dL_law_1180 : decode cL_law 1180 = .ok (.iconst 2, 1) := by decide +kernel
theorem dL_law_1181 : decode cL_law 1181 = .ok (.iadd, 1) := by decide +kernel
theorem dL_law_1182 : decode cL_law 1182 = .ok (.iaload, 1) := by decide +kernel
theorem dL_law_1183 : decode cL_law 1183 = .ok (.i2l, 1) := by decide +kernel
theorem dL_law_1184 : decode cL_law 1184 = .ok (.bipush 32, 2) := by decide +kernel
theorem dL_law_1186 : decode cL_law 1186 = .ok (.lshl, 1) := by decide +kernel
theorem dL_law_1187 : decode cL_law 1187 = .ok (.aload_n 0, 1) := by decide +kernel
theorem dL_law_1188 : decode cL_law 1188 = .ok (.iload 4, 2) := by decide +kernel
theorem dL_law_1190 : decode cL_law 1190 = .ok (.iconst 3, 1) := by decide +kernel
theorem dL_law_1191 : decode cL_law 1191 = .ok (.iadd, 1) := by decide +kernel
theorem dL_law_1192 : decode cL_law 1192 = .ok (.iaload, 1) := by decide +kernel
theorem dL_law_1193 : decode cL_law 1193 = .ok (.i2l, 1) := by decide +kernel
theorem dL_law_1194 : decode cL_law 1194 = .ok (.ldc2_w 107, 3) := by decide +kernel
theorem dL_law_1197 : decode cL_law 1197 = .ok (.land, 1) := by decide +kernel
theorem dL_law_1198 : decode cL_law 1198 = .ok (.lor, 1) := by decide +kernel
theorem dL_law_1199 : decode cL_law 1199 = .ok (.aload_n 3, 1) := by decide +kernel
theorem dL_law_1200 : decode cL_law 1200 = .ok (.invokestatic 147, 3) := by decide +kernel
theorem dL_law_1203 : decode cL_law 1203 = .ok (.istore 5, 2) := by decide +kernel
theorem dL_law_1205 : decode cL_law 1205 = .ok (.aload_n 2, 1) := by decide +kernel
theorem dL_law_1206 : decode cL_law 1206 = .ok (.aload_n 0, 1) := by decide +kernel
theorem dL_law_1207 : decode cL_law 1207 = .ok (.iload 4, 2) := by decide +kernel
theorem dL_law_1209 : decode cL_law 1209 = .ok (.iconst 1, 1) := by decide +kernel
theorem dL_law_1210 : decode cL_law 1210 = .ok (.iadd, 1) := by decide +kernel
theorem dL_law_1211 : decode cL_law 1211 = .ok (.iaload, 1) := by decide +kernel
theorem dL_law_1212 : decode cL_law 1212 = .ok (.aload_n 0, 1) := by decide +kernel
theorem dL_law_1213 : decode cL_law 1213 = .ok (.iload 4, 2) := by decide +kernel
theorem dL_law_1215 : decode cL_law 1215 = .ok (.iconst 2, 1) := by decide +kernel
theorem dL_law_1216 : decode cL_law 1216 = .ok (.iadd, 1) := by decide +kernel
theorem dL_law_1217 : decode cL_law 1217 = .ok (.iaload, 1) := by decide +kernel
theorem dL_law_1218 : decode cL_law 1218 = .ok (.i2l, 1) := by decide +kernel
theorem dL_law_1219 : decode cL_law 1219 = .ok (.bipush 32, 2) := by decide +kernel
theorem dL_law_1221 : decode cL_law 1221 = .ok (.lshl, 1) := by decide +kernel
theorem dL_law_1222 : decode cL_law 1222 = .ok (.aload_n 0, 1) := by decide +kernel
theorem dL_law_1223 : decode cL_law 1223 = .ok (.iload 4, 2) := by decide +kernel
theorem dL_law_1225 : decode cL_law 1225 = .ok (.iconst 3, 1) := by decide +kernel
theorem dL_law_1226 : decode cL_law 1226 = .ok (.iadd, 1) := by decide +kernel
theorem dL_law_1227 : decode cL_law 1227 = .ok (.iaload, 1) := by decide +kernel
theorem dL_law_1228 : decode cL_law 1228 = .ok (.i2l, 1) := by decide +kernel
theorem dL_law_1229 : decode cL_law 1229 = .ok (.ldc2_w 107, 3) := by decide +kernel
theorem dL_law_1232 : decode cL_law 1232 = .ok (.land, 1) := by decide +kernel
theorem dL_law_1233 : decode cL_law 1233 = .ok (.lor, 1) := by decide +kernel
theorem dL_law_1234 : decode cL_law 1234 = .ok (.invokevirtual 150, 3) := by decide +kernel
theorem dL_law_1237 : decode cL_law 1237 = .ok (.istore 6, 2) := by decide +kernel
theorem dL_law_1239 : decode cL_law 1239 = .ok (.aload_n 2, 1) := by decide +kernel
theorem dL_law_1240 : decode cL_law 1240 = .ok (.invokevirtual 96, 3) := by decide +kernel
theorem dL_law_1243 : decode cL_law 1243 = .ok (.iload 5, 2) := by decide +kernel
theorem dL_law_1245 : decode cL_law 1245 = .ok (.if_icmp .eq 5, 3) := by decide +kernel
theorem dL_law_1248 : decode cL_law 1248 = .ok (.iconst 0, 1) := by decide +kernel
theorem dL_law_1249 : decode cL_law 1249 = .ok (.ireturn, 1) := by decide +kernel
theorem dL_law_1250 : decode cL_law 1250 = .ok (.iload 5, 2) := by decide +kernel
theorem dL_law_1252 : decode cL_law 1252 = .ok (.ifCond .ne 15, 3) := by decide +kernel
theorem dL_law_1255 : decode cL_law 1255 = .ok (.aload_n 3, 1) := by decide +kernel
theorem dL_law_1256 : decode cL_law 1256 = .ok (.iconst 0, 1) := by decide +kernel
theorem dL_law_1257 : decode cL_law 1257 = .ok (.laload, 1) := by decide +kernel
theorem dL_law_1258 : decode cL_law 1258 = .ok (.iload 6, 2) := by decide +kernel
theorem dL_law_1260 : decode cL_law 1260 = .ok (.i2l, 1) := by decide +kernel
theorem dL_law_1261 : decode cL_law 1261 = .ok (.lcmp, 1) := by decide +kernel
theorem dL_law_1262 : decode cL_law 1262 = .ok (.ifCond .eq 5, 3) := by decide +kernel
theorem dL_law_1265 : decode cL_law 1265 = .ok (.iconst 0, 1) := by decide +kernel
theorem dL_law_1266 : decode cL_law 1266 = .ok (.ireturn, 1) := by decide +kernel
theorem dL_law_1267 : decode cL_law 1267 = .ok (.goto 195, 3) := by decide +kernel
theorem dL_law_1270 : decode cL_law 1270 = .ok (.aload_n 1, 1) := by decide +kernel
theorem dL_law_1271 : decode cL_law 1271 = .ok (.aload_n 0, 1) := by decide +kernel
theorem dL_law_1272 : decode cL_law 1272 = .ok (.iload 4, 2) := by decide +kernel
theorem dL_law_1274 : decode cL_law 1274 = .ok (.iconst 1, 1) := by decide +kernel
theorem dL_law_1275 : decode cL_law 1275 = .ok (.iadd, 1) := by decide +kernel
theorem dL_law_1276 : decode cL_law 1276 = .ok (.iaload, 1) := by decide +kernel
theorem dL_law_1277 : decode cL_law 1277 = .ok (.aload_n 3, 1) := by decide +kernel
theorem dL_law_1278 : decode cL_law 1278 = .ok (.invokestatic 151, 3) := by decide +kernel
theorem dL_law_1281 : decode cL_law 1281 = .ok (.istore 5, 2) := by decide +kernel
theorem dL_law_1283 : decode cL_law 1283 = .ok (.aload_n 2, 1) := by decide +kernel
theorem dL_law_1284 : decode cL_law 1284 = .ok (.aload_n 0, 1) := by decide +kernel
theorem dL_law_1285 : decode cL_law 1285 = .ok (.iload 4, 2) := by decide +kernel
theorem dL_law_1287 : decode cL_law 1287 = .ok (.iconst 1, 1) := by decide +kernel
theorem dL_law_1288 : decode cL_law 1288 = .ok (.iadd, 1) := by decide +kernel
theorem dL_law_1289 : decode cL_law 1289 = .ok (.iaload, 1) := by decide +kernel
theorem dL_law_1290 : decode cL_law 1290 = .ok (.invokevirtual 153, 3) := by decide +kernel
theorem dL_law_1293 : decode cL_law 1293 = .ok (.istore 6, 2) := by decide +kernel
theorem dL_law_1295 : decode cL_law 1295 = .ok (.aload_n 2, 1) := by decide +kernel
theorem dL_law_1296 : decode cL_law 1296 = .ok (.invokevirtual 96, 3) := by decide +kernel
theorem dL_law_1299 : decode cL_law 1299 = .ok (.iload 5, 2) := by decide +kernel
theorem dL_law_1301 : decode cL_law 1301 = .ok (.if_icmp .eq 5, 3) := by decide +kernel
theorem dL_law_1304 : decode cL_law 1304 = .ok (.iconst 0, 1) := by decide +kernel
theorem dL_law_1305 : decode cL_law 1305 = .ok (.ireturn, 1) := by decide +kernel
theorem dL_law_1306 : decode cL_law 1306 = .ok (.iload 5, 2) := by decide +kernel
theorem dL_law_1308 : decode cL_law 1308 = .ok (.ifCond .ne 15, 3) := by decide +kernel
theorem dL_law_1311 : decode cL_law 1311 = .ok (.aload_n 3, 1) := by decide +kernel
theorem dL_law_1312 : decode cL_law 1312 = .ok (.iconst 0, 1) := by decide +kernel
theorem dL_law_1313 : decode cL_law 1313 = .ok (.laload, 1) := by decide +kernel
theorem dL_law_1314 : decode cL_law 1314 = .ok (.iload 6, 2) := by decide +kernel
theorem dL_law_1316 : decode cL_law 1316 = .ok (.i2l, 1) := by decide +kernel
theorem dL_law_1317 : decode cL_law 1317 = .ok (.lcmp, 1) := by decide +kernel
theorem dL_law_1318 : decode cL_law 1318 = .ok (.ifCond .eq 5, 3) := by decide +kernel
theorem dL_law_1321 : decode cL_law 1321 = .ok (.iconst 0, 1) := by decide +kernel
theorem dL_law_1322 : decode cL_law 1322 = .ok (.ireturn, 1) := by decide +kernel
theorem dL_law_1323 : decode cL_law 1323 = .ok (.goto 139, 3) := by decide +kernel
theorem dL_law_1326 : decode cL_law 1326 = .ok (.aload_n 1, 1) := by decide +kernel
theorem dL_law_1327 : decode cL_law 1327 = .ok (.aload_n 0, 1) := by decide +kernel
theorem dL_law_1328 : decode cL_law 1328 = .ok (.iload 4, 2) := by decide +kernel
theorem dL_law_1330 : decode cL_law 1330 = .ok (.iconst 1, 1) := by decide +kernel
theorem dL_law_1331 : decode cL_law 1331 = .ok (.iadd, 1) := by decide +kernel
theorem dL_law_1332 : decode cL_law 1332 = .ok (.iaload, 1) := by decide +kernel
theorem dL_law_1333 : decode cL_law 1333 = .ok (.aload_n 3, 1) := by decide +kernel
theorem dL_law_1334 : decode cL_law 1334 = .ok (.invokestatic 154, 3) := by decide +kernel
theorem dL_law_1337 : decode cL_law 1337 = .ok (.istore 5, 2) := by decide +kernel
theorem dL_law_1339 : decode cL_law 1339 = .ok (.aload_n 2, 1) := by decide +kernel
theorem dL_law_1340 : decode cL_law 1340 = .ok (.aload_n 0, 1) := by decide +kernel
theorem dL_law_1341 : decode cL_law 1341 = .ok (.iload 4, 2) := by decide +kernel
theorem dL_law_1343 : decode cL_law 1343 = .ok (.iconst 1, 1) := by decide +kernel
theorem dL_law_1344 : decode cL_law 1344 = .ok (.iadd, 1) := by decide +kernel
theorem dL_law_1345 : decode cL_law 1345 = .ok (.iaload, 1) := by decide +kernel
theorem dL_law_1346 : decode cL_law 1346 = .ok (.invokevirtual 156, 3) := by decide +kernel
theorem dL_law_1349 : decode cL_law 1349 = .ok (.istore 6, 2) := by decide +kernel
theorem dL_law_1351 : decode cL_law 1351 = .ok (.aload_n 2, 1) := by decide +kernel
theorem dL_law_1352 : decode cL_law 1352 = .ok (.invokevirtual 96, 3) := by decide +kernel
theorem dL_law_1355 : decode cL_law 1355 = .ok (.iload 5, 2) := by decide +kernel
theorem dL_law_1357 : decode cL_law 1357 = .ok (.if_icmp .eq 5, 3) := by decide +kernel
theorem dL_law_1360 : decode cL_law 1360 = .ok (.iconst 0, 1) := by decide +kernel
theorem dL_law_1361 : decode cL_law 1361 = .ok (.ireturn, 1) := by decide +kernel
theorem dL_law_1362 : decode cL_law 1362 = .ok (.iload 5, 2) := by decide +kernel
theorem dL_law_1364 : decode cL_law 1364 = .ok (.ifCond .ne 15, 3) := by decide +kernel
theorem dL_law_1367 : decode cL_law 1367 = .ok (.aload_n 3, 1) := by decide +kernel
theorem dL_law_1368 : decode cL_law 1368 = .ok (.iconst 0, 1) := by decide +kernel
theorem dL_law_1369 : decode cL_law 1369 = .ok (.laload, 1) := by decide +kernel
theorem dL_law_1370 : decode cL_law 1370 = .ok (.iload 6, 2) := by decide +kernel
theorem dL_law_1372 : decode cL_law 1372 = .ok (.i2l, 1) := by decide +kernel
theorem dL_law_1373 : decode cL_law 1373 = .ok (.lcmp, 1) := by decide +kernel
theorem dL_law_1374 : decode cL_law 1374 = .ok (.ifCond .eq 5, 3) := by decide +kernel
theorem dL_law_1377 : decode cL_law 1377 = .ok (.iconst 0, 1) := by decide +kernel
theorem dL_law_1378 : decode cL_law 1378 = .ok (.ireturn, 1) := by decide +kernel
theorem dL_law_1379 : decode cL_law 1379 = .ok (.goto 83, 3) := by decide +kernel
theorem dL_law_1382 : decode cL_law 1382 = .ok (.aload_n 1, 1) := by decide +kernel
theorem dL_law_1383 : decode cL_law 1383 = .ok (.aload_n 0, 1) := by decide +kernel
theorem dL_law_1384 : decode cL_law 1384 = .ok (.iload 4, 2) := by decide +kernel
theorem dL_law_1386 : decode cL_law 1386 = .ok (.iconst 1, 1) := by decide +kernel
theorem dL_law_1387 : decode cL_law 1387 = .ok (.iadd, 1) := by decide +kernel
theorem dL_law_1388 : decode cL_law 1388 = .ok (.iaload, 1) := by decide +kernel
theorem dL_law_1389 : decode cL_law 1389 = .ok (.invokestatic 157, 3) := by decide +kernel
theorem dL_law_1392 : decode cL_law 1392 = .ok (.istore 5, 2) := by decide +kernel
theorem dL_law_1394 : decode cL_law 1394 = .ok (.aload_n 2, 1) := by decide +kernel
theorem dL_law_1395 : decode cL_law 1395 = .ok (.aload_n 0, 1) := by decide +kernel
theorem dL_law_1396 : decode cL_law 1396 = .ok (.iload 4, 2) := by decide +kernel
theorem dL_law_1398 : decode cL_law 1398 = .ok (.iconst 1, 1) := by decide +kernel
theorem dL_law_1399 : decode cL_law 1399 = .ok (.iadd, 1) := by decide +kernel
theorem dL_law_1400 : decode cL_law 1400 = .ok (.iaload, 1) := by decide +kernel
theorem dL_law_1401 : decode cL_law 1401 = .ok (.invokevirtual 159, 3) := by decide +kernel
theorem dL_law_1404 : decode cL_law 1404 = .ok (.aload_n 2, 1) := by decide +kernel
theorem dL_law_1405 : decode cL_law 1405 = .ok (.invokevirtual 96, 3) := by decide +kernel
theorem dL_law_1408 : decode cL_law 1408 = .ok (.iload 5, 2) := by decide +kernel
theorem dL_law_1410 : decode cL_law 1410 = .ok (.if_icmp .eq 5, 3) := by decide +kernel
theorem dL_law_1413 : decode cL_law 1413 = .ok (.iconst 0, 1) := by decide +kernel
theorem dL_law_1414 : decode cL_law 1414 = .ok (.ireturn, 1) := by decide +kernel
theorem dL_law_1415 : decode cL_law 1415 = .ok (.goto 47, 3) := by decide +kernel
theorem dL_law_1418 : decode cL_law 1418 = .ok (.aload_n 1, 1) := by decide +kernel
theorem dL_law_1419 : decode cL_law 1419 = .ok (.aload_n 3, 1) := by decide +kernel
theorem dL_law_1420 : decode cL_law 1420 = .ok (.invokestatic 160, 3) := by decide +kernel
theorem dL_law_1423 : decode cL_law 1423 = .ok (.istore 5, 2) := by decide +kernel
theorem dL_law_1425 : decode cL_law 1425 = .ok (.aload_n 2, 1) := by decide +kernel
theorem dL_law_1426 : decode cL_law 1426 = .ok (.invokevirtual 163, 3) := by decide +kernel
theorem dL_law_1429 : decode cL_law 1429 = .ok (.istore 6, 2) := by decide +kernel
theorem dL_law_1431 : decode cL_law 1431 = .ok (.aload_n 2, 1) := by decide +kernel
theorem dL_law_1432 : decode cL_law 1432 = .ok (.invokevirtual 96, 3) := by decide +kernel
theorem dL_law_1435 : decode cL_law 1435 = .ok (.iload 5, 2) := by decide +kernel
theorem dL_law_1437 : decode cL_law 1437 = .ok (.if_icmp .eq 5, 3) := by decide +kernel
theorem dL_law_1440 : decode cL_law 1440 = .ok (.iconst 0, 1) := by decide +kernel
theorem dL_law_1441 : decode cL_law 1441 = .ok (.ireturn, 1) := by decide +kernel
theorem dL_law_1442 : decode cL_law 1442 = .ok (.iload 5, 2) := by decide +kernel
theorem dL_law_1444 : decode cL_law 1444 = .ok (.ifCond .ne 15, 3) := by decide +kernel
theorem dL_law_1447 : decode cL_law 1447 = .ok (.aload_n 3, 1) := by decide +kernel
theorem dL_law_1448 : decode cL_law 1448 = .ok (.iconst 0, 1) := by decide +kernel
theorem dL_law_1449 : decode cL_law 1449 = .ok (.laload, 1) := by decide +kernel
theorem dL_law_1450 : decode cL_law 1450 = .ok (.iload 6, 2) := by decide +kernel
theorem dL_law_1452 : decode cL_law 1452 = .ok (.i2l, 1) := by decide +kernel
theorem dL_law_1453 : decode cL_law 1453 = .ok (.lcmp, 1) := by decide +kernel
theorem dL_law_1454 : decode cL_law 1454 = .ok (.ifCond .eq 5, 3) := by decide +kernel
theorem dL_law_1457 : decode cL_law 1457 = .ok (.iconst 0, 1) := by decide +kernel
theorem dL_law_1458 : decode cL_law 1458 = .ok (.ireturn, 1) := by decide +kernel
theorem dL_law_1459 : decode cL_law 1459 = .ok (.goto 3, 3) := by decide +kernel
theorem dL_law_1462 : decode cL_law 1462 = .ok (.iinc 4 9, 3) := by decide +kernel
theorem dL_law_1465 : decode cL_law 1465 = .ok (.goto (-1412), 3) := by decide +kernel
theorem dL_law_1468 : decode cL_law 1468 = .ok (.iconst 1, 1) := by decide +kernel
theorem dL_law_1469 : decode cL_law 1469 = .ok (.ireturn, 1) := by decide +kernel
abbrev vwCl : List vw_C := [(RX0, TX0, 9), (RX1, TX1, 3), (RX2, TX2, 9), (RX3, TX3, 5), (RX4, TX4, 8), (RX5, TX5, 7), (RX6, TX6, 2), (RX7, TX7, 13), (RX8, TX8, 5), (RX9, TX9, 13), (RX10, TX10, 57)]
