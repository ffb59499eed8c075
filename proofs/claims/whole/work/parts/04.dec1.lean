theorem dX0_init_0 : decode cX0_init 0 = .ok (.aload_n 0, 1) := by decide +kernel
theorem dX0_init_1 : decode cX0_init 1 = .ok (.invokespecial 3, 3) := by decide +kernel
theorem dX0_init_4 : decode cX0_init 4 = .ok (.aload_n 0, 1) := by decide +kernel
theorem dX0_init_5 : decode cX0_init 5 = .ok (.iload_n 2, 1) := by decide +kernel
theorem dX0_init_6 : decode cX0_init 6 = .ok (.putfield 9, 3) := by decide +kernel
theorem dX0_init_9 : decode cX0_init 9 = .ok (.aload_n 0, 1) := by decide +kernel
theorem dX0_init_10 : decode cX0_init 10 = .ok (.iconst 0, 1) := by decide +kernel
theorem dX0_init_11 : decode cX0_init 11 = .ok (.iload_n 1, 1) := by decide +kernel
theorem dX0_init_12 : decode cX0_init 12 = .ok (.iload_n 2, 1) := by decide +kernel
theorem dX0_init_13 : decode cX0_init 13 = .ok (.imul, 1) := by decide +kernel
theorem dX0_init_14 : decode cX0_init 14 = .ok (.invokestatic 15, 3) := by decide +kernel
theorem dX0_init_17 : decode cX0_init 17 = .ok (.newarray .long, 2) := by decide +kernel
theorem dX0_init_19 : decode cX0_init 19 = .ok (.putfield 21, 3) := by decide +kernel
theorem dX0_init_22 : decode cX0_init 22 = .ok (.aload_n 0, 1) := by decide +kernel
theorem dX0_init_23 : decode cX0_init 23 = .ok (.iconst 0, 1) := by decide +kernel
theorem dX0_init_24 : decode cX0_init 24 = .ok (.iload_n 1, 1) := by decide +kernel
theorem dX0_init_25 : decode cX0_init 25 = .ok (.invokestatic 15, 3) := by decide +kernel
theorem dX0_init_28 : decode cX0_init 28 = .ok (.newarray .boolean, 2) := by decide +kernel
theorem dX0_init_30 : decode cX0_init 30 = .ok (.putfield 25, 3) := by decide +kernel
theorem dX0_init_33 : decode cX0_init 33 = .ok (.aload_n 0, 1) := by decide +kernel
theorem dX0_init_34 : decode cX0_init 34 = .ok (.iconst (-1), 1) := by decide +kernel
theorem dX0_init_35 : decode cX0_init 35 = .ok (.putfield 29, 3) := by decide +kernel
theorem dX0_init_38 : decode cX0_init 38 = .ok (.return_, 1) := by decide +kernel
theorem dX0_cell_0 : decode cX0_cell 0 = .ok (.iload_n 1, 1) := by decide +kernel
theorem dX0_cell_1 : decode cX0_cell 1 = .ok (.ifCond .lt 21, 3) := by decide +kernel
theorem dX0_cell_4 : decode cX0_cell 4 = .ok (.iload_n 1, 1) := by decide +kernel
theorem dX0_cell_5 : decode cX0_cell 5 = .ok (.aload_n 0, 1) := by decide +kernel
theorem dX0_cell_6 : decode cX0_cell 6 = .ok (.getfield 21, 3) := by decide +kernel
theorem dX0_cell_9 : decode cX0_cell 9 = .ok (.arraylength, 1) := by decide +kernel
theorem dX0_cell_10 : decode cX0_cell 10 = .ok (.if_icmp .ge 12, 3) := by decide +kernel
theorem dX0_cell_13 : decode cX0_cell 13 = .ok (.aload_n 0, 1) := by decide +kernel
theorem dX0_cell_14 : decode cX0_cell 14 = .ok (.getfield 21, 3) := by decide +kernel
theorem dX0_cell_17 : decode cX0_cell 17 = .ok (.iload_n 1, 1) := by decide +kernel
theorem dX0_cell_18 : decode cX0_cell 18 = .ok (.laload, 1) := by decide +kernel
theorem dX0_cell_19 : decode cX0_cell 19 = .ok (.goto 4, 3) := by decide +kernel
theorem dX0_cell_22 : decode cX0_cell 22 = .ok (.lconst 0, 1) := by decide +kernel
theorem dX0_cell_23 : decode cX0_cell 23 = .ok (.lreturn, 1) := by decide +kernel
theorem dX0_freeBlocks_0 : decode cX0_freeBlocks 0 = .ok (.iconst 0, 1) := by decide +kernel
theorem dX0_freeBlocks_1 : decode cX0_freeBlocks 1 = .ok (.istore_n 1, 1) := by decide +kernel
theorem dX0_freeBlocks_2 : decode cX0_freeBlocks 2 = .ok (.iconst 0, 1) := by decide +kernel
theorem dX0_freeBlocks_3 : decode cX0_freeBlocks 3 = .ok (.istore_n 2, 1) := by decide +kernel
theorem dX0_freeBlocks_4 : decode cX0_freeBlocks 4 = .ok (.iload_n 2, 1) := by decide +kernel
theorem dX0_freeBlocks_5 : decode cX0_freeBlocks 5 = .ok (.aload_n 0, 1) := by decide +kernel
theorem dX0_freeBlocks_6 : decode cX0_freeBlocks 6 = .ok (.getfield 25, 3) := by decide +kernel
theorem dX0_freeBlocks_9 : decode cX0_freeBlocks 9 = .ok (.arraylength, 1) := by decide +kernel
theorem dX0_freeBlocks_10 : decode cX0_freeBlocks 10 = .ok (.if_icmp .ge 26, 3) := by decide +kernel
theorem dX0_freeBlocks_13 : decode cX0_freeBlocks 13 = .ok (.iload_n 1, 1) := by decide +kernel
theorem dX0_freeBlocks_14 : decode cX0_freeBlocks 14 = .ok (.aload_n 0, 1) := by decide +kernel
theorem dX0_freeBlocks_15 : decode cX0_freeBlocks 15 = .ok (.getfield 25, 3) := by decide +kernel
theorem dX0_freeBlocks_18 : decode cX0_freeBlocks 18 = .ok (.iload_n 2, 1) := by decide +kernel
theorem dX0_freeBlocks_19 : decode cX0_freeBlocks 19 = .ok (.baload, 1) := by decide +kernel
theorem dX0_freeBlocks_20 : decode cX0_freeBlocks 20 = .ok (.ifCond .eq 7, 3) := by decide +kernel
theorem dX0_freeBlocks_23 : decode cX0_freeBlocks 23 = .ok (.iconst 0, 1) := by decide +kernel
theorem dX0_freeBlocks_24 : decode cX0_freeBlocks 24 = .ok (.goto 4, 3) := by decide +kernel
theorem dX0_freeBlocks_27 : decode cX0_freeBlocks 27 = .ok (.iconst 1, 1) := by decide +kernel
theorem dX0_freeBlocks_28 : decode cX0_freeBlocks 28 = .ok (.iadd, 1) := by decide +kernel
theorem dX0_freeBlocks_29 : decode cX0_freeBlocks 29 = .ok (.istore_n 1, 1) := by decide +kernel
theorem dX0_freeBlocks_30 : decode cX0_freeBlocks 30 = .ok (.iinc 2 1, 3) := by decide +kernel
theorem dX0_freeBlocks_33 : decode cX0_freeBlocks 33 = .ok (.goto (-29), 3) := by decide +kernel
theorem dX0_freeBlocks_36 : decode cX0_freeBlocks 36 = .ok (.iload_n 1, 1) := by decide +kernel
theorem dX0_freeBlocks_37 : decode cX0_freeBlocks 37 = .ok (.ireturn, 1) := by decide +kernel
theorem dX0_leastFree_0 : decode cX0_leastFree 0 = .ok (.iconst 0, 1) := by decide +kernel
theorem dX0_leastFree_1 : decode cX0_leastFree 1 = .ok (.istore_n 1, 1) := by decide +kernel
theorem dX0_leastFree_2 : decode cX0_leastFree 2 = .ok (.iload_n 1, 1) := by decide +kernel
theorem dX0_leastFree_3 : decode cX0_leastFree 3 = .ok (.aload_n 0, 1) := by decide +kernel
theorem dX0_leastFree_4 : decode cX0_leastFree 4 = .ok (.getfield 25, 3) := by decide +kernel
theorem dX0_leastFree_7 : decode cX0_leastFree 7 = .ok (.arraylength, 1) := by decide +kernel
theorem dX0_leastFree_8 : decode cX0_leastFree 8 = .ok (.if_icmp .ge 20, 3) := by decide +kernel
theorem dX0_leastFree_11 : decode cX0_leastFree 11 = .ok (.aload_n 0, 1) := by decide +kernel
theorem dX0_leastFree_12 : decode cX0_leastFree 12 = .ok (.getfield 25, 3) := by decide +kernel
theorem dX0_leastFree_15 : decode cX0_leastFree 15 = .ok (.iload_n 1, 1) := by decide +kernel
theorem dX0_leastFree_16 : decode cX0_leastFree 16 = .ok (.baload, 1) := by decide +kernel
theorem dX0_leastFree_17 : decode cX0_leastFree 17 = .ok (.ifCond .ne 5, 3) := by decide +kernel
theorem dX0_leastFree_20 : decode cX0_leastFree 20 = .ok (.iload_n 1, 1) := by decide +kernel
theorem dX0_leastFree_21 : decode cX0_leastFree 21 = .ok (.ireturn, 1) := by decide +kernel
theorem dX0_leastFree_22 : decode cX0_leastFree 22 = .ok (.iinc 1 1, 3) := by decide +kernel
theorem dX0_leastFree_25 : decode cX0_leastFree 25 = .ok (.goto (-23), 3) := by decide +kernel
theorem dX0_leastFree_28 : decode cX0_leastFree 28 = .ok (.iconst (-1), 1) := by decide +kernel
theorem dX0_leastFree_29 : decode cX0_leastFree 29 = .ok (.ireturn, 1) := by decide +kernel
theorem dX0_release_0 : decode cX0_release 0 = .ok (.iload_n 1, 1) := by decide +kernel
theorem dX0_release_1 : decode cX0_release 1 = .ok (.ifCond .lt 19, 3) := by decide +kernel
theorem dX0_release_4 : decode cX0_release 4 = .ok (.iload_n 1, 1) := by decide +kernel
theorem dX0_release_5 : decode cX0_release 5 = .ok (.aload_n 0, 1) := by decide +kernel
theorem dX0_release_6 : decode cX0_release 6 = .ok (.getfield 25, 3) := by decide +kernel
theorem dX0_release_9 : decode cX0_release 9 = .ok (.arraylength, 1) := by decide +kernel
theorem dX0_release_10 : decode cX0_release 10 = .ok (.if_icmp .ge 10, 3) := by decide +kernel
theorem dX0_release_13 : decode cX0_release 13 = .ok (.aload_n 0, 1) := by decide +kernel
theorem dX0_release_14 : decode cX0_release 14 = .ok (.getfield 25, 3) := by decide +kernel
theorem dX0_release_17 : decode cX0_release 17 = .ok (.iload_n 1, 1) := by decide +kernel
theorem dX0_release_18 : decode cX0_release 18 = .ok (.iconst 0, 1) := by decide +kernel
theorem dX0_release_19 : decode cX0_release 19 = .ok (.bastore, 1) := by decide +kernel
theorem dX0_release_20 : decode cX0_release 20 = .ok (.return_, 1) := by decide +kernel
set_option maxRecDepth 20000 in
theorem ggX0_readBlock_X0_moveArm : GoodIn wsX0_readBlock wsX0_moveArm := goodIn_r _ [6, 7, 8, 9, 10, 11, 12, 13, 14, 15, 16, 17] (by decide +kernel) (by decide +kernel)
set_option maxRecDepth 20000 in
theorem gX0_readBlock_X0_moveArm : GoodIn wsX0_readBlock (wsV RX0 35 RX0 yX0_moveArm wsX0_moveArm) := goodIn_app (goodIn_of _ (by decide +kernel)) ggX0_readBlock_X0_moveArm
theorem dX0_readBlock_0 : decode cX0_readBlock 0 = .ok (.aload_n 0, 1) := by decide +kernel
theorem dX0_readBlock_1 : decode cX0_readBlock 1 = .ok (.dup, 1) := by decide +kernel
theorem dX0_readBlock_2 : decode cX0_readBlock 2 = .ok (.getfield 32, 3) := by decide +kernel
theorem dX0_readBlock_5 : decode cX0_readBlock 5 = .ok (.iconst 1, 1) := by decide +kernel
theorem dX0_readBlock_6 : decode cX0_readBlock 6 = .ok (.iadd, 1) := by decide +kernel
theorem dX0_readBlock_7 : decode cX0_readBlock 7 = .ok (.putfield 32, 3) := by decide +kernel
theorem dX0_readBlock_10 : decode cX0_readBlock 10 = .ok (.aload_n 0, 1) := by decide +kernel
theorem dX0_readBlock_11 : decode cX0_readBlock 11 = .ok (.iload_n 1, 1) := by decide +kernel
theorem dX0_readBlock_12 : decode cX0_readBlock 12 = .ok (.invokevirtual 35, 3) := by decide +kernel
theorem dX0_readBlock_15 : decode cX0_readBlock 15 = .ok (.return_, 1) := by decide +kernel
set_option maxRecDepth 20000 in
theorem ggX0_store_X0_leastFree : GoodIn wsX0_store wsX0_leastFree := goodIn_r _ [11, 1, 18, 19, 20, 21, 22, 23, 24, 25, 26] (by decide +kernel) (by decide +kernel)
set_option maxRecDepth 20000 in
theorem gX0_store_X0_leastFree : GoodIn wsX0_store (wsV RX0 39 RX0 yX0_leastFree wsX0_leastFree) := goodIn_app (goodIn_of _ (by decide +kernel)) ggX0_store_X0_leastFree
set_option maxRecDepth 20000 in
theorem ggX0_store_X0_moveArm : GoodIn wsX0_store wsX0_moveArm := goodIn_r _ [15, 16, 17, 18, 19, 20, 21, 22, 23, 24, 25, 26] (by decide +kernel) (by decide +kernel)
set_option maxRecDepth 20000 in
theorem gX0_store_X0_moveArm : GoodIn wsX0_store (wsV RX0 35 RX0 yX0_moveArm wsX0_moveArm) := goodIn_app (goodIn_of _ (by decide +kernel)) ggX0_store_X0_moveArm
theorem dX0_store_0 : decode cX0_store 0 = .ok (.aload_n 0, 1) := by decide +kernel
theorem dX0_store_1 : decode cX0_store 1 = .ok (.invokevirtual 39, 3) := by decide +kernel
theorem dX0_store_4 : decode cX0_store 4 = .ok (.istore_n 3, 1) := by decide +kernel
theorem dX0_store_5 : decode cX0_store 5 = .ok (.iload_n 3, 1) := by decide +kernel
theorem dX0_store_6 : decode cX0_store 6 = .ok (.ifCond .lt 12, 3) := by decide +kernel
theorem dX0_store_9 : decode cX0_store 9 = .ok (.iload_n 3, 1) := by decide +kernel
theorem dX0_store_10 : decode cX0_store 10 = .ok (.aload_n 0, 1) := by decide +kernel
theorem dX0_store_11 : decode cX0_store 11 = .ok (.getfield 25, 3) := by decide +kernel
theorem dX0_store_14 : decode cX0_store 14 = .ok (.arraylength, 1) := by decide +kernel
theorem dX0_store_15 : decode cX0_store 15 = .ok (.if_icmp .lt 5, 3) := by decide +kernel
theorem dX0_store_18 : decode cX0_store 18 = .ok (.iconst (-1), 1) := by decide +kernel
theorem dX0_store_19 : decode cX0_store 19 = .ok (.ireturn, 1) := by decide +kernel
theorem dX0_store_20 : decode cX0_store 20 = .ok (.aload_n 0, 1) := by decide +kernel
theorem dX0_store_21 : decode cX0_store 21 = .ok (.getfield 29, 3) := by decide +kernel
theorem dX0_store_24 : decode cX0_store 24 = .ok (.ifCond .ne 10, 3) := by decide +kernel
theorem dX0_store_27 : decode cX0_store 27 = .ok (.aload_n 0, 1) := by decide +kernel
theorem dX0_store_28 : decode cX0_store 28 = .ok (.iconst 1, 1) := by decide +kernel
theorem dX0_store_29 : decode cX0_store 29 = .ok (.putfield 43, 3) := by decide +kernel
theorem dX0_store_32 : decode cX0_store 32 = .ok (.iconst (-1), 1) := by decide +kernel
theorem dX0_store_33 : decode cX0_store 33 = .ok (.ireturn, 1) := by decide +kernel
theorem dX0_store_34 : decode cX0_store 34 = .ok (.aload_n 0, 1) := by decide +kernel
theorem dX0_store_35 : decode cX0_store 35 = .ok (.getfield 29, 3) := by decide +kernel
theorem dX0_store_38 : decode cX0_store 38 = .ok (.ifCond .le 13, 3) := by decide +kernel
theorem dX0_store_41 : decode cX0_store 41 = .ok (.aload_n 0, 1) := by decide +kernel
theorem dX0_store_42 : decode cX0_store 42 = .ok (.dup, 1) := by decide +kernel
theorem dX0_store_43 : decode cX0_store 43 = .ok (.getfield 29, 3) := by decide +kernel
theorem dX0_store_46 : decode cX0_store 46 = .ok (.iconst 1, 1) := by decide +kernel
theorem dX0_store_47 : decode cX0_store 47 = .ok (.isub, 1) := by decide +kernel
theorem dX0_store_48 : decode cX0_store 48 = .ok (.putfield 29, 3) := by decide +kernel
theorem dX0_store_51 : decode cX0_store 51 = .ok (.aload_n 0, 1) := by decide +kernel
theorem dX0_store_52 : decode cX0_store 52 = .ok (.getfield 25, 3) := by decide +kernel
theorem dX0_store_55 : decode cX0_store 55 = .ok (.iload_n 3, 1) := by decide +kernel
theorem dX0_store_56 : decode cX0_store 56 = .ok (.iconst 1, 1) := by decide +kernel
theorem dX0_store_57 : decode cX0_store 57 = .ok (.bastore, 1) := by decide +kernel
theorem dX0_store_58 : decode cX0_store 58 = .ok (.aload_n 0, 1) := by decide +kernel
theorem dX0_store_59 : decode cX0_store 59 = .ok (.dup, 1) := by decide +kernel
theorem dX0_store_60 : decode cX0_store 60 = .ok (.getfield 47, 3) := by decide +kernel
theorem dX0_store_63 : decode cX0_store 63 = .ok (.iconst 1, 1) := by decide +kernel
theorem dX0_store_64 : decode cX0_store 64 = .ok (.iadd, 1) := by decide +kernel
theorem dX0_store_65 : decode cX0_store 65 = .ok (.putfield 47, 3) := by decide +kernel
theorem dX0_store_68 : decode cX0_store 68 = .ok (.aload_n 0, 1) := by decide +kernel
theorem dX0_store_69 : decode cX0_store 69 = .ok (.iload_n 3, 1) := by decide +kernel
theorem dX0_store_70 : decode cX0_store 70 = .ok (.invokevirtual 35, 3) := by decide +kernel
theorem dX0_store_73 : decode cX0_store 73 = .ok (.iload_n 3, 1) := by decide +kernel
theorem dX0_store_74 : decode cX0_store 74 = .ok (.aload_n 0, 1) := by decide +kernel
theorem dX0_store_75 : decode cX0_store 75 = .ok (.getfield 9, 3) := by decide +kernel
theorem dX0_store_78 : decode cX0_store 78 = .ok (.imul, 1) := by decide +kernel
theorem dX0_store_79 : decode cX0_store 79 = .ok (.istore 4, 2) := by decide +kernel
theorem dX0_store_81 : decode cX0_store 81 = .ok (.iconst 0, 1) := by decide +kernel
theorem dX0_store_82 : decode cX0_store 82 = .ok (.istore 5, 2) := by decide +kernel
theorem dX0_store_84 : decode cX0_store 84 = .ok (.iload 5, 2) := by decide +kernel
theorem dX0_store_86 : decode cX0_store 86 = .ok (.iload_n 2, 1) := by decide +kernel
theorem dX0_store_87 : decode cX0_store 87 = .ok (.if_icmp .ge 43, 3) := by decide +kernel
theorem dX0_store_90 : decode cX0_store 90 = .ok (.iload 5, 2) := by decide +kernel
theorem dX0_store_92 : decode cX0_store 92 = .ok (.aload_n 1, 1) := by decide +kernel
theorem dX0_store_93 : decode cX0_store 93 = .ok (.arraylength, 1) := by decide +kernel
theorem dX0_store_94 : decode cX0_store 94 = .ok (.if_icmp .ge 36, 3) := by decide +kernel
theorem dX0_store_97 : decode cX0_store 97 = .ok (.iload 4, 2) := by decide +kernel
theorem dX0_store_99 : decode cX0_store 99 = .ok (.iload 5, 2) := by decide +kernel
theorem dX0_store_101 : decode cX0_store 101 = .ok (.iadd, 1) := by decide +kernel
theorem dX0_store_102 : decode cX0_store 102 = .ok (.aload_n 0, 1) := by decide +kernel
theorem dX0_store_103 : decode cX0_store 103 = .ok (.getfield 21, 3) := by decide +kernel
theorem dX0_store_106 : decode cX0_store 106 = .ok (.arraylength, 1) := by decide +kernel
theorem dX0_store_107 : decode cX0_store 107 = .ok (.if_icmp .ge 23, 3) := by decide +kernel
theorem dX0_store_110 : decode cX0_store 110 = .ok (.aload_n 0, 1) := by decide +kernel
theorem dX0_store_111 : decode cX0_store 111 = .ok (.getfield 21, 3) := by decide +kernel
theorem dX0_store_114 : decode cX0_store 114 = .ok (.iload 4, 2) := by decide +kernel
theorem dX0_store_116 : decode cX0_store 116 = .ok (.iload 5, 2) := by decide +kernel
theorem dX0_store_118 : decode cX0_store 118 = .ok (.iadd, 1) := by decide +kernel
theorem dX0_store_119 : decode cX0_store 119 = .ok (.aload_n 1, 1) := by decide +kernel
theorem dX0_store_120 : decode cX0_store 120 = .ok (.iload 5, 2) := by decide +kernel
theorem dX0_store_122 : decode cX0_store 122 = .ok (.laload, 1) := by decide +kernel
theorem dX0_store_123 : decode cX0_store 123 = .ok (.lastore, 1) := by decide +kernel
theorem dX0_store_124 : decode cX0_store 124 = .ok (.iinc 5 1, 3) := by decide +kernel
theorem dX0_store_127 : decode cX0_store 127 = .ok (.goto (-43), 3) := by decide +kernel
theorem dX0_store_130 : decode cX0_store 130 = .ok (.iload_n 3, 1) := by decide +kernel
theorem dX0_store_131 : decode cX0_store 131 = .ok (.ireturn, 1) := by decide +kernel
theorem dX0_moveArm_0 : decode cX0_moveArm 0 = .ok (.aload_n 0, 1) := by decide +kernel
theorem dX0_moveArm_1 : decode cX0_moveArm 1 = .ok (.dup, 1) := by decide +kernel
theorem dX0_moveArm_2 : decode cX0_moveArm 2 = .ok (.getfield 50, 3) := by decide +kernel
theorem dX0_moveArm_5 : decode cX0_moveArm 5 = .ok (.iload_n 1, 1) := by decide +kernel
theorem dX0_moveArm_6 : decode cX0_moveArm 6 = .ok (.aload_n 0, 1) := by decide +kernel
theorem dX0_moveArm_7 : decode cX0_moveArm 7 = .ok (.getfield 53, 3) := by decide +kernel
theorem dX0_moveArm_10 : decode cX0_moveArm 10 = .ok (.if_icmp .le 12, 3) := by decide +kernel
theorem dX0_moveArm_13 : decode cX0_moveArm 13 = .ok (.iload_n 1, 1) := by decide +kernel
theorem dX0_moveArm_14 : decode cX0_moveArm 14 = .ok (.aload_n 0, 1) := by decide +kernel
theorem dX0_moveArm_15 : decode cX0_moveArm 15 = .ok (.getfield 53, 3) := by decide +kernel
theorem dX0_moveArm_18 : decode cX0_moveArm 18 = .ok (.isub, 1) := by decide +kernel
theorem dX0_moveArm_19 : decode cX0_moveArm 19 = .ok (.goto 9, 3) := by decide +kernel
theorem dX0_moveArm_22 : decode cX0_moveArm 22 = .ok (.aload_n 0, 1) := by decide +kernel
theorem dX0_moveArm_23 : decode cX0_moveArm 23 = .ok (.getfield 53, 3) := by decide +kernel
theorem dX0_moveArm_26 : decode cX0_moveArm 26 = .ok (.iload_n 1, 1) := by decide +kernel
theorem dX0_moveArm_27 : decode cX0_moveArm 27 = .ok (.isub, 1) := by decide +kernel
theorem dX0_moveArm_28 : decode cX0_moveArm 28 = .ok (.iadd, 1) := by decide +kernel
theorem dX0_moveArm_29 : decode cX0_moveArm 29 = .ok (.putfield 50, 3) := by decide +kernel
theorem dX0_moveArm_32 : decode cX0_moveArm 32 = .ok (.aload_n 0, 1) := by decide +kernel
theorem dX0_moveArm_33 : decode cX0_moveArm 33 = .ok (.iload_n 1, 1) := by decide +kernel
theorem dX0_moveArm_34 : decode cX0_moveArm 34 = .ok (.putfield 53, 3) := by decide +kernel
theorem dX0_moveArm_37 : decode cX0_moveArm 37 = .ok (.return_, 1) := by decide +kernel
theorem dX1_init_0 : decode cX1_init 0 = .ok (.aload_n 0, 1) := by decide +kernel
theorem dX1_init_1 : decode cX1_init 1 = .ok (.invokespecial 3, 3) := by decide +kernel
theorem dX1_init_4 : decode cX1_init 4 = .ok (.aload_n 0, 1) := by decide +kernel
theorem dX1_init_5 : decode cX1_init 5 = .ok (.aload_n 1, 1) := by decide +kernel
theorem dX1_init_6 : decode cX1_init 6 = .ok (.putfield 9, 3) := by decide +kernel
theorem dX1_init_9 : decode cX1_init 9 = .ok (.aload_n 0, 1) := by decide +kernel
theorem dX1_init_10 : decode cX1_init 10 = .ok (.iconst 0, 1) := by decide +kernel
theorem dX1_init_11 : decode cX1_init 11 = .ok (.iload_n 2, 1) := by decide +kernel
theorem dX1_init_12 : decode cX1_init 12 = .ok (.invokestatic 15, 3) := by decide +kernel
theorem dX1_init_15 : decode cX1_init 15 = .ok (.newarray .int, 2) := by decide +kernel
theorem dX1_init_17 : decode cX1_init 17 = .ok (.putfield 21, 3) := by decide +kernel
theorem dX1_init_20 : decode cX1_init 20 = .ok (.aload_n 0, 1) := by decide +kernel
theorem dX1_init_21 : decode cX1_init 21 = .ok (.iconst 0, 1) := by decide +kernel
theorem dX1_init_22 : decode cX1_init 22 = .ok (.iload_n 2, 1) := by decide +kernel
theorem dX1_init_23 : decode cX1_init 23 = .ok (.invokestatic 15, 3) := by decide +kernel
theorem dX1_init_26 : decode cX1_init 26 = .ok (.newarray .int, 2) := by decide +kernel
theorem dX1_init_28 : decode cX1_init 28 = .ok (.putfield 25, 3) := by decide +kernel
theorem dX1_init_31 : decode cX1_init 31 = .ok (.return_, 1) := by decide +kernel
theorem dX1_heldBy_0 : decode cX1_heldBy 0 = .ok (.iload_n 1, 1) := by decide +kernel
theorem dX1_heldBy_1 : decode cX1_heldBy 1 = .ok (.ifCond .lt 21, 3) := by decide +kernel
theorem dX1_heldBy_4 : decode cX1_heldBy 4 = .ok (.iload_n 1, 1) := by decide +kernel
theorem dX1_heldBy_5 : decode cX1_heldBy 5 = .ok (.aload_n 0, 1) := by decide +kernel
theorem dX1_heldBy_6 : decode cX1_heldBy 6 = .ok (.getfield 25, 3) := by decide +kernel
theorem dX1_heldBy_9 : decode cX1_heldBy 9 = .ok (.arraylength, 1) := by decide +kernel
theorem dX1_heldBy_10 : decode cX1_heldBy 10 = .ok (.if_icmp .ge 12, 3) := by decide +kernel
theorem dX1_heldBy_13 : decode cX1_heldBy 13 = .ok (.aload_n 0, 1) := by decide +kernel
theorem dX1_heldBy_14 : decode cX1_heldBy 14 = .ok (.getfield 25, 3) := by decide +kernel
theorem dX1_heldBy_17 : decode cX1_heldBy 17 = .ok (.iload_n 1, 1) := by decide +kernel
theorem dX1_heldBy_18 : decode cX1_heldBy 18 = .ok (.iaload, 1) := by decide +kernel
theorem dX1_heldBy_19 : decode cX1_heldBy 19 = .ok (.goto 4, 3) := by decide +kernel
theorem dX1_heldBy_22 : decode cX1_heldBy 22 = .ok (.iconst 0, 1) := by decide +kernel
theorem dX1_heldBy_23 : decode cX1_heldBy 23 = .ok (.ireturn, 1) := by decide +kernel
theorem dX1_setHeld_0 : decode cX1_setHeld 0 = .ok (.iload_n 1, 1) := by decide +kernel
theorem dX1_setHeld_1 : decode cX1_setHeld 1 = .ok (.ifCond .lt 19, 3) := by decide +kernel
theorem dX1_setHeld_4 : decode cX1_setHeld 4 = .ok (.iload_n 1, 1) := by decide +kernel
theorem dX1_setHeld_5 : decode cX1_setHeld 5 = .ok (.aload_n 0, 1) := by decide +kernel
theorem dX1_setHeld_6 : decode cX1_setHeld 6 = .ok (.getfield 25, 3) := by decide +kernel
theorem dX1_setHeld_9 : decode cX1_setHeld 9 = .ok (.arraylength, 1) := by decide +kernel
theorem dX1_setHeld_10 : decode cX1_setHeld 10 = .ok (.if_icmp .ge 10, 3) := by decide +kernel
theorem dX1_setHeld_13 : decode cX1_setHeld 13 = .ok (.aload_n 0, 1) := by decide +kernel
theorem dX1_setHeld_14 : decode cX1_setHeld 14 = .ok (.getfield 25, 3) := by decide +kernel
theorem dX1_setHeld_17 : decode cX1_setHeld 17 = .ok (.iload_n 1, 1) := by decide +kernel
theorem dX1_setHeld_18 : decode cX1_setHeld 18 = .ok (.iload_n 2, 1) := by decide +kernel
theorem dX1_setHeld_19 : decode cX1_setHeld 19 = .ok (.iastore, 1) := by decide +kernel
theorem dX1_setHeld_20 : decode cX1_setHeld 20 = .ok (.return_, 1) := by decide +kernel
theorem dX1_behind_0 : decode cX1_behind 0 = .ok (.iload_n 1, 1) := by decide +kernel
theorem dX1_behind_1 : decode cX1_behind 1 = .ok (.ifCond .lt 21, 3) := by decide +kernel
theorem dX1_behind_4 : decode cX1_behind 4 = .ok (.iload_n 1, 1) := by decide +kernel
theorem dX1_behind_5 : decode cX1_behind 5 = .ok (.aload_n 0, 1) := by decide +kernel
theorem dX1_behind_6 : decode cX1_behind 6 = .ok (.getfield 21, 3) := by decide +kernel
theorem dX1_behind_9 : decode cX1_behind 9 = .ok (.arraylength, 1) := by decide +kernel
theorem dX1_behind_10 : decode cX1_behind 10 = .ok (.if_icmp .ge 12, 3) := by decide +kernel
theorem dX1_behind_13 : decode cX1_behind 13 = .ok (.aload_n 0, 1) := by decide +kernel
theorem dX1_behind_14 : decode cX1_behind 14 = .ok (.getfield 21, 3) := by decide +kernel
theorem dX1_behind_17 : decode cX1_behind 17 = .ok (.iload_n 1, 1) := by decide +kernel
theorem dX1_behind_18 : decode cX1_behind 18 = .ok (.iaload, 1) := by decide +kernel
theorem dX1_behind_19 : decode cX1_behind 19 = .ok (.goto 4, 3) := by decide +kernel
theorem dX1_behind_22 : decode cX1_behind 22 = .ok (.iconst (-1), 1) := by decide +kernel
theorem dX1_behind_23 : decode cX1_behind 23 = .ok (.ireturn, 1) := by decide +kernel
theorem dX1_join_0 : decode cX1_join 0 = .ok (.iload_n 1, 1) := by decide +kernel
theorem dX1_join_1 : decode cX1_join 1 = .ok (.ifCond .lt 19, 3) := by decide +kernel
theorem dX1_join_4 : decode cX1_join 4 = .ok (.iload_n 1, 1) := by decide +kernel
theorem dX1_join_5 : decode cX1_join 5 = .ok (.aload_n 0, 1) := by decide +kernel
theorem dX1_join_6 : decode cX1_join 6 = .ok (.getfield 21, 3) := by decide +kernel
theorem dX1_join_9 : decode cX1_join 9 = .ok (.arraylength, 1) := by decide +kernel
theorem dX1_join_10 : decode cX1_join 10 = .ok (.if_icmp .ge 10, 3) := by decide +kernel
theorem dX1_join_13 : decode cX1_join 13 = .ok (.aload_n 0, 1) := by decide +kernel
theorem dX1_join_14 : decode cX1_join 14 = .ok (.getfield 21, 3) := by decide +kernel
theorem dX1_join_17 : decode cX1_join 17 = .ok (.iload_n 1, 1) := by decide +kernel
theorem dX1_join_18 : decode cX1_join 18 = .ok (.iload_n 2, 1) := by decide +kernel
theorem dX1_join_19 : decode cX1_join 19 = .ok (.iastore, 1) := by decide +kernel
theorem dX1_join_20 : decode cX1_join 20 = .ok (.iload_n 2, 1) := by decide +kernel
theorem dX1_join_21 : decode cX1_join 21 = .ok (.ifCond .lt 19, 3) := by decide +kernel
theorem dX1_join_24 : decode cX1_join 24 = .ok (.iload_n 2, 1) := by decide +kernel
theorem dX1_join_25 : decode cX1_join 25 = .ok (.aload_n 0, 1) := by decide +kernel
theorem dX1_join_26 : decode cX1_join 26 = .ok (.getfield 21, 3) := by decide +kernel
theorem dX1_join_29 : decode cX1_join 29 = .ok (.arraylength, 1) := by decide +kernel
theorem dX1_join_30 : decode cX1_join 30 = .ok (.if_icmp .ge 10, 3) := by decide +kernel
theorem dX1_join_33 : decode cX1_join 33 = .ok (.aload_n 0, 1) := by decide +kernel
theorem dX1_join_34 : decode cX1_join 34 = .ok (.getfield 21, 3) := by decide +kernel
theorem dX1_join_37 : decode cX1_join 37 = .ok (.iload_n 2, 1) := by decide +kernel
theorem dX1_join_38 : decode cX1_join 38 = .ok (.iconst (-1), 1) := by decide +kernel
theorem dX1_join_39 : decode cX1_join 39 = .ok (.iastore, 1) := by decide +kernel
theorem dX1_join_40 : decode cX1_join 40 = .ok (.return_, 1) := by decide +kernel
set_option maxRecDepth 20000 in
theorem ggX1_blockAt_X1_behind : GoodIn wsX1_blockAt wsX1_behind := goodIn_r _ [6, 1, 7, 8, 9] (by decide +kernel) (by decide +kernel)
set_option maxRecDepth 20000 in
theorem gX1_blockAt_X1_behind : GoodIn wsX1_blockAt (wsV RX1 28 RX1 yX1_behind wsX1_behind) := goodIn_app (goodIn_of _ (by decide +kernel)) ggX1_blockAt_X1_behind
theorem dX1_blockAt_0 : decode cX1_blockAt 0 = .ok (.iload_n 2, 1) := by decide +kernel
theorem dX1_blockAt_1 : decode cX1_blockAt 1 = .ok (.ifCond .lt 12, 3) := by decide +kernel
theorem dX1_blockAt_4 : decode cX1_blockAt 4 = .ok (.iload_n 2, 1) := by decide +kernel
theorem dX1_blockAt_5 : decode cX1_blockAt 5 = .ok (.aload_n 0, 1) := by decide +kernel
theorem dX1_blockAt_6 : decode cX1_blockAt 6 = .ok (.getfield 21, 3) := by decide +kernel
theorem dX1_blockAt_9 : decode cX1_blockAt 9 = .ok (.arraylength, 1) := by decide +kernel
theorem dX1_blockAt_10 : decode cX1_blockAt 10 = .ok (.if_icmp .lt 5, 3) := by decide +kernel
theorem dX1_blockAt_13 : decode cX1_blockAt 13 = .ok (.iconst (-1), 1) := by decide +kernel
theorem dX1_blockAt_14 : decode cX1_blockAt 14 = .ok (.ireturn, 1) := by decide +kernel
theorem dX1_blockAt_15 : decode cX1_blockAt 15 = .ok (.iload_n 1, 1) := by decide +kernel
theorem dX1_blockAt_16 : decode cX1_blockAt 16 = .ok (.istore_n 3, 1) := by decide +kernel
theorem dX1_blockAt_17 : decode cX1_blockAt 17 = .ok (.iconst 0, 1) := by decide +kernel
theorem dX1_blockAt_18 : decode cX1_blockAt 18 = .ok (.istore 4, 2) := by decide +kernel
theorem dX1_blockAt_20 : decode cX1_blockAt 20 = .ok (.iload 4, 2) := by decide +kernel
theorem dX1_blockAt_22 : decode cX1_blockAt 22 = .ok (.iload_n 2, 1) := by decide +kernel
theorem dX1_blockAt_23 : decode cX1_blockAt 23 = .ok (.if_icmp .ge 15, 3) := by decide +kernel
theorem dX1_blockAt_26 : decode cX1_blockAt 26 = .ok (.aload_n 0, 1) := by decide +kernel
theorem dX1_blockAt_27 : decode cX1_blockAt 27 = .ok (.iload_n 3, 1) := by decide +kernel
theorem dX1_blockAt_28 : decode cX1_blockAt 28 = .ok (.invokevirtual 28, 3) := by decide +kernel
theorem dX1_blockAt_31 : decode cX1_blockAt 31 = .ok (.istore_n 3, 1) := by decide +kernel
theorem dX1_blockAt_32 : decode cX1_blockAt 32 = .ok (.iinc 4 1, 3) := by decide +kernel
theorem dX1_blockAt_35 : decode cX1_blockAt 35 = .ok (.goto (-15), 3) := by decide +kernel
theorem dX1_blockAt_38 : decode cX1_blockAt 38 = .ok (.iload_n 3, 1) := by decide +kernel
theorem dX1_blockAt_39 : decode cX1_blockAt 39 = .ok (.ireturn, 1) := by decide +kernel
set_option maxRecDepth 20000 in
theorem ggX1_remove_X0_release : GoodIn wsX1_remove wsX0_release := goodIn_r _ [7, 8, 17, 18, 19, 20, 21, 22, 23, 24, 25] (by decide +kernel) (by decide +kernel)
set_option maxRecDepth 20000 in
theorem gX1_remove_X0_release : GoodIn wsX1_remove (wsV RX1 32 RX0 yX0_release wsX0_release) := goodIn_app (goodIn_of _ (by decide +kernel)) ggX1_remove_X0_release
set_option maxRecDepth 20000 in
theorem ggX1_remove_X1_behind : GoodIn wsX1_remove wsX1_behind := goodIn_r _ [13, 1, 14, 15, 16] (by decide +kernel) (by decide +kernel)
set_option maxRecDepth 20000 in
theorem gX1_remove_X1_behind : GoodIn wsX1_remove (wsV RX1 28 RX1 yX1_behind wsX1_behind) := goodIn_app (goodIn_of _ (by decide +kernel)) ggX1_remove_X1_behind
theorem dX1_remove_0 : decode cX1_remove 0 = .ok (.iload_n 1, 1) := by decide +kernel
theorem dX1_remove_1 : decode cX1_remove 1 = .ok (.istore_n 2, 1) := by decide +kernel
theorem dX1_remove_2 : decode cX1_remove 2 = .ok (.iconst 0, 1) := by decide +kernel
theorem dX1_remove_3 : decode cX1_remove 3 = .ok (.istore_n 3, 1) := by decide +kernel
theorem dX1_remove_4 : decode cX1_remove 4 = .ok (.iload_n 3, 1) := by decide +kernel
theorem dX1_remove_5 : decode cX1_remove 5 = .ok (.aload_n 0, 1) := by decide +kernel
theorem dX1_remove_6 : decode cX1_remove 6 = .ok (.getfield 21, 3) := by decide +kernel
theorem dX1_remove_9 : decode cX1_remove 9 = .ok (.arraylength, 1) := by decide +kernel
theorem dX1_remove_10 : decode cX1_remove 10 = .ok (.if_icmp .ge 28, 3) := by decide +kernel
theorem dX1_remove_13 : decode cX1_remove 13 = .ok (.iload_n 2, 1) := by decide +kernel
theorem dX1_remove_14 : decode cX1_remove 14 = .ok (.iconst (-1), 1) := by decide +kernel
theorem dX1_remove_15 : decode cX1_remove 15 = .ok (.if_icmp .eq 23, 3) := by decide +kernel
theorem dX1_remove_18 : decode cX1_remove 18 = .ok (.aload_n 0, 1) := by decide +kernel
theorem dX1_remove_19 : decode cX1_remove 19 = .ok (.getfield 9, 3) := by decide +kernel
theorem dX1_remove_22 : decode cX1_remove 22 = .ok (.iload_n 2, 1) := by decide +kernel
theorem dX1_remove_23 : decode cX1_remove 23 = .ok (.invokevirtual 32, 3) := by decide +kernel
theorem dX1_remove_26 : decode cX1_remove 26 = .ok (.aload_n 0, 1) := by decide +kernel
theorem dX1_remove_27 : decode cX1_remove 27 = .ok (.iload_n 2, 1) := by decide +kernel
theorem dX1_remove_28 : decode cX1_remove 28 = .ok (.invokevirtual 28, 3) := by decide +kernel
theorem dX1_remove_31 : decode cX1_remove 31 = .ok (.istore_n 2, 1) := by decide +kernel
theorem dX1_remove_32 : decode cX1_remove 32 = .ok (.iinc 3 1, 3) := by decide +kernel
theorem dX1_remove_35 : decode cX1_remove 35 = .ok (.goto (-31), 3) := by decide +kernel
theorem dX1_remove_38 : decode cX1_remove 38 = .ok (.return_, 1) := by decide +kernel
set_option maxRecDepth 20000 in
theorem ggX2_init_X6_init : GoodIn wsX2_init wsX6_init := goodIn_r _ [19, 20, 2, 3, 21, 11, 12, 13, 22, 23, 33, 34] (by decide +kernel) (by decide +kernel)
set_option maxRecDepth 20000 in
theorem gX2_init_X6_init : GoodIn wsX2_init (wsX6_init) := ggX2_init_X6_init
theorem dX2_init_0 : decode cX2_init 0 = .ok (.aload_n 0, 1) := by decide +kernel
theorem dX2_init_1 : decode cX2_init 1 = .ok (.invokespecial 3, 3) := by decide +kernel
theorem dX2_init_4 : decode cX2_init 4 = .ok (.aload_n 0, 1) := by decide +kernel
theorem dX2_init_5 : decode cX2_init 5 = .ok (.aload_n 1, 1) := by decide +kernel
theorem dX2_init_6 : decode cX2_init 6 = .ok (.putfield 9, 3) := by decide +kernel
theorem dX2_init_9 : decode cX2_init 9 = .ok (.aload_n 0, 1) := by decide +kernel
theorem dX2_init_10 : decode cX2_init 10 = .ok (.aload_n 2, 1) := by decide +kernel
theorem dX2_init_11 : decode cX2_init 11 = .ok (.putfield 15, 3) := by decide +kernel
theorem dX2_init_14 : decode cX2_init 14 = .ok (.aload_n 0, 1) := by decide +kernel
theorem dX2_init_15 : decode cX2_init 15 = .ok (.new 19, 3) := by decide +kernel
theorem dX2_init_18 : decode cX2_init 18 = .ok (.dup, 1) := by decide +kernel
theorem dX2_init_19 : decode cX2_init 19 = .ok (.iload_n 3, 1) := by decide +kernel
theorem dX2_init_20 : decode cX2_init 20 = .ok (.invokespecial 21, 3) := by decide +kernel
theorem dX2_init_23 : decode cX2_init 23 = .ok (.putfield 24, 3) := by decide +kernel
theorem dX2_init_26 : decode cX2_init 26 = .ok (.aload_n 0, 1) := by decide +kernel
theorem dX2_init_27 : decode cX2_init 27 = .ok (.iconst 0, 1) := by decide +kernel
theorem dX2_init_28 : decode cX2_init 28 = .ok (.aload_n 1, 1) := by decide +kernel
theorem dX2_init_29 : decode cX2_init 29 = .ok (.getfield 28, 3) := by decide +kernel
theorem dX2_init_32 : decode cX2_init 32 = .ok (.invokestatic 34, 3) := by decide +kernel
theorem dX2_init_35 : decode cX2_init 35 = .ok (.newarray .long, 2) := by decide +kernel
theorem dX2_init_37 : decode cX2_init 37 = .ok (.putfield 40, 3) := by decide +kernel
theorem dX2_init_40 : decode cX2_init 40 = .ok (.aload_n 0, 1) := by decide +kernel
theorem dX2_init_41 : decode cX2_init 41 = .ok (.iconst (-1), 1) := by decide +kernel
theorem dX2_init_42 : decode cX2_init 42 = .ok (.putfield 44, 3) := by decide +kernel
theorem dX2_init_45 : decode cX2_init 45 = .ok (.return_, 1) := by decide +kernel
set_option maxRecDepth 20000 in
theorem ggX2_heldRecords_X6_size : GoodIn wsX2_heldRecords wsX6_size := goodIn_r _ [8, 9, 26, 27] (by decide +kernel) (by decide +kernel)
set_option maxRecDepth 20000 in
theorem gX2_heldRecords_X6_size : GoodIn wsX2_heldRecords (wsV RX2 47 RX6 yX6_size wsX6_size) := goodIn_app (goodIn_of _ (by decide +kernel)) ggX2_heldRecords_X6_size
theorem dX2_heldRecords_0 : decode cX2_heldRecords 0 = .ok (.aload_n 0, 1) := by decide +kernel
theorem dX2_heldRecords_1 : decode cX2_heldRecords 1 = .ok (.getfield 24, 3) := by decide +kernel
theorem dX2_heldRecords_4 : decode cX2_heldRecords 4 = .ok (.invokevirtual 47, 3) := by decide +kernel
theorem dX2_heldRecords_7 : decode cX2_heldRecords 7 = .ok (.aload_n 0, 1) := by decide +kernel
theorem dX2_heldRecords_8 : decode cX2_heldRecords 8 = .ok (.getfield 15, 3) := by decide +kernel
theorem dX2_heldRecords_11 : decode cX2_heldRecords 11 = .ok (.getfield 50, 3) := by decide +kernel
theorem dX2_heldRecords_14 : decode cX2_heldRecords 14 = .ok (.imul, 1) := by decide +kernel
theorem dX2_heldRecords_15 : decode cX2_heldRecords 15 = .ok (.aload_n 0, 1) := by decide +kernel
theorem dX2_heldRecords_16 : decode cX2_heldRecords 16 = .ok (.getfield 55, 3) := by decide +kernel
theorem dX2_heldRecords_19 : decode cX2_heldRecords 19 = .ok (.iadd, 1) := by decide +kernel
theorem dX2_heldRecords_20 : decode cX2_heldRecords 20 = .ok (.ireturn, 1) := by decide +kernel
set_option maxRecDepth 20000 in
theorem ggX2_bring_X2_setDesk : GoodIn wsX2_bring wsX2_setDesk := goodIn_r _ [11, 5, 40, 41, 42, 43, 44, 45, 46, 47, 48] (by decide +kernel) (by decide +kernel)
set_option maxRecDepth 20000 in
theorem gX2_bring_X2_setDesk : GoodIn wsX2_bring (wsV RX2 64 RX2 yX2_setDesk wsX2_setDesk) := goodIn_app (goodIn_of _ (by decide +kernel)) ggX2_bring_X2_setDesk
set_option maxRecDepth 20000 in
theorem ggX2_bring_X0_store : GoodIn wsX2_bring wsX0_store := goodIn_r _ [16, 17, 18, 19, 20, 21, 22, 23, 24, 25, 15, 26, 27, 28, 29, 30, 31, 32, 56, 57, 58, 59, 60, 61, 62, 63, 64] (by decide +kernel) (by decide +kernel)
set_option maxRecDepth 20000 in
theorem gX2_bring_X0_store : GoodIn wsX2_bring (wsV RX2 71 RX0 yX0_store wsX0_store) := goodIn_app (goodIn_of _ (by decide +kernel)) ggX2_bring_X0_store
set_option maxRecDepth 20000 in
theorem ggX2_bring_X6_add : GoodIn wsX2_bring wsX6_add := goodIn_r _ [37, 38, 39, 65, 66] (by decide +kernel) (by decide +kernel)
set_option maxRecDepth 20000 in
theorem gX2_bring_X6_add : GoodIn wsX2_bring (wsV RX2 75 RX6 yX6_add wsX6_add) := goodIn_app (goodIn_of _ (by decide +kernel)) ggX2_bring_X6_add
theorem dX2_bring_0 : decode cX2_bring 0 = .ok (.aload_n 0, 1) := by decide +kernel
theorem dX2_bring_1 : decode cX2_bring 1 = .ok (.getfield 55, 3) := by decide +kernel
theorem dX2_bring_4 : decode cX2_bring 4 = .ok (.aload_n 0, 1) := by decide +kernel
theorem dX2_bring_5 : decode cX2_bring 5 = .ok (.getfield 15, 3) := by decide +kernel
theorem dX2_bring_8 : decode cX2_bring 8 = .ok (.getfield 58, 3) := by decide +kernel
theorem dX2_bring_11 : decode cX2_bring 11 = .ok (.imul, 1) := by decide +kernel
theorem dX2_bring_12 : decode cX2_bring 12 = .ok (.istore_n 2, 1) := by decide +kernel
theorem dX2_bring_13 : decode cX2_bring 13 = .ok (.iconst 0, 1) := by decide +kernel
theorem dX2_bring_14 : decode cX2_bring 14 = .ok (.istore_n 3, 1) := by decide +kernel
theorem dX2_bring_15 : decode cX2_bring 15 = .ok (.iload_n 3, 1) := by decide +kernel
theorem dX2_bring_16 : decode cX2_bring 16 = .ok (.aload_n 0, 1) := by decide +kernel
theorem dX2_bring_17 : decode cX2_bring 17 = .ok (.getfield 15, 3) := by decide +kernel
theorem dX2_bring_20 : decode cX2_bring 20 = .ok (.getfield 61, 3) := by decide +kernel
theorem dX2_bring_23 : decode cX2_bring 23 = .ok (.if_icmp .ge 25, 3) := by decide +kernel
theorem dX2_bring_26 : decode cX2_bring 26 = .ok (.iload_n 3, 1) := by decide +kernel
theorem dX2_bring_27 : decode cX2_bring 27 = .ok (.aload_n 1, 1) := by decide +kernel
theorem dX2_bring_28 : decode cX2_bring 28 = .ok (.arraylength, 1) := by decide +kernel
theorem dX2_bring_29 : decode cX2_bring 29 = .ok (.if_icmp .ge 19, 3) := by decide +kernel
theorem dX2_bring_32 : decode cX2_bring 32 = .ok (.aload_n 0, 1) := by decide +kernel
theorem dX2_bring_33 : decode cX2_bring 33 = .ok (.iload_n 2, 1) := by decide +kernel
theorem dX2_bring_34 : decode cX2_bring 34 = .ok (.iload_n 3, 1) := by decide +kernel
theorem dX2_bring_35 : decode cX2_bring 35 = .ok (.iadd, 1) := by decide +kernel
theorem dX2_bring_36 : decode cX2_bring 36 = .ok (.aload_n 1, 1) := by decide +kernel
theorem dX2_bring_37 : decode cX2_bring 37 = .ok (.iload_n 3, 1) := by decide +kernel
theorem dX2_bring_38 : decode cX2_bring 38 = .ok (.laload, 1) := by decide +kernel
theorem dX2_bring_39 : decode cX2_bring 39 = .ok (.invokevirtual 64, 3) := by decide +kernel
theorem dX2_bring_42 : decode cX2_bring 42 = .ok (.iinc 3 1, 3) := by decide +kernel
theorem dX2_bring_45 : decode cX2_bring 45 = .ok (.goto (-30), 3) := by decide +kernel
theorem dX2_bring_48 : decode cX2_bring 48 = .ok (.aload_n 0, 1) := by decide +kernel
theorem dX2_bring_49 : decode cX2_bring 49 = .ok (.iload_n 2, 1) := by decide +kernel
theorem dX2_bring_50 : decode cX2_bring 50 = .ok (.aload_n 0, 1) := by decide +kernel
theorem dX2_bring_51 : decode cX2_bring 51 = .ok (.getfield 15, 3) := by decide +kernel
theorem dX2_bring_54 : decode cX2_bring 54 = .ok (.getfield 61, 3) := by decide +kernel
theorem dX2_bring_57 : decode cX2_bring 57 = .ok (.iadd, 1) := by decide +kernel
theorem dX2_bring_58 : decode cX2_bring 58 = .ok (.aload_n 0, 1) := by decide +kernel
theorem dX2_bring_59 : decode cX2_bring 59 = .ok (.getfield 68, 3) := by decide +kernel
theorem dX2_bring_62 : decode cX2_bring 62 = .ok (.i2l, 1) := by decide +kernel
theorem dX2_bring_63 : decode cX2_bring 63 = .ok (.invokevirtual 64, 3) := by decide +kernel
theorem dX2_bring_66 : decode cX2_bring 66 = .ok (.aload_n 0, 1) := by decide +kernel
theorem dX2_bring_67 : decode cX2_bring 67 = .ok (.getfield 55, 3) := by decide +kernel
theorem dX2_bring_70 : decode cX2_bring 70 = .ok (.iconst 1, 1) := by decide +kernel
theorem dX2_bring_71 : decode cX2_bring 71 = .ok (.iadd, 1) := by decide +kernel
theorem dX2_bring_72 : decode cX2_bring 72 = .ok (.aload_n 0, 1) := by decide +kernel
theorem dX2_bring_73 : decode cX2_bring 73 = .ok (.getfield 15, 3) := by decide +kernel
theorem dX2_bring_76 : decode cX2_bring 76 = .ok (.getfield 50, 3) := by decide +kernel
theorem dX2_bring_79 : decode cX2_bring 79 = .ok (.if_icmp .ge 16, 3) := by decide +kernel
theorem dX2_bring_82 : decode cX2_bring 82 = .ok (.aload_n 0, 1) := by decide +kernel
theorem dX2_bring_83 : decode cX2_bring 83 = .ok (.dup, 1) := by decide +kernel
theorem dX2_bring_84 : decode cX2_bring 84 = .ok (.getfield 55, 3) := by decide +kernel
theorem dX2_bring_87 : decode cX2_bring 87 = .ok (.iconst 1, 1) := by decide +kernel
theorem dX2_bring_88 : decode cX2_bring 88 = .ok (.iadd, 1) := by decide +kernel
theorem dX2_bring_89 : decode cX2_bring 89 = .ok (.putfield 55, 3) := by decide +kernel
theorem dX2_bring_92 : decode cX2_bring 92 = .ok (.goto 50, 3) := by decide +kernel
theorem dX2_bring_95 : decode cX2_bring 95 = .ok (.aload_n 0, 1) := by decide +kernel
theorem dX2_bring_96 : decode cX2_bring 96 = .ok (.getfield 9, 3) := by decide +kernel
theorem dX2_bring_99 : decode cX2_bring 99 = .ok (.aload_n 0, 1) := by decide +kernel
theorem dX2_bring_100 : decode cX2_bring 100 = .ok (.getfield 40, 3) := by decide +kernel
theorem dX2_bring_103 : decode cX2_bring 103 = .ok (.aload_n 0, 1) := by decide +kernel
theorem dX2_bring_104 : decode cX2_bring 104 = .ok (.getfield 15, 3) := by decide +kernel
theorem dX2_bring_107 : decode cX2_bring 107 = .ok (.getfield 50, 3) := by decide +kernel
theorem dX2_bring_110 : decode cX2_bring 110 = .ok (.aload_n 0, 1) := by decide +kernel
theorem dX2_bring_111 : decode cX2_bring 111 = .ok (.getfield 15, 3) := by decide +kernel
theorem dX2_bring_114 : decode cX2_bring 114 = .ok (.getfield 58, 3) := by decide +kernel
theorem dX2_bring_117 : decode cX2_bring 117 = .ok (.imul, 1) := by decide +kernel
theorem dX2_bring_118 : decode cX2_bring 118 = .ok (.invokevirtual 71, 3) := by decide +kernel
theorem dX2_bring_121 : decode cX2_bring 121 = .ok (.istore_n 3, 1) := by decide +kernel
theorem dX2_bring_122 : decode cX2_bring 122 = .ok (.iload_n 3, 1) := by decide +kernel
theorem dX2_bring_123 : decode cX2_bring 123 = .ok (.iconst (-1), 1) := by decide +kernel
theorem dX2_bring_124 : decode cX2_bring 124 = .ok (.if_icmp .ne 5, 3) := by decide +kernel
theorem dX2_bring_127 : decode cX2_bring 127 = .ok (.iconst (-1), 1) := by decide +kernel
theorem dX2_bring_128 : decode cX2_bring 128 = .ok (.ireturn, 1) := by decide +kernel
theorem dX2_bring_129 : decode cX2_bring 129 = .ok (.aload_n 0, 1) := by decide +kernel
theorem dX2_bring_130 : decode cX2_bring 130 = .ok (.getfield 24, 3) := by decide +kernel
theorem dX2_bring_133 : decode cX2_bring 133 = .ok (.iload_n 3, 1) := by decide +kernel
theorem dX2_bring_134 : decode cX2_bring 134 = .ok (.invokevirtual 75, 3) := by decide +kernel
theorem dX2_bring_137 : decode cX2_bring 137 = .ok (.aload_n 0, 1) := by decide +kernel
theorem dX2_bring_138 : decode cX2_bring 138 = .ok (.iconst 0, 1) := by decide +kernel
theorem dX2_bring_139 : decode cX2_bring 139 = .ok (.putfield 55, 3) := by decide +kernel
theorem dX2_bring_142 : decode cX2_bring 142 = .ok (.aload_n 0, 1) := by decide +kernel
theorem dX2_bring_143 : decode cX2_bring 143 = .ok (.dup, 1) := by decide +kernel
theorem dX2_bring_144 : decode cX2_bring 144 = .ok (.getfield 68, 3) := by decide +kernel
theorem dX2_bring_147 : decode cX2_bring 147 = .ok (.iconst 1, 1) := by decide +kernel
theorem dX2_bring_148 : decode cX2_bring 148 = .ok (.iadd, 1) := by decide +kernel
theorem dX2_bring_149 : decode cX2_bring 149 = .ok (.putfield 68, 3) := by decide +kernel
theorem dX2_bring_152 : decode cX2_bring 152 = .ok (.aload_n 0, 1) := by decide +kernel
theorem dX2_bring_153 : decode cX2_bring 153 = .ok (.getfield 68, 3) := by decide +kernel
theorem dX2_bring_156 : decode cX2_bring 156 = .ok (.iconst 1, 1) := by decide +kernel
theorem dX2_bring_157 : decode cX2_bring 157 = .ok (.isub, 1) := by decide +kernel
theorem dX2_bring_158 : decode cX2_bring 158 = .ok (.ireturn, 1) := by decide +kernel
theorem dX2_setDesk_0 : decode cX2_setDesk 0 = .ok (.iload_n 1, 1) := by decide +kernel
theorem dX2_setDesk_1 : decode cX2_setDesk 1 = .ok (.ifCond .lt 19, 3) := by decide +kernel
theorem dX2_setDesk_4 : decode cX2_setDesk 4 = .ok (.iload_n 1, 1) := by decide +kernel
theorem dX2_setDesk_5 : decode cX2_setDesk 5 = .ok (.aload_n 0, 1) := by decide +kernel
theorem dX2_setDesk_6 : decode cX2_setDesk 6 = .ok (.getfield 40, 3) := by decide +kernel
theorem dX2_setDesk_9 : decode cX2_setDesk 9 = .ok (.arraylength, 1) := by decide +kernel
theorem dX2_setDesk_10 : decode cX2_setDesk 10 = .ok (.if_icmp .ge 10, 3) := by decide +kernel
theorem dX2_setDesk_13 : decode cX2_setDesk 13 = .ok (.aload_n 0, 1) := by decide +kernel
theorem dX2_setDesk_14 : decode cX2_setDesk 14 = .ok (.getfield 40, 3) := by decide +kernel
theorem dX2_setDesk_17 : decode cX2_setDesk 17 = .ok (.iload_n 1, 1) := by decide +kernel
theorem dX2_setDesk_18 : decode cX2_setDesk 18 = .ok (.lload_n 2, 1) := by decide +kernel
theorem dX2_setDesk_19 : decode cX2_setDesk 19 = .ok (.lastore, 1) := by decide +kernel
theorem dX2_setDesk_20 : decode cX2_setDesk 20 = .ok (.return_, 1) := by decide +kernel
set_option maxRecDepth 20000 in
theorem ggX2_open_X2_heldRecords : GoodIn wsX2_open wsX2_heldRecords := goodIn_r _ [13, 8, 7, 4, 14, 15, 16, 17, 18, 19, 46, 47, 48, 49, 50, 51, 52, 53, 54, 55, 56, 57, 58, 59, 60, 61, 62, 63] (by decide +kernel) (by decide +kernel)
set_option maxRecDepth 20000 in
theorem gX2_open_X2_heldRecords : GoodIn wsX2_open (wsV RX2 81 RX2 yX2_heldRecords wsX2_heldRecords) := goodIn_app (goodIn_of _ (by decide +kernel)) ggX2_open_X2_heldRecords
set_option maxRecDepth 20000 in
theorem ggX2_open_X0_store : GoodIn wsX2_open wsX0_store := goodIn_r _ [24, 25, 26, 27, 28, 29, 30, 31, 32, 33, 23, 34, 35, 36, 37, 38, 39, 40, 64, 65, 66, 67, 68, 69, 70, 71, 72] (by decide +kernel) (by decide +kernel)
set_option maxRecDepth 20000 in
theorem gX2_open_X0_store : GoodIn wsX2_open (wsV RX2 71 RX0 yX0_store wsX0_store) := goodIn_app (goodIn_of _ (by decide +kernel)) ggX2_open_X0_store
set_option maxRecDepth 20000 in
theorem ggX2_open_X6_add : GoodIn wsX2_open wsX6_add := goodIn_r _ [44, 19, 45, 62, 63] (by decide +kernel) (by decide +kernel)
set_option maxRecDepth 20000 in
theorem gX2_open_X6_add : GoodIn wsX2_open (wsV RX2 75 RX6 yX6_add wsX6_add) := goodIn_app (goodIn_of _ (by decide +kernel)) ggX2_open_X6_add
theorem dX2_open_0 : decode cX2_open 0 = .ok (.aload_n 0, 1) := by decide +kernel
theorem dX2_open_1 : decode cX2_open 1 = .ok (.iconst 0, 1) := by decide +kernel
theorem dX2_open_2 : decode cX2_open 2 = .ok (.putfield 78, 3) := by decide +kernel
theorem dX2_open_5 : decode cX2_open 5 = .ok (.aload_n 0, 1) := by decide +kernel
theorem dX2_open_6 : decode cX2_open 6 = .ok (.aload_n 0, 1) := by decide +kernel
theorem dX2_open_7 : decode cX2_open 7 = .ok (.invokevirtual 81, 3) := by decide +kernel
theorem dX2_open_10 : decode cX2_open 10 = .ok (.putfield 84, 3) := by decide +kernel
theorem dX2_open_13 : decode cX2_open 13 = .ok (.aload_n 0, 1) := by decide +kernel
theorem dX2_open_14 : decode cX2_open 14 = .ok (.iconst (-1), 1) := by decide +kernel
theorem dX2_open_15 : decode cX2_open 15 = .ok (.putfield 44, 3) := by decide +kernel
theorem dX2_open_18 : decode cX2_open 18 = .ok (.aload_n 0, 1) := by decide +kernel
theorem dX2_open_19 : decode cX2_open 19 = .ok (.getfield 55, 3) := by decide +kernel
theorem dX2_open_22 : decode cX2_open 22 = .ok (.ifCond .ne 5, 3) := by decide +kernel
theorem dX2_open_25 : decode cX2_open 25 = .ok (.iconst 1, 1) := by decide +kernel
theorem dX2_open_26 : decode cX2_open 26 = .ok (.ireturn, 1) := by decide +kernel
theorem dX2_open_27 : decode cX2_open 27 = .ok (.aload_n 0, 1) := by decide +kernel
theorem dX2_open_28 : decode cX2_open 28 = .ok (.aload_n 0, 1) := by decide +kernel
theorem dX2_open_29 : decode cX2_open 29 = .ok (.getfield 9, 3) := by decide +kernel
theorem dX2_open_32 : decode cX2_open 32 = .ok (.aload_n 0, 1) := by decide +kernel
theorem dX2_open_33 : decode cX2_open 33 = .ok (.getfield 40, 3) := by decide +kernel
theorem dX2_open_36 : decode cX2_open 36 = .ok (.aload_n 0, 1) := by decide +kernel
theorem dX2_open_37 : decode cX2_open 37 = .ok (.getfield 55, 3) := by decide +kernel
theorem dX2_open_40 : decode cX2_open 40 = .ok (.aload_n 0, 1) := by decide +kernel
theorem dX2_open_41 : decode cX2_open 41 = .ok (.getfield 15, 3) := by decide +kernel
theorem dX2_open_44 : decode cX2_open 44 = .ok (.getfield 58, 3) := by decide +kernel
theorem dX2_open_47 : decode cX2_open 47 = .ok (.imul, 1) := by decide +kernel
theorem dX2_open_48 : decode cX2_open 48 = .ok (.invokevirtual 71, 3) := by decide +kernel
theorem dX2_open_51 : decode cX2_open 51 = .ok (.putfield 44, 3) := by decide +kernel
theorem dX2_open_54 : decode cX2_open 54 = .ok (.aload_n 0, 1) := by decide +kernel
theorem dX2_open_55 : decode cX2_open 55 = .ok (.getfield 44, 3) := by decide +kernel
theorem dX2_open_58 : decode cX2_open 58 = .ok (.iconst (-1), 1) := by decide +kernel
theorem dX2_open_59 : decode cX2_open 59 = .ok (.if_icmp .ne 5, 3) := by decide +kernel
theorem dX2_open_62 : decode cX2_open 62 = .ok (.iconst 0, 1) := by decide +kernel
theorem dX2_open_63 : decode cX2_open 63 = .ok (.ireturn, 1) := by decide +kernel
theorem dX2_open_64 : decode cX2_open 64 = .ok (.aload_n 0, 1) := by decide +kernel
theorem dX2_open_65 : decode cX2_open 65 = .ok (.getfield 24, 3) := by decide +kernel
theorem dX2_open_68 : decode cX2_open 68 = .ok (.aload_n 0, 1) := by decide +kernel
theorem dX2_open_69 : decode cX2_open 69 = .ok (.getfield 44, 3) := by decide +kernel
theorem dX2_open_72 : decode cX2_open 72 = .ok (.invokevirtual 75, 3) := by decide +kernel
theorem dX2_open_75 : decode cX2_open 75 = .ok (.iconst 1, 1) := by decide +kernel
theorem dX2_open_76 : decode cX2_open 76 = .ok (.ireturn, 1) := by decide +kernel
set_option maxRecDepth 20000 in
theorem ggX2_undoOpen_X6_size : GoodIn wsX2_undoOpen wsX6_size := goodIn_r _ [8, 9, 30, 31] (by decide +kernel) (by decide +kernel)
set_option maxRecDepth 20000 in
theorem gX2_undoOpen_X6_size : GoodIn wsX2_undoOpen (wsV RX2 47 RX6 yX6_size wsX6_size) := goodIn_app (goodIn_of _ (by decide +kernel)) ggX2_undoOpen_X6_size
set_option maxRecDepth 20000 in
theorem ggX2_undoOpen_X6_removeAt : GoodIn wsX2_undoOpen wsX6_removeAt := goodIn_r _ [13, 9, 14, 30, 31] (by decide +kernel) (by decide +kernel)
set_option maxRecDepth 20000 in
theorem gX2_undoOpen_X6_removeAt : GoodIn wsX2_undoOpen (wsV RX2 87 RX6 yX6_removeAt wsX6_removeAt) := goodIn_app (goodIn_of _ (by decide +kernel)) ggX2_undoOpen_X6_removeAt
set_option maxRecDepth 20000 in
theorem ggX2_undoOpen_X0_release : GoodIn wsX2_undoOpen wsX0_release := goodIn_r _ [19, 20, 32, 33, 34, 35, 36, 37, 38, 39, 40] (by decide +kernel) (by decide +kernel)
set_option maxRecDepth 20000 in
theorem gX2_undoOpen_X0_release : GoodIn wsX2_undoOpen (wsV RX2 90 RX0 yX0_release wsX0_release) := goodIn_app (goodIn_of _ (by decide +kernel)) ggX2_undoOpen_X0_release
theorem dX2_undoOpen_0 : decode cX2_undoOpen 0 = .ok (.aload_n 0, 1) := by decide +kernel
theorem dX2_undoOpen_1 : decode cX2_undoOpen 1 = .ok (.getfield 44, 3) := by decide +kernel
theorem dX2_undoOpen_4 : decode cX2_undoOpen 4 = .ok (.iconst (-1), 1) := by decide +kernel
theorem dX2_undoOpen_5 : decode cX2_undoOpen 5 = .ok (.if_icmp .eq 35, 3) := by decide +kernel
theorem dX2_undoOpen_8 : decode cX2_undoOpen 8 = .ok (.aload_n 0, 1) := by decide +kernel
theorem dX2_undoOpen_9 : decode cX2_undoOpen 9 = .ok (.getfield 24, 3) := by decide +kernel
theorem dX2_undoOpen_12 : decode cX2_undoOpen 12 = .ok (.aload_n 0, 1) := by decide +kernel
theorem dX2_undoOpen_13 : decode cX2_undoOpen 13 = .ok (.getfield 24, 3) := by decide +kernel
theorem dX2_undoOpen_16 : decode cX2_undoOpen 16 = .ok (.invokevirtual 47, 3) := by decide +kernel
theorem dX2_undoOpen_19 : decode cX2_undoOpen 19 = .ok (.iconst 1, 1) := by decide +kernel
theorem dX2_undoOpen_20 : decode cX2_undoOpen 20 = .ok (.isub, 1) := by decide +kernel
theorem dX2_undoOpen_21 : decode cX2_undoOpen 21 = .ok (.invokevirtual 87, 3) := by decide +kernel
theorem dX2_undoOpen_24 : decode cX2_undoOpen 24 = .ok (.aload_n 0, 1) := by decide +kernel
theorem dX2_undoOpen_25 : decode cX2_undoOpen 25 = .ok (.getfield 9, 3) := by decide +kernel
theorem dX2_undoOpen_28 : decode cX2_undoOpen 28 = .ok (.aload_n 0, 1) := by decide +kernel
theorem dX2_undoOpen_29 : decode cX2_undoOpen 29 = .ok (.getfield 44, 3) := by decide +kernel
theorem dX2_undoOpen_32 : decode cX2_undoOpen 32 = .ok (.invokevirtual 90, 3) := by decide +kernel
theorem dX2_undoOpen_35 : decode cX2_undoOpen 35 = .ok (.aload_n 0, 1) := by decide +kernel
theorem dX2_undoOpen_36 : decode cX2_undoOpen 36 = .ok (.iconst (-1), 1) := by decide +kernel
theorem dX2_undoOpen_37 : decode cX2_undoOpen 37 = .ok (.putfield 44, 3) := by decide +kernel
theorem dX2_undoOpen_40 : decode cX2_undoOpen 40 = .ok (.return_, 1) := by decide +kernel
set_option maxRecDepth 20000 in
theorem ggX2_next_X6_get : GoodIn wsX2_next wsX6_get := goodIn_r _ [14, 15, 16, 54, 55] (by decide +kernel) (by decide +kernel)
set_option maxRecDepth 20000 in
theorem gX2_next_X6_get : GoodIn wsX2_next (wsV RX2 93 RX6 yX6_get wsX6_get) := goodIn_app (goodIn_of _ (by decide +kernel)) ggX2_next_X6_get
set_option maxRecDepth 20000 in
theorem ggX2_next_X0_readBlock : GoodIn wsX2_next wsX0_readBlock := goodIn_r _ [21, 22, 23, 24, 25, 20, 26, 27, 28, 45, 46, 47, 48, 49, 50, 51, 52, 53] (by decide +kernel) (by decide +kernel)
set_option maxRecDepth 20000 in
theorem gX2_next_X0_readBlock : GoodIn wsX2_next (wsV RX2 97 RX0 yX0_readBlock wsX0_readBlock) := goodIn_app (goodIn_of _ (by decide +kernel)) ggX2_next_X0_readBlock
theorem dX2_next_0 : decode cX2_next 0 = .ok (.iconst 1, 1) := by decide +kernel
theorem dX2_next_1 : decode cX2_next 1 = .ok (.aload_n 0, 1) := by decide +kernel
theorem dX2_next_2 : decode cX2_next 2 = .ok (.getfield 15, 3) := by decide +kernel
theorem dX2_next_5 : decode cX2_next 5 = .ok (.getfield 50, 3) := by decide +kernel
theorem dX2_next_8 : decode cX2_next 8 = .ok (.invokestatic 34, 3) := by decide +kernel
theorem dX2_next_11 : decode cX2_next 11 = .ok (.istore_n 1, 1) := by decide +kernel
theorem dX2_next_12 : decode cX2_next 12 = .ok (.aload_n 0, 1) := by decide +kernel
theorem dX2_next_13 : decode cX2_next 13 = .ok (.getfield 24, 3) := by decide +kernel
theorem dX2_next_16 : decode cX2_next 16 = .ok (.aload_n 0, 1) := by decide +kernel
theorem dX2_next_17 : decode cX2_next 17 = .ok (.getfield 78, 3) := by decide +kernel
theorem dX2_next_20 : decode cX2_next 20 = .ok (.iload_n 1, 1) := by decide +kernel
theorem dX2_next_21 : decode cX2_next 21 = .ok (.idiv, 1) := by decide +kernel
theorem dX2_next_22 : decode cX2_next 22 = .ok (.invokevirtual 93, 3) := by decide +kernel
theorem dX2_next_25 : decode cX2_next 25 = .ok (.istore_n 2, 1) := by decide +kernel
theorem dX2_next_26 : decode cX2_next 26 = .ok (.aload_n 0, 1) := by decide +kernel
theorem dX2_next_27 : decode cX2_next 27 = .ok (.getfield 78, 3) := by decide +kernel
theorem dX2_next_30 : decode cX2_next 30 = .ok (.iload_n 1, 1) := by decide +kernel
theorem dX2_next_31 : decode cX2_next 31 = .ok (.irem, 1) := by decide +kernel
theorem dX2_next_32 : decode cX2_next 32 = .ok (.istore_n 3, 1) := by decide +kernel
theorem dX2_next_33 : decode cX2_next 33 = .ok (.iload_n 3, 1) := by decide +kernel
theorem dX2_next_34 : decode cX2_next 34 = .ok (.ifCond .ne 11, 3) := by decide +kernel
theorem dX2_next_37 : decode cX2_next 37 = .ok (.aload_n 0, 1) := by decide +kernel
theorem dX2_next_38 : decode cX2_next 38 = .ok (.getfield 9, 3) := by decide +kernel
theorem dX2_next_41 : decode cX2_next 41 = .ok (.iload_n 2, 1) := by decide +kernel
theorem dX2_next_42 : decode cX2_next 42 = .ok (.invokevirtual 97, 3) := by decide +kernel
theorem dX2_next_45 : decode cX2_next 45 = .ok (.aload_n 0, 1) := by decide +kernel
theorem dX2_next_46 : decode cX2_next 46 = .ok (.dup, 1) := by decide +kernel
theorem dX2_next_47 : decode cX2_next 47 = .ok (.getfield 78, 3) := by decide +kernel
theorem dX2_next_50 : decode cX2_next 50 = .ok (.iconst 1, 1) := by decide +kernel
theorem dX2_next_51 : decode cX2_next 51 = .ok (.iadd, 1) := by decide +kernel
theorem dX2_next_52 : decode cX2_next 52 = .ok (.putfield 78, 3) := by decide +kernel
theorem dX2_next_55 : decode cX2_next 55 = .ok (.aload_n 0, 1) := by decide +kernel
theorem dX2_next_56 : decode cX2_next 56 = .ok (.dup, 1) := by decide +kernel
theorem dX2_next_57 : decode cX2_next 57 = .ok (.getfield 84, 3) := by decide +kernel
theorem dX2_next_60 : decode cX2_next 60 = .ok (.iconst 1, 1) := by decide +kernel
theorem dX2_next_61 : decode cX2_next 61 = .ok (.isub, 1) := by decide +kernel
theorem dX2_next_62 : decode cX2_next 62 = .ok (.putfield 84, 3) := by decide +kernel
theorem dX2_next_65 : decode cX2_next 65 = .ok (.iload_n 2, 1) := by decide +kernel
theorem dX2_next_66 : decode cX2_next 66 = .ok (.aload_n 0, 1) := by decide +kernel
theorem dX2_next_67 : decode cX2_next 67 = .ok (.getfield 9, 3) := by decide +kernel
theorem dX2_next_70 : decode cX2_next 70 = .ok (.getfield 28, 3) := by decide +kernel
theorem dX2_next_73 : decode cX2_next 73 = .ok (.imul, 1) := by decide +kernel
theorem dX2_next_74 : decode cX2_next 74 = .ok (.iload_n 3, 1) := by decide +kernel
theorem dX2_next_75 : decode cX2_next 75 = .ok (.aload_n 0, 1) := by decide +kernel
theorem dX2_next_76 : decode cX2_next 76 = .ok (.getfield 15, 3) := by decide +kernel
theorem dX2_next_79 : decode cX2_next 79 = .ok (.getfield 58, 3) := by decide +kernel
theorem dX2_next_82 : decode cX2_next 82 = .ok (.imul, 1) := by decide +kernel
theorem dX2_next_83 : decode cX2_next 83 = .ok (.iadd, 1) := by decide +kernel
theorem dX2_next_84 : decode cX2_next 84 = .ok (.ireturn, 1) := by decide +kernel
set_option maxRecDepth 20000 in
theorem ggX2_removeAll_X6_size : GoodIn wsX2_removeAll wsX6_size := goodIn_r _ [9, 10, 35, 36] (by decide +kernel) (by decide +kernel)
set_option maxRecDepth 20000 in
theorem gX2_removeAll_X6_size : GoodIn wsX2_removeAll (wsV RX2 47 RX6 yX6_size wsX6_size) := goodIn_app (goodIn_of _ (by decide +kernel)) ggX2_removeAll_X6_size
set_option maxRecDepth 20000 in
theorem ggX2_removeAll_X6_get : GoodIn wsX2_removeAll wsX6_get := goodIn_r _ [14, 10, 15, 35, 36] (by decide +kernel) (by decide +kernel)
set_option maxRecDepth 20000 in
theorem gX2_removeAll_X6_get : GoodIn wsX2_removeAll (wsV RX2 93 RX6 yX6_get wsX6_get) := goodIn_app (goodIn_of _ (by decide +kernel)) ggX2_removeAll_X6_get
set_option maxRecDepth 20000 in
theorem ggX2_removeAll_X0_release : GoodIn wsX2_removeAll wsX0_release := goodIn_r _ [20, 21, 37, 38, 39, 40, 41, 42, 43, 44, 45] (by decide +kernel) (by decide +kernel)
set_option maxRecDepth 20000 in
theorem gX2_removeAll_X0_release : GoodIn wsX2_removeAll (wsV RX2 90 RX0 yX0_release wsX0_release) := goodIn_app (goodIn_of _ (by decide +kernel)) ggX2_removeAll_X0_release
set_option maxRecDepth 20000 in
theorem ggX2_removeAll_X6_clear : GoodIn wsX2_removeAll wsX6_clear := goodIn_r _ [25, 10, 35, 36] (by decide +kernel) (by decide +kernel)
set_option maxRecDepth 20000 in
theorem gX2_removeAll_X6_clear : GoodIn wsX2_removeAll (wsV RX2 100 RX6 yX6_clear wsX6_clear) := goodIn_app (goodIn_of _ (by decide +kernel)) ggX2_removeAll_X6_clear
theorem dX2_removeAll_0 : decode cX2_removeAll 0 = .ok (.iconst 0, 1) := by decide +kernel
theorem dX2_removeAll_1 : decode cX2_removeAll 1 = .ok (.istore_n 1, 1) := by decide +kernel
theorem dX2_removeAll_2 : decode cX2_removeAll 2 = .ok (.iload_n 1, 1) := by decide +kernel
theorem dX2_removeAll_3 : decode cX2_removeAll 3 = .ok (.aload_n 0, 1) := by decide +kernel
theorem dX2_removeAll_4 : decode cX2_removeAll 4 = .ok (.getfield 24, 3) := by decide +kernel
theorem dX2_removeAll_7 : decode cX2_removeAll 7 = .ok (.invokevirtual 47, 3) := by decide +kernel
theorem dX2_removeAll_10 : decode cX2_removeAll 10 = .ok (.if_icmp .ge 24, 3) := by decide +kernel
theorem dX2_removeAll_13 : decode cX2_removeAll 13 = .ok (.aload_n 0, 1) := by decide +kernel
theorem dX2_removeAll_14 : decode cX2_removeAll 14 = .ok (.getfield 9, 3) := by decide +kernel
theorem dX2_removeAll_17 : decode cX2_removeAll 17 = .ok (.aload_n 0, 1) := by decide +kernel
theorem dX2_removeAll_18 : decode cX2_removeAll 18 = .ok (.getfield 24, 3) := by decide +kernel
theorem dX2_removeAll_21 : decode cX2_removeAll 21 = .ok (.iload_n 1, 1) := by decide +kernel
theorem dX2_removeAll_22 : decode cX2_removeAll 22 = .ok (.invokevirtual 93, 3) := by decide +kernel
theorem dX2_removeAll_25 : decode cX2_removeAll 25 = .ok (.invokevirtual 90, 3) := by decide +kernel
theorem dX2_removeAll_28 : decode cX2_removeAll 28 = .ok (.iinc 1 1, 3) := by decide +kernel
theorem dX2_removeAll_31 : decode cX2_removeAll 31 = .ok (.goto (-29), 3) := by decide +kernel
theorem dX2_removeAll_34 : decode cX2_removeAll 34 = .ok (.aload_n 0, 1) := by decide +kernel
theorem dX2_removeAll_35 : decode cX2_removeAll 35 = .ok (.getfield 24, 3) := by decide +kernel
theorem dX2_removeAll_38 : decode cX2_removeAll 38 = .ok (.invokevirtual 100, 3) := by decide +kernel
theorem dX2_removeAll_41 : decode cX2_removeAll 41 = .ok (.aload_n 0, 1) := by decide +kernel
theorem dX2_removeAll_42 : decode cX2_removeAll 42 = .ok (.iconst 0, 1) := by decide +kernel
theorem dX2_removeAll_43 : decode cX2_removeAll 43 = .ok (.putfield 55, 3) := by decide +kernel
theorem dX2_removeAll_46 : decode cX2_removeAll 46 = .ok (.aload_n 0, 1) := by decide +kernel
theorem dX2_removeAll_47 : decode cX2_removeAll 47 = .ok (.iconst (-1), 1) := by decide +kernel
theorem dX2_removeAll_48 : decode cX2_removeAll 48 = .ok (.putfield 44, 3) := by decide +kernel
theorem dX2_removeAll_51 : decode cX2_removeAll 51 = .ok (.return_, 1) := by decide +kernel
theorem dX3_init_0 : decode cX3_init 0 = .ok (.aload_n 0, 1) := by decide +kernel
theorem dX3_init_1 : decode cX3_init 1 = .ok (.invokespecial 3, 3) := by decide +kernel
theorem dX3_init_4 : decode cX3_init 4 = .ok (.aload_n 0, 1) := by decide +kernel
theorem dX3_init_5 : decode cX3_init 5 = .ok (.aload_n 1, 1) := by decide +kernel
theorem dX3_init_6 : decode cX3_init 6 = .ok (.putfield 9, 3) := by decide +kernel
theorem dX3_init_9 : decode cX3_init 9 = .ok (.aload_n 0, 1) := by decide +kernel
theorem dX3_init_10 : decode cX3_init 10 = .ok (.iload_n 2, 1) := by decide +kernel
theorem dX3_init_11 : decode cX3_init 11 = .ok (.putfield 15, 3) := by decide +kernel
theorem dX3_init_14 : decode cX3_init 14 = .ok (.aload_n 0, 1) := by decide +kernel
theorem dX3_init_15 : decode cX3_init 15 = .ok (.iconst 0, 1) := by decide +kernel
theorem dX3_init_16 : decode cX3_init 16 = .ok (.iload_n 2, 1) := by decide +kernel
theorem dX3_init_17 : decode cX3_init 17 = .ok (.invokestatic 19, 3) := by decide +kernel
theorem dX3_init_20 : decode cX3_init 20 = .ok (.newarray .int, 2) := by decide +kernel
theorem dX3_init_22 : decode cX3_init 22 = .ok (.putfield 25, 3) := by decide +kernel
theorem dX3_init_25 : decode cX3_init 25 = .ok (.aload_n 0, 1) := by decide +kernel
theorem dX3_init_26 : decode cX3_init 26 = .ok (.iconst 0, 1) := by decide +kernel
theorem dX3_init_27 : decode cX3_init 27 = .ok (.iload_n 2, 1) := by decide +kernel
theorem dX3_init_28 : decode cX3_init 28 = .ok (.invokestatic 19, 3) := by decide +kernel
theorem dX3_init_31 : decode cX3_init 31 = .ok (.newarray .int, 2) := by decide +kernel
theorem dX3_init_33 : decode cX3_init 33 = .ok (.putfield 29, 3) := by decide +kernel
theorem dX3_init_36 : decode cX3_init 36 = .ok (.return_, 1) := by decide +kernel
theorem dX3_clear_0 : decode cX3_clear 0 = .ok (.aload_n 0, 1) := by decide +kernel
theorem dX3_clear_1 : decode cX3_clear 1 = .ok (.iconst 0, 1) := by decide +kernel
theorem dX3_clear_2 : decode cX3_clear 2 = .ok (.putfield 32, 3) := by decide +kernel
theorem dX3_clear_5 : decode cX3_clear 5 = .ok (.return_, 1) := by decide +kernel
theorem dX3_firstTurn_0 : decode cX3_firstTurn 0 = .ok (.aload_n 0, 1) := by decide +kernel
theorem dX3_firstTurn_1 : decode cX3_firstTurn 1 = .ok (.getfield 32, 3) := by decide +kernel
theorem dX3_firstTurn_4 : decode cX3_firstTurn 4 = .ok (.ifCond .le 20, 3) := by decide +kernel
theorem dX3_firstTurn_7 : decode cX3_firstTurn 7 = .ok (.aload_n 0, 1) := by decide +kernel
theorem dX3_firstTurn_8 : decode cX3_firstTurn 8 = .ok (.getfield 29, 3) := by decide +kernel
theorem dX3_firstTurn_11 : decode cX3_firstTurn 11 = .ok (.arraylength, 1) := by decide +kernel
theorem dX3_firstTurn_12 : decode cX3_firstTurn 12 = .ok (.ifCond .le 12, 3) := by decide +kernel
theorem dX3_firstTurn_15 : decode cX3_firstTurn 15 = .ok (.aload_n 0, 1) := by decide +kernel
theorem dX3_firstTurn_16 : decode cX3_firstTurn 16 = .ok (.getfield 29, 3) := by decide +kernel
theorem dX3_firstTurn_19 : decode cX3_firstTurn 19 = .ok (.iconst 0, 1) := by decide +kernel
theorem dX3_firstTurn_20 : decode cX3_firstTurn 20 = .ok (.iaload, 1) := by decide +kernel
theorem dX3_firstTurn_21 : decode cX3_firstTurn 21 = .ok (.goto 4, 3) := by decide +kernel
theorem dX3_firstTurn_24 : decode cX3_firstTurn 24 = .ok (.iconst 0, 1) := by decide +kernel
theorem dX3_firstTurn_25 : decode cX3_firstTurn 25 = .ok (.ireturn, 1) := by decide +kernel
set_option maxRecDepth 20000 in
theorem ggX3_add_X3_isAhead : GoodIn wsX3_add wsX3_isAhead := goodIn_r _ [8, 2, 3, 9, 10, 11, 12, 13, 14, 15, 16, 17, 18, 19, 20, 21, 22, 23, 24, 25, 26, 27, 28, 29, 38, 39, 40, 41, 42, 43, 44, 45, 46, 47, 48, 49, 50, 51, 52, 53, 54, 55, 56, 57, 58] (by decide +kernel) (by decide +kernel)
set_option maxRecDepth 20000 in
theorem gX3_add_X3_isAhead : GoodIn wsX3_add (wsV RX3 35 RX3 yX3_isAhead wsX3_isAhead) := goodIn_app (goodIn_of _ (by decide +kernel)) ggX3_add_X3_isAhead
set_option maxRecDepth 20000 in
theorem ggX3_add_X3_copyTo : GoodIn wsX3_add wsX3_copyTo := goodIn_r _ [33, 2, 3, 34, 35, 36, 7, 37, 38, 39, 40, 41, 42] (by decide +kernel) (by decide +kernel)
set_option maxRecDepth 20000 in
theorem gX3_add_X3_copyTo : GoodIn wsX3_add (wsV RX3 39 RX3 yX3_copyTo wsX3_copyTo) := goodIn_app (goodIn_of _ (by decide +kernel)) ggX3_add_X3_copyTo
set_option maxRecDepth 20000 in
theorem ggX3_add_X3_put : GoodIn wsX3_add wsX3_put := goodIn_r _ [37, 2, 3, 38, 39, 40, 41, 42] (by decide +kernel) (by decide +kernel)
set_option maxRecDepth 20000 in
theorem gX3_add_X3_put : GoodIn wsX3_add (wsV RX3 43 RX3 yX3_put wsX3_put) := goodIn_app (goodIn_of _ (by decide +kernel)) ggX3_add_X3_put
theorem dX3_add_0 : decode cX3_add 0 = .ok (.aload_n 0, 1) := by decide +kernel
theorem dX3_add_1 : decode cX3_add 1 = .ok (.getfield 32, 3) := by decide +kernel
theorem dX3_add_4 : decode cX3_add 4 = .ok (.ifCond .lt 27, 3) := by decide +kernel
theorem dX3_add_7 : decode cX3_add 7 = .ok (.aload_n 0, 1) := by decide +kernel
theorem dX3_add_8 : decode cX3_add 8 = .ok (.getfield 32, 3) := by decide +kernel
theorem dX3_add_11 : decode cX3_add 11 = .ok (.aload_n 0, 1) := by decide +kernel
theorem dX3_add_12 : decode cX3_add 12 = .ok (.getfield 25, 3) := by decide +kernel
theorem dX3_add_15 : decode cX3_add 15 = .ok (.arraylength, 1) := by decide +kernel
theorem dX3_add_16 : decode cX3_add 16 = .ok (.if_icmp .ge 15, 3) := by decide +kernel
theorem dX3_add_19 : decode cX3_add 19 = .ok (.aload_n 0, 1) := by decide +kernel
theorem dX3_add_20 : decode cX3_add 20 = .ok (.getfield 32, 3) := by decide +kernel
theorem dX3_add_23 : decode cX3_add 23 = .ok (.aload_n 0, 1) := by decide +kernel
theorem dX3_add_24 : decode cX3_add 24 = .ok (.getfield 29, 3) := by decide +kernel
theorem dX3_add_27 : decode cX3_add 27 = .ok (.arraylength, 1) := by decide +kernel
theorem dX3_add_28 : decode cX3_add 28 = .ok (.if_icmp .lt 4, 3) := by decide +kernel
theorem dX3_add_31 : decode cX3_add 31 = .ok (.return_, 1) := by decide +kernel
theorem dX3_add_32 : decode cX3_add 32 = .ok (.aload_n 0, 1) := by decide +kernel
theorem dX3_add_33 : decode cX3_add 33 = .ok (.getfield 32, 3) := by decide +kernel
theorem dX3_add_36 : decode cX3_add 36 = .ok (.istore_n 3, 1) := by decide +kernel
theorem dX3_add_37 : decode cX3_add 37 = .ok (.aload_n 0, 1) := by decide +kernel
theorem dX3_add_38 : decode cX3_add 38 = .ok (.dup, 1) := by decide +kernel
theorem dX3_add_39 : decode cX3_add 39 = .ok (.getfield 32, 3) := by decide +kernel
theorem dX3_add_42 : decode cX3_add 42 = .ok (.iconst 1, 1) := by decide +kernel
theorem dX3_add_43 : decode cX3_add 43 = .ok (.iadd, 1) := by decide +kernel
theorem dX3_add_44 : decode cX3_add 44 = .ok (.putfield 32, 3) := by decide +kernel
theorem dX3_add_47 : decode cX3_add 47 = .ok (.iload_n 3, 1) := by decide +kernel
theorem dX3_add_48 : decode cX3_add 48 = .ok (.istore 4, 2) := by decide +kernel
theorem dX3_add_50 : decode cX3_add 50 = .ok (.iload 4, 2) := by decide +kernel
theorem dX3_add_52 : decode cX3_add 52 = .ok (.ifCond .le 46, 3) := by decide +kernel
theorem dX3_add_55 : decode cX3_add 55 = .ok (.iload 4, 2) := by decide +kernel
theorem dX3_add_57 : decode cX3_add 57 = .ok (.iconst 1, 1) := by decide +kernel
theorem dX3_add_58 : decode cX3_add 58 = .ok (.isub, 1) := by decide +kernel
theorem dX3_add_59 : decode cX3_add 59 = .ok (.iconst 2, 1) := by decide +kernel
theorem dX3_add_60 : decode cX3_add 60 = .ok (.idiv, 1) := by decide +kernel
theorem dX3_add_61 : decode cX3_add 61 = .ok (.istore 5, 2) := by decide +kernel
theorem dX3_add_63 : decode cX3_add 63 = .ok (.aload_n 0, 1) := by decide +kernel
theorem dX3_add_64 : decode cX3_add 64 = .ok (.iload_n 1, 1) := by decide +kernel
theorem dX3_add_65 : decode cX3_add 65 = .ok (.iload_n 2, 1) := by decide +kernel
theorem dX3_add_66 : decode cX3_add 66 = .ok (.iload 5, 2) := by decide +kernel
theorem dX3_add_68 : decode cX3_add 68 = .ok (.invokevirtual 35, 3) := by decide +kernel
theorem dX3_add_71 : decode cX3_add 71 = .ok (.ifCond .ne 6, 3) := by decide +kernel
theorem dX3_add_74 : decode cX3_add 74 = .ok (.goto 24, 3) := by decide +kernel
theorem dX3_add_77 : decode cX3_add 77 = .ok (.aload_n 0, 1) := by decide +kernel
theorem dX3_add_78 : decode cX3_add 78 = .ok (.iload_n 3, 1) := by decide +kernel
theorem dX3_add_79 : decode cX3_add 79 = .ok (.iload 5, 2) := by decide +kernel
theorem dX3_add_81 : decode cX3_add 81 = .ok (.invokevirtual 39, 3) := by decide +kernel
theorem dX3_add_84 : decode cX3_add 84 = .ok (.iload 5, 2) := by decide +kernel
theorem dX3_add_86 : decode cX3_add 86 = .ok (.istore_n 3, 1) := by decide +kernel
theorem dX3_add_87 : decode cX3_add 87 = .ok (.iload 4, 2) := by decide +kernel
theorem dX3_add_89 : decode cX3_add 89 = .ok (.iconst 1, 1) := by decide +kernel
theorem dX3_add_90 : decode cX3_add 90 = .ok (.isub, 1) := by decide +kernel
theorem dX3_add_91 : decode cX3_add 91 = .ok (.iconst 2, 1) := by decide +kernel
theorem dX3_add_92 : decode cX3_add 92 = .ok (.idiv, 1) := by decide +kernel
theorem dX3_add_93 : decode cX3_add 93 = .ok (.istore 4, 2) := by decide +kernel
theorem dX3_add_95 : decode cX3_add 95 = .ok (.goto (-45), 3) := by decide +kernel
theorem dX3_add_98 : decode cX3_add 98 = .ok (.aload_n 0, 1) := by decide +kernel
theorem dX3_add_99 : decode cX3_add 99 = .ok (.iload_n 3, 1) := by decide +kernel
theorem dX3_add_100 : decode cX3_add 100 = .ok (.iload_n 1, 1) := by decide +kernel
theorem dX3_add_101 : decode cX3_add 101 = .ok (.iload_n 2, 1) := by decide +kernel
theorem dX3_add_102 : decode cX3_add 102 = .ok (.invokevirtual 43, 3) := by decide +kernel
theorem dX3_add_105 : decode cX3_add 105 = .ok (.return_, 1) := by decide +kernel
set_option maxRecDepth 20000 in
theorem ggX3_takeFirst_X3_isAhead : GoodIn wsX3_takeFirst wsX3_isAhead := goodIn_r _ [8, 2, 3, 9, 10, 11, 12, 13, 14, 15, 16, 17, 18, 19, 20, 21, 22, 23, 24, 25, 26, 27, 28, 29, 38, 39, 40, 41, 42, 43, 44, 45, 46, 47, 48, 49, 50, 51, 52, 53, 54, 55, 56, 57, 58] (by decide +kernel) (by decide +kernel)
set_option maxRecDepth 20000 in
theorem gX3_takeFirst_X3_isAhead : GoodIn wsX3_takeFirst (wsV RX3 35 RX3 yX3_isAhead wsX3_isAhead) := goodIn_app (goodIn_of _ (by decide +kernel)) ggX3_takeFirst_X3_isAhead
set_option maxRecDepth 20000 in
theorem ggX3_takeFirst_X3_copyTo : GoodIn wsX3_takeFirst wsX3_copyTo := goodIn_r _ [33, 2, 3, 34, 35, 36, 7, 37, 38, 39, 40, 41, 42] (by decide +kernel) (by decide +kernel)
set_option maxRecDepth 20000 in
theorem gX3_takeFirst_X3_copyTo : GoodIn wsX3_takeFirst (wsV RX3 39 RX3 yX3_copyTo wsX3_copyTo) := goodIn_app (goodIn_of _ (by decide +kernel)) ggX3_takeFirst_X3_copyTo
set_option maxRecDepth 20000 in
theorem ggX3_takeFirst_X3_put : GoodIn wsX3_takeFirst wsX3_put := goodIn_r _ [37, 2, 3, 38, 39, 40, 41, 42] (by decide +kernel) (by decide +kernel)
set_option maxRecDepth 20000 in
theorem gX3_takeFirst_X3_put : GoodIn wsX3_takeFirst (wsV RX3 43 RX3 yX3_put wsX3_put) := goodIn_app (goodIn_of _ (by decide +kernel)) ggX3_takeFirst_X3_put
theorem dX3_takeFirst_0 : decode cX3_takeFirst 0 = .ok (.aload_n 0, 1) := by decide +kernel
theorem dX3_takeFirst_1 : decode cX3_takeFirst 1 = .ok (.getfield 32, 3) := by decide +kernel
theorem dX3_takeFirst_4 : decode cX3_takeFirst 4 = .ok (.iconst 1, 1) := by decide +kernel
theorem dX3_takeFirst_5 : decode cX3_takeFirst 5 = .ok (.if_icmp .lt 27, 3) := by decide +kernel
theorem dX3_takeFirst_8 : decode cX3_takeFirst 8 = .ok (.aload_n 0, 1) := by decide +kernel
theorem dX3_takeFirst_9 : decode cX3_takeFirst 9 = .ok (.getfield 32, 3) := by decide +kernel
theorem dX3_takeFirst_12 : decode cX3_takeFirst 12 = .ok (.aload_n 0, 1) := by decide +kernel
theorem dX3_takeFirst_13 : decode cX3_takeFirst 13 = .ok (.getfield 25, 3) := by decide +kernel
theorem dX3_takeFirst_16 : decode cX3_takeFirst 16 = .ok (.arraylength, 1) := by decide +kernel
theorem dX3_takeFirst_17 : decode cX3_takeFirst 17 = .ok (.if_icmp .gt 15, 3) := by decide +kernel
theorem dX3_takeFirst_20 : decode cX3_takeFirst 20 = .ok (.aload_n 0, 1) := by decide +kernel
theorem dX3_takeFirst_21 : decode cX3_takeFirst 21 = .ok (.getfield 32, 3) := by decide +kernel
theorem dX3_takeFirst_24 : decode cX3_takeFirst 24 = .ok (.aload_n 0, 1) := by decide +kernel
theorem dX3_takeFirst_25 : decode cX3_takeFirst 25 = .ok (.getfield 29, 3) := by decide +kernel
theorem dX3_takeFirst_28 : decode cX3_takeFirst 28 = .ok (.arraylength, 1) := by decide +kernel
theorem dX3_takeFirst_29 : decode cX3_takeFirst 29 = .ok (.if_icmp .le 5, 3) := by decide +kernel
theorem dX3_takeFirst_32 : decode cX3_takeFirst 32 = .ok (.iconst (-1), 1) := by decide +kernel
theorem dX3_takeFirst_33 : decode cX3_takeFirst 33 = .ok (.ireturn, 1) := by decide +kernel
theorem dX3_takeFirst_34 : decode cX3_takeFirst 34 = .ok (.aload_n 0, 1) := by decide +kernel
theorem dX3_takeFirst_35 : decode cX3_takeFirst 35 = .ok (.getfield 25, 3) := by decide +kernel
theorem dX3_takeFirst_38 : decode cX3_takeFirst 38 = .ok (.iconst 0, 1) := by decide +kernel
theorem dX3_takeFirst_39 : decode cX3_takeFirst 39 = .ok (.iaload, 1) := by decide +kernel
theorem dX3_takeFirst_40 : decode cX3_takeFirst 40 = .ok (.istore_n 1, 1) := by decide +kernel
theorem dX3_takeFirst_41 : decode cX3_takeFirst 41 = .ok (.aload_n 0, 1) := by decide +kernel
theorem dX3_takeFirst_42 : decode cX3_takeFirst 42 = .ok (.dup, 1) := by decide +kernel
theorem dX3_takeFirst_43 : decode cX3_takeFirst 43 = .ok (.getfield 32, 3) := by decide +kernel
theorem dX3_takeFirst_46 : decode cX3_takeFirst 46 = .ok (.iconst 1, 1) := by decide +kernel
theorem dX3_takeFirst_47 : decode cX3_takeFirst 47 = .ok (.isub, 1) := by decide +kernel
theorem dX3_takeFirst_48 : decode cX3_takeFirst 48 = .ok (.putfield 32, 3) := by decide +kernel
theorem dX3_takeFirst_51 : decode cX3_takeFirst 51 = .ok (.aload_n 0, 1) := by decide +kernel
theorem dX3_takeFirst_52 : decode cX3_takeFirst 52 = .ok (.getfield 25, 3) := by decide +kernel
theorem dX3_takeFirst_55 : decode cX3_takeFirst 55 = .ok (.aload_n 0, 1) := by decide +kernel
theorem dX3_takeFirst_56 : decode cX3_takeFirst 56 = .ok (.getfield 32, 3) := by decide +kernel
theorem dX3_takeFirst_59 : decode cX3_takeFirst 59 = .ok (.iaload, 1) := by decide +kernel
theorem dX3_takeFirst_60 : decode cX3_takeFirst 60 = .ok (.istore_n 2, 1) := by decide +kernel
theorem dX3_takeFirst_61 : decode cX3_takeFirst 61 = .ok (.aload_n 0, 1) := by decide +kernel
theorem dX3_takeFirst_62 : decode cX3_takeFirst 62 = .ok (.getfield 29, 3) := by decide +kernel
theorem dX3_takeFirst_65 : decode cX3_takeFirst 65 = .ok (.aload_n 0, 1) := by decide +kernel
theorem dX3_takeFirst_66 : decode cX3_takeFirst 66 = .ok (.getfield 32, 3) := by decide +kernel
theorem dX3_takeFirst_69 : decode cX3_takeFirst 69 = .ok (.iaload, 1) := by decide +kernel
theorem dX3_takeFirst_70 : decode cX3_takeFirst 70 = .ok (.istore_n 3, 1) := by decide +kernel
theorem dX3_takeFirst_71 : decode cX3_takeFirst 71 = .ok (.iconst 0, 1) := by decide +kernel
theorem dX3_takeFirst_72 : decode cX3_takeFirst 72 = .ok (.istore 4, 2) := by decide +kernel
theorem dX3_takeFirst_74 : decode cX3_takeFirst 74 = .ok (.iconst 1, 1) := by decide +kernel
theorem dX3_takeFirst_75 : decode cX3_takeFirst 75 = .ok (.istore 5, 2) := by decide +kernel
theorem dX3_takeFirst_77 : decode cX3_takeFirst 77 = .ok (.iload 5, 2) := by decide +kernel
theorem dX3_takeFirst_79 : decode cX3_takeFirst 79 = .ok (.aload_n 0, 1) := by decide +kernel
theorem dX3_takeFirst_80 : decode cX3_takeFirst 80 = .ok (.getfield 32, 3) := by decide +kernel
theorem dX3_takeFirst_83 : decode cX3_takeFirst 83 = .ok (.if_icmp .ge 89, 3) := by decide +kernel
theorem dX3_takeFirst_86 : decode cX3_takeFirst 86 = .ok (.iload 5, 2) := by decide +kernel
theorem dX3_takeFirst_88 : decode cX3_takeFirst 88 = .ok (.iconst 1, 1) := by decide +kernel
theorem dX3_takeFirst_89 : decode cX3_takeFirst 89 = .ok (.iadd, 1) := by decide +kernel
theorem dX3_takeFirst_90 : decode cX3_takeFirst 90 = .ok (.aload_n 0, 1) := by decide +kernel
theorem dX3_takeFirst_91 : decode cX3_takeFirst 91 = .ok (.getfield 32, 3) := by decide +kernel
theorem dX3_takeFirst_94 : decode cX3_takeFirst 94 = .ok (.if_icmp .ge 37, 3) := by decide +kernel
theorem dX3_takeFirst_97 : decode cX3_takeFirst 97 = .ok (.aload_n 0, 1) := by decide +kernel
theorem dX3_takeFirst_98 : decode cX3_takeFirst 98 = .ok (.aload_n 0, 1) := by decide +kernel
theorem dX3_takeFirst_99 : decode cX3_takeFirst 99 = .ok (.getfield 25, 3) := by decide +kernel
theorem dX3_takeFirst_102 : decode cX3_takeFirst 102 = .ok (.iload 5, 2) := by decide +kernel
theorem dX3_takeFirst_104 : decode cX3_takeFirst 104 = .ok (.iconst 1, 1) := by decide +kernel
theorem dX3_takeFirst_105 : decode cX3_takeFirst 105 = .ok (.iadd, 1) := by decide +kernel
theorem dX3_takeFirst_106 : decode cX3_takeFirst 106 = .ok (.iaload, 1) := by decide +kernel
theorem dX3_takeFirst_107 : decode cX3_takeFirst 107 = .ok (.aload_n 0, 1) := by decide +kernel
theorem dX3_takeFirst_108 : decode cX3_takeFirst 108 = .ok (.getfield 29, 3) := by decide +kernel
theorem dX3_takeFirst_111 : decode cX3_takeFirst 111 = .ok (.iload 5, 2) := by decide +kernel
theorem dX3_takeFirst_113 : decode cX3_takeFirst 113 = .ok (.iconst 1, 1) := by decide +kernel
theorem dX3_takeFirst_114 : decode cX3_takeFirst 114 = .ok (.iadd, 1) := by decide +kernel
theorem dX3_takeFirst_115 : decode cX3_takeFirst 115 = .ok (.iaload, 1) := by decide +kernel
theorem dX3_takeFirst_116 : decode cX3_takeFirst 116 = .ok (.iload 5, 2) := by decide +kernel
theorem dX3_takeFirst_118 : decode cX3_takeFirst 118 = .ok (.invokevirtual 35, 3) := by decide +kernel
theorem dX3_takeFirst_121 : decode cX3_takeFirst 121 = .ok (.ifCond .eq 10, 3) := by decide +kernel
theorem dX3_takeFirst_124 : decode cX3_takeFirst 124 = .ok (.iload 5, 2) := by decide +kernel
theorem dX3_takeFirst_126 : decode cX3_takeFirst 126 = .ok (.iconst 1, 1) := by decide +kernel
theorem dX3_takeFirst_127 : decode cX3_takeFirst 127 = .ok (.iadd, 1) := by decide +kernel
theorem dX3_takeFirst_128 : decode cX3_takeFirst 128 = .ok (.goto 5, 3) := by decide +kernel
theorem dX3_takeFirst_131 : decode cX3_takeFirst 131 = .ok (.iload 5, 2) := by decide +kernel
theorem dX3_takeFirst_133 : decode cX3_takeFirst 133 = .ok (.istore 6, 2) := by decide +kernel
theorem dX3_takeFirst_135 : decode cX3_takeFirst 135 = .ok (.aload_n 0, 1) := by decide +kernel
theorem dX3_takeFirst_136 : decode cX3_takeFirst 136 = .ok (.iload_n 2, 1) := by decide +kernel
theorem dX3_takeFirst_137 : decode cX3_takeFirst 137 = .ok (.iload_n 3, 1) := by decide +kernel
theorem dX3_takeFirst_138 : decode cX3_takeFirst 138 = .ok (.iload 6, 2) := by decide +kernel
theorem dX3_takeFirst_140 : decode cX3_takeFirst 140 = .ok (.invokevirtual 35, 3) := by decide +kernel
theorem dX3_takeFirst_143 : decode cX3_takeFirst 143 = .ok (.ifCond .eq 6, 3) := by decide +kernel
theorem dX3_takeFirst_146 : decode cX3_takeFirst 146 = .ok (.goto 26, 3) := by decide +kernel
theorem dX3_takeFirst_149 : decode cX3_takeFirst 149 = .ok (.aload_n 0, 1) := by decide +kernel
theorem dX3_takeFirst_150 : decode cX3_takeFirst 150 = .ok (.iload 4, 2) := by decide +kernel
theorem dX3_takeFirst_152 : decode cX3_takeFirst 152 = .ok (.iload 6, 2) := by decide +kernel
theorem dX3_takeFirst_154 : decode cX3_takeFirst 154 = .ok (.invokevirtual 39, 3) := by decide +kernel
theorem dX3_takeFirst_157 : decode cX3_takeFirst 157 = .ok (.iload 6, 2) := by decide +kernel
theorem dX3_takeFirst_159 : decode cX3_takeFirst 159 = .ok (.istore 4, 2) := by decide +kernel
theorem dX3_takeFirst_161 : decode cX3_takeFirst 161 = .ok (.iconst 2, 1) := by decide +kernel
theorem dX3_takeFirst_162 : decode cX3_takeFirst 162 = .ok (.iload 4, 2) := by decide +kernel
theorem dX3_takeFirst_164 : decode cX3_takeFirst 164 = .ok (.imul, 1) := by decide +kernel
theorem dX3_takeFirst_165 : decode cX3_takeFirst 165 = .ok (.iconst 1, 1) := by decide +kernel
theorem dX3_takeFirst_166 : decode cX3_takeFirst 166 = .ok (.iadd, 1) := by decide +kernel
theorem dX3_takeFirst_167 : decode cX3_takeFirst 167 = .ok (.istore 5, 2) := by decide +kernel
theorem dX3_takeFirst_169 : decode cX3_takeFirst 169 = .ok (.goto (-92), 3) := by decide +kernel
theorem dX3_takeFirst_172 : decode cX3_takeFirst 172 = .ok (.aload_n 0, 1) := by decide +kernel
theorem dX3_takeFirst_173 : decode cX3_takeFirst 173 = .ok (.iload 4, 2) := by decide +kernel
theorem dX3_takeFirst_175 : decode cX3_takeFirst 175 = .ok (.iload_n 2, 1) := by decide +kernel
theorem dX3_takeFirst_176 : decode cX3_takeFirst 176 = .ok (.iload_n 3, 1) := by decide +kernel
theorem dX3_takeFirst_177 : decode cX3_takeFirst 177 = .ok (.invokevirtual 43, 3) := by decide +kernel
theorem dX3_takeFirst_180 : decode cX3_takeFirst 180 = .ok (.iload_n 1, 1) := by decide +kernel
theorem dX3_takeFirst_181 : decode cX3_takeFirst 181 = .ok (.ireturn, 1) := by decide +kernel
set_option maxRecDepth 20000 in
theorem ggX3_isAhead_X5_isBefore : GoodIn wsX3_isAhead wsX5_isBefore := goodIn_r _ [8, 9, 10, 11, 12, 13, 7, 14, 15, 16, 17, 18, 19, 20, 21, 22, 23, 29, 30, 31, 32, 33, 34, 35, 36, 37, 38, 39, 40, 41, 42, 43, 44] (by decide +kernel) (by decide +kernel)
set_option maxRecDepth 20000 in
theorem gX3_isAhead_X5_isBefore : GoodIn wsX3_isAhead (wsV RX3 47 RX5 yX5_isBefore wsX5_isBefore) := goodIn_app (goodIn_of _ (by decide +kernel)) ggX3_isAhead_X5_isBefore
theorem dX3_isAhead_0 : decode cX3_isAhead 0 = .ok (.iload_n 3, 1) := by decide +kernel
theorem dX3_isAhead_1 : decode cX3_isAhead 1 = .ok (.ifCond .lt 21, 3) := by decide +kernel
theorem dX3_isAhead_4 : decode cX3_isAhead 4 = .ok (.iload_n 3, 1) := by decide +kernel
theorem dX3_isAhead_5 : decode cX3_isAhead 5 = .ok (.aload_n 0, 1) := by decide +kernel
theorem dX3_isAhead_6 : decode cX3_isAhead 6 = .ok (.getfield 25, 3) := by decide +kernel
theorem dX3_isAhead_9 : decode cX3_isAhead 9 = .ok (.arraylength, 1) := by decide +kernel
theorem dX3_isAhead_10 : decode cX3_isAhead 10 = .ok (.if_icmp .ge 12, 3) := by decide +kernel
theorem dX3_isAhead_13 : decode cX3_isAhead 13 = .ok (.iload_n 3, 1) := by decide +kernel
theorem dX3_isAhead_14 : decode cX3_isAhead 14 = .ok (.aload_n 0, 1) := by decide +kernel
theorem dX3_isAhead_15 : decode cX3_isAhead 15 = .ok (.getfield 29, 3) := by decide +kernel
theorem dX3_isAhead_18 : decode cX3_isAhead 18 = .ok (.arraylength, 1) := by decide +kernel
theorem dX3_isAhead_19 : decode cX3_isAhead 19 = .ok (.if_icmp .lt 5, 3) := by decide +kernel
theorem dX3_isAhead_22 : decode cX3_isAhead 22 = .ok (.iconst 0, 1) := by decide +kernel
theorem dX3_isAhead_23 : decode cX3_isAhead 23 = .ok (.ireturn, 1) := by decide +kernel
theorem dX3_isAhead_24 : decode cX3_isAhead 24 = .ok (.iload_n 2, 1) := by decide +kernel
theorem dX3_isAhead_25 : decode cX3_isAhead 25 = .ok (.aload_n 0, 1) := by decide +kernel
theorem dX3_isAhead_26 : decode cX3_isAhead 26 = .ok (.getfield 29, 3) := by decide +kernel
theorem dX3_isAhead_29 : decode cX3_isAhead 29 = .ok (.iload_n 3, 1) := by decide +kernel
theorem dX3_isAhead_30 : decode cX3_isAhead 30 = .ok (.iaload, 1) := by decide +kernel
theorem dX3_isAhead_31 : decode cX3_isAhead 31 = .ok (.if_icmp .eq 21, 3) := by decide +kernel
theorem dX3_isAhead_34 : decode cX3_isAhead 34 = .ok (.iload_n 2, 1) := by decide +kernel
theorem dX3_isAhead_35 : decode cX3_isAhead 35 = .ok (.aload_n 0, 1) := by decide +kernel
theorem dX3_isAhead_36 : decode cX3_isAhead 36 = .ok (.getfield 29, 3) := by decide +kernel
theorem dX3_isAhead_39 : decode cX3_isAhead 39 = .ok (.iload_n 3, 1) := by decide +kernel
theorem dX3_isAhead_40 : decode cX3_isAhead 40 = .ok (.iaload, 1) := by decide +kernel
theorem dX3_isAhead_41 : decode cX3_isAhead 41 = .ok (.if_icmp .ge 7, 3) := by decide +kernel
theorem dX3_isAhead_44 : decode cX3_isAhead 44 = .ok (.iconst 1, 1) := by decide +kernel
theorem dX3_isAhead_45 : decode cX3_isAhead 45 = .ok (.goto 21, 3) := by decide +kernel
theorem dX3_isAhead_48 : decode cX3_isAhead 48 = .ok (.iconst 0, 1) := by decide +kernel
theorem dX3_isAhead_49 : decode cX3_isAhead 49 = .ok (.goto 17, 3) := by decide +kernel
theorem dX3_isAhead_52 : decode cX3_isAhead 52 = .ok (.aload_n 0, 1) := by decide +kernel
theorem dX3_isAhead_53 : decode cX3_isAhead 53 = .ok (.getfield 9, 3) := by decide +kernel
theorem dX3_isAhead_56 : decode cX3_isAhead 56 = .ok (.iload_n 1, 1) := by decide +kernel
theorem dX3_isAhead_57 : decode cX3_isAhead 57 = .ok (.aload_n 0, 1) := by decide +kernel
theorem dX3_isAhead_58 : decode cX3_isAhead 58 = .ok (.getfield 25, 3) := by decide +kernel
theorem dX3_isAhead_61 : decode cX3_isAhead 61 = .ok (.iload_n 3, 1) := by decide +kernel
theorem dX3_isAhead_62 : decode cX3_isAhead 62 = .ok (.iaload, 1) := by decide +kernel
theorem dX3_isAhead_63 : decode cX3_isAhead 63 = .ok (.invokevirtual 47, 3) := by decide +kernel
theorem dX3_isAhead_66 : decode cX3_isAhead 66 = .ok (.ireturn, 1) := by decide +kernel
set_option maxRecDepth 20000 in
theorem ggX3_copyTo_X3_put : GoodIn wsX3_copyTo wsX3_put := goodIn_r _ [7, 1, 2, 8, 9, 10, 11, 12] (by decide +kernel) (by decide +kernel)
set_option maxRecDepth 20000 in
theorem gX3_copyTo_X3_put : GoodIn wsX3_copyTo (wsV RX3 43 RX3 yX3_put wsX3_put) := goodIn_app (goodIn_of _ (by decide +kernel)) ggX3_copyTo_X3_put
theorem dX3_copyTo_0 : decode cX3_copyTo 0 = .ok (.iload_n 2, 1) := by decide +kernel
theorem dX3_copyTo_1 : decode cX3_copyTo 1 = .ok (.ifCond .lt 38, 3) := by decide +kernel
theorem dX3_copyTo_4 : decode cX3_copyTo 4 = .ok (.iload_n 2, 1) := by decide +kernel
theorem dX3_copyTo_5 : decode cX3_copyTo 5 = .ok (.aload_n 0, 1) := by decide +kernel
theorem dX3_copyTo_6 : decode cX3_copyTo 6 = .ok (.getfield 25, 3) := by decide +kernel
theorem dX3_copyTo_9 : decode cX3_copyTo 9 = .ok (.arraylength, 1) := by decide +kernel
theorem dX3_copyTo_10 : decode cX3_copyTo 10 = .ok (.if_icmp .ge 29, 3) := by decide +kernel
theorem dX3_copyTo_13 : decode cX3_copyTo 13 = .ok (.iload_n 2, 1) := by decide +kernel
theorem dX3_copyTo_14 : decode cX3_copyTo 14 = .ok (.aload_n 0, 1) := by decide +kernel
theorem dX3_copyTo_15 : decode cX3_copyTo 15 = .ok (.getfield 29, 3) := by decide +kernel
theorem dX3_copyTo_18 : decode cX3_copyTo 18 = .ok (.arraylength, 1) := by decide +kernel
theorem dX3_copyTo_19 : decode cX3_copyTo 19 = .ok (.if_icmp .ge 20, 3) := by decide +kernel
theorem dX3_copyTo_22 : decode cX3_copyTo 22 = .ok (.aload_n 0, 1) := by decide +kernel
theorem dX3_copyTo_23 : decode cX3_copyTo 23 = .ok (.iload_n 1, 1) := by decide +kernel
theorem dX3_copyTo_24 : decode cX3_copyTo 24 = .ok (.aload_n 0, 1) := by decide +kernel
theorem dX3_copyTo_25 : decode cX3_copyTo 25 = .ok (.getfield 25, 3) := by decide +kernel
theorem dX3_copyTo_28 : decode cX3_copyTo 28 = .ok (.iload_n 2, 1) := by decide +kernel
theorem dX3_copyTo_29 : decode cX3_copyTo 29 = .ok (.iaload, 1) := by decide +kernel
theorem dX3_copyTo_30 : decode cX3_copyTo 30 = .ok (.aload_n 0, 1) := by decide +kernel
theorem dX3_copyTo_31 : decode cX3_copyTo 31 = .ok (.getfield 29, 3) := by decide +kernel
theorem dX3_copyTo_34 : decode cX3_copyTo 34 = .ok (.iload_n 2, 1) := by decide +kernel
theorem dX3_copyTo_35 : decode cX3_copyTo 35 = .ok (.iaload, 1) := by decide +kernel
theorem dX3_copyTo_36 : decode cX3_copyTo 36 = .ok (.invokevirtual 43, 3) := by decide +kernel
theorem dX3_copyTo_39 : decode cX3_copyTo 39 = .ok (.return_, 1) := by decide +kernel
theorem dX3_put_0 : decode cX3_put 0 = .ok (.iload_n 1, 1) := by decide +kernel
theorem dX3_put_1 : decode cX3_put 1 = .ok (.ifCond .lt 35, 3) := by decide +kernel
theorem dX3_put_4 : decode cX3_put 4 = .ok (.iload_n 1, 1) := by decide +kernel
theorem dX3_put_5 : decode cX3_put 5 = .ok (.aload_n 0, 1) := by decide +kernel
theorem dX3_put_6 : decode cX3_put 6 = .ok (.getfield 25, 3) := by decide +kernel
theorem dX3_put_9 : decode cX3_put 9 = .ok (.arraylength, 1) := by decide +kernel
theorem dX3_put_10 : decode cX3_put 10 = .ok (.if_icmp .ge 26, 3) := by decide +kernel
theorem dX3_put_13 : decode cX3_put 13 = .ok (.iload_n 1, 1) := by decide +kernel
theorem dX3_put_14 : decode cX3_put 14 = .ok (.aload_n 0, 1) := by decide +kernel
theorem dX3_put_15 : decode cX3_put 15 = .ok (.getfield 29, 3) := by decide +kernel
theorem dX3_put_18 : decode cX3_put 18 = .ok (.arraylength, 1) := by decide +kernel
theorem dX3_put_19 : decode cX3_put 19 = .ok (.if_icmp .ge 17, 3) := by decide +kernel
theorem dX3_put_22 : decode cX3_put 22 = .ok (.aload_n 0, 1) := by decide +kernel
theorem dX3_put_23 : decode cX3_put 23 = .ok (.getfield 25, 3) := by decide +kernel
theorem dX3_put_26 : decode cX3_put 26 = .ok (.iload_n 1, 1) := by decide +kernel
theorem dX3_put_27 : decode cX3_put 27 = .ok (.iload_n 2, 1) := by decide +kernel
theorem dX3_put_28 : decode cX3_put 28 = .ok (.iastore, 1) := by decide +kernel
theorem dX3_put_29 : decode cX3_put 29 = .ok (.aload_n 0, 1) := by decide +kernel
theorem dX3_put_30 : decode cX3_put 30 = .ok (.getfield 29, 3) := by decide +kernel
theorem dX3_put_33 : decode cX3_put 33 = .ok (.iload_n 1, 1) := by decide +kernel
theorem dX3_put_34 : decode cX3_put 34 = .ok (.iload_n 3, 1) := by decide +kernel
theorem dX3_put_35 : decode cX3_put 35 = .ok (.iastore, 1) := by decide +kernel
theorem dX3_put_36 : decode cX3_put 36 = .ok (.return_, 1) := by decide +kernel
set_option maxRecDepth 20000 in
theorem ggX4_init_X6_init : GoodIn wsX4_init wsX6_init := goodIn_r _ [18, 19, 2, 3, 20, 21, 22, 23, 12, 24, 33, 34] (by decide +kernel) (by decide +kernel)
set_option maxRecDepth 20000 in
theorem gX4_init_X6_init : GoodIn wsX4_init (wsX6_init) := ggX4_init_X6_init
theorem dX4_init_0 : decode cX4_init 0 = .ok (.aload_n 0, 1) := by decide +kernel
theorem dX4_init_1 : decode cX4_init 1 = .ok (.invokespecial 3, 3) := by decide +kernel
theorem dX4_init_4 : decode cX4_init 4 = .ok (.aload_n 0, 1) := by decide +kernel
theorem dX4_init_5 : decode cX4_init 5 = .ok (.aload_n 1, 1) := by decide +kernel
theorem dX4_init_6 : decode cX4_init 6 = .ok (.putfield 9, 3) := by decide +kernel
theorem dX4_init_9 : decode cX4_init 9 = .ok (.aload_n 0, 1) := by decide +kernel
theorem dX4_init_10 : decode cX4_init 10 = .ok (.aload_n 2, 1) := by decide +kernel
theorem dX4_init_11 : decode cX4_init 11 = .ok (.putfield 15, 3) := by decide +kernel
theorem dX4_init_14 : decode cX4_init 14 = .ok (.aload_n 0, 1) := by decide +kernel
theorem dX4_init_15 : decode cX4_init 15 = .ok (.aload_n 3, 1) := by decide +kernel
theorem dX4_init_16 : decode cX4_init 16 = .ok (.putfield 19, 3) := by decide +kernel
theorem dX4_init_19 : decode cX4_init 19 = .ok (.aload_n 0, 1) := by decide +kernel
theorem dX4_init_20 : decode cX4_init 20 = .ok (.aload 4, 2) := by decide +kernel
theorem dX4_init_22 : decode cX4_init 22 = .ok (.putfield 23, 3) := by decide +kernel
theorem dX4_init_25 : decode cX4_init 25 = .ok (.aload_n 0, 1) := by decide +kernel
theorem dX4_init_26 : decode cX4_init 26 = .ok (.new 27, 3) := by decide +kernel
theorem dX4_init_29 : decode cX4_init 29 = .ok (.dup, 1) := by decide +kernel
theorem dX4_init_30 : decode cX4_init 30 = .ok (.bipush 8, 2) := by decide +kernel
theorem dX4_init_32 : decode cX4_init 32 = .ok (.invokespecial 29, 3) := by decide +kernel
theorem dX4_init_35 : decode cX4_init 35 = .ok (.putfield 32, 3) := by decide +kernel
theorem dX4_init_38 : decode cX4_init 38 = .ok (.aload_n 0, 1) := by decide +kernel
theorem dX4_init_39 : decode cX4_init 39 = .ok (.bipush 8, 2) := by decide +kernel
theorem dX4_init_41 : decode cX4_init 41 = .ok (.newarray .int, 2) := by decide +kernel
theorem dX4_init_43 : decode cX4_init 43 = .ok (.putfield 36, 3) := by decide +kernel
theorem dX4_init_46 : decode cX4_init 46 = .ok (.aload_n 0, 1) := by decide +kernel
theorem dX4_init_47 : decode cX4_init 47 = .ok (.bipush 8, 2) := by decide +kernel
theorem dX4_init_49 : decode cX4_init 49 = .ok (.newarray .int, 2) := by decide +kernel
theorem dX4_init_51 : decode cX4_init 51 = .ok (.putfield 40, 3) := by decide +kernel
theorem dX4_init_54 : decode cX4_init 54 = .ok (.aload_n 0, 1) := by decide +kernel
theorem dX4_init_55 : decode cX4_init 55 = .ok (.bipush 8, 2) := by decide +kernel
theorem dX4_init_57 : decode cX4_init 57 = .ok (.newarray .int, 2) := by decide +kernel
theorem dX4_init_59 : decode cX4_init 59 = .ok (.putfield 43, 3) := by decide +kernel
theorem dX4_init_62 : decode cX4_init 62 = .ok (.return_, 1) := by decide +kernel
set_option maxRecDepth 20000 in
theorem ggX4_merge_X7_beginStep : GoodIn wsX4_merge wsX7_beginStep := goodIn_r _ [9, 10, 11, 12, 13, 14, 15, 16, 17, 18, 19, 20, 21, 22, 23, 24, 25, 26, 27, 28, 29, 30, 31, 32, 33, 34, 35, 8, 36, 37, 38, 39, 40, 41, 188, 189, 190, 191, 192, 193, 194, 195, 196, 197, 198, 199, 200, 201, 202, 203, 204, 205, 206, 207, 208, 209] (by decide +kernel) (by decide +kernel)
set_option maxRecDepth 20000 in
theorem gX4_merge_X7_beginStep : GoodIn wsX4_merge (wsV RX4 46 RX7 yX7_beginStep wsX7_beginStep) := goodIn_app (goodIn_of _ (by decide +kernel)) ggX4_merge_X7_beginStep
set_option maxRecDepth 20000 in
theorem ggX4_merge_X4_start : GoodIn wsX4_merge wsX4_start := goodIn_r _ [46, 3, 47, 48, 49, 2, 4, 50, 51, 52, 30, 53, 32, 54, 55, 56, 57, 58, 59, 60, 61, 62, 63, 64, 65, 66, 67, 68, 69, 70, 71, 72, 73, 74, 75, 76, 180, 181, 182, 183, 184, 185, 186, 187, 210, 211, 212, 213, 214, 215, 216, 217, 218, 208, 209, 219, 220, 221] (by decide +kernel) (by decide +kernel)
set_option maxRecDepth 20000 in
theorem gX4_merge_X4_start : GoodIn wsX4_merge (wsV RX4 51 RX4 yX4_start wsX4_start) := goodIn_app (goodIn_of _ (by decide +kernel)) ggX4_merge_X4_start
set_option maxRecDepth 20000 in
theorem ggX4_merge_X4_firstAtHand : GoodIn wsX4_merge wsX4_firstAtHand := goodIn_r _ [80, 3, 2, 81, 50, 51, 52, 30, 53, 32, 82, 83, 84, 18, 85, 86, 21, 87, 88, 89, 90, 20, 26, 91, 92, 93, 94, 62, 95, 96, 180, 181, 182, 183, 184, 185, 186, 187, 208, 209, 201, 202, 203, 204, 205, 206, 207, 210, 211, 212, 213, 214, 215, 216, 217, 218] (by decide +kernel) (by decide +kernel)
set_option maxRecDepth 20000 in
theorem gX4_merge_X4_firstAtHand : GoodIn wsX4_merge (wsV RX4 55 RX4 yX4_firstAtHand wsX4_firstAtHand) := goodIn_app (goodIn_of _ (by decide +kernel)) ggX4_merge_X4_firstAtHand
set_option maxRecDepth 20000 in
theorem ggX4_merge_X7_goOut : GoodIn wsX4_merge wsX7_goOut := goodIn_r _ [100, 10, 38, 11, 12, 101, 37, 102, 103, 104, 105, 18, 106, 87, 88, 89, 90, 20, 21, 26, 91, 86, 92, 93, 94, 62, 95, 96, 107, 108, 109, 110, 8, 111, 112, 113, 114, 115, 41, 116, 117, 118, 119, 13, 120, 40, 39, 121, 122, 123, 124, 125, 126, 127, 128, 129, 130, 131, 132, 133, 65, 66, 67, 68, 69, 70, 134, 135, 136, 30, 137, 32, 58, 138, 139, 140, 74, 141, 142, 188, 189, 190, 191, 192, 193, 194, 195, 196, 197, 198, 199, 200, 201, 202, 203, 204, 205, 206, 207, 210, 211, 212, 213, 214, 215, 216, 217, 218, 208, 209, 219, 220, 221] (by decide +kernel) (by decide +kernel)
set_option maxRecDepth 20000 in
theorem gX4_merge_X7_goOut : GoodIn wsX4_merge (wsV RX4 58 RX7 yX7_goOut wsX7_goOut) := goodIn_app (goodIn_of _ (by decide +kernel)) ggX4_merge_X7_goOut
set_option maxRecDepth 20000 in
theorem ggX4_merge_X4_advance : GoodIn wsX4_merge wsX4_advance := goodIn_r _ [146, 49, 4, 3, 2, 81, 147, 148, 149, 150, 48, 47, 54, 55, 56, 30, 57, 32, 58, 71, 72, 73, 74, 75, 76, 151, 152, 153, 154, 142, 59, 60, 61, 62, 63, 64, 65, 66, 67, 68, 69, 70, 180, 181, 182, 183, 184, 185, 186, 187, 201, 202, 203, 204, 205, 206, 207, 210, 211, 212, 213, 214, 215, 216, 217, 218, 208, 209, 219, 220, 221] (by decide +kernel) (by decide +kernel)
set_option maxRecDepth 20000 in
theorem gX4_merge_X4_advance : GoodIn wsX4_merge (wsV RX4 62 RX4 yX4_advance wsX4_advance) := goodIn_app (goodIn_of _ (by decide +kernel)) ggX4_merge_X4_advance
set_option maxRecDepth 20000 in
theorem ggX4_merge_X7_endRun : GoodIn wsX4_merge wsX7_endRun := goodIn_r _ [158, 37, 39, 120, 41, 14, 112, 113, 114, 8, 115, 38, 11, 116, 117, 118, 119, 101, 102, 13, 40, 121, 122, 123, 62, 124, 125, 126, 127, 128, 129, 96, 130, 131, 132, 133, 65, 66, 67, 68, 69, 70, 134, 135, 136, 30, 137, 32, 58, 138, 139, 140, 74, 141, 142, 159, 160, 161, 162, 76, 33, 34, 35, 36, 188, 189, 190, 191, 192, 193, 194, 195, 196, 197, 198, 199, 200, 201, 202, 203, 204, 205, 206, 207, 210, 211, 212, 213, 214, 215, 216, 217, 218, 208, 209, 219, 220, 221] (by decide +kernel) (by decide +kernel)
set_option maxRecDepth 20000 in
theorem gX4_merge_X7_endRun : GoodIn wsX4_merge (wsV RX4 65 RX7 yX7_endRun wsX7_endRun) := goodIn_app (goodIn_of _ (by decide +kernel)) ggX4_merge_X7_endRun
set_option maxRecDepth 20000 in
theorem ggX4_merge_X7_undoStep : GoodIn wsX4_merge wsX7_undoStep := goodIn_r _ [166, 13, 101, 14, 167, 51, 52, 30, 53, 32, 168, 55, 56, 57, 58, 169, 170, 171, 62, 172, 125, 27, 28, 29, 31, 188, 189, 190, 191, 192, 193, 194, 195, 196, 197, 198, 199, 200, 208, 209, 210, 211, 212, 213, 214, 215, 216, 217, 218] (by decide +kernel) (by decide +kernel)
set_option maxRecDepth 20000 in
theorem gX4_merge_X7_undoStep : GoodIn wsX4_merge (wsV RX4 69 RX7 yX7_undoStep wsX7_undoStep) := goodIn_app (goodIn_of _ (by decide +kernel)) ggX4_merge_X7_undoStep
set_option maxRecDepth 20000 in
theorem ggX4_merge_X6_size : GoodIn wsX4_merge wsX6_size := goodIn_r _ [53, 32, 208, 209] (by decide +kernel) (by decide +kernel)
set_option maxRecDepth 20000 in
theorem gX4_merge_X6_size : GoodIn wsX4_merge (wsV RX4 72 RX6 yX6_size wsX6_size) := goodIn_app (goodIn_of _ (by decide +kernel)) ggX4_merge_X6_size
set_option maxRecDepth 20000 in
theorem ggX4_merge_X6_get : GoodIn wsX4_merge wsX6_get := goodIn_r _ [57, 32, 58, 208, 209] (by decide +kernel) (by decide +kernel)
set_option maxRecDepth 20000 in
theorem gX4_merge_X6_get : GoodIn wsX4_merge (wsV RX4 75 RX6 yX6_get wsX6_get) := goodIn_app (goodIn_of _ (by decide +kernel)) ggX4_merge_X6_get
set_option maxRecDepth 20000 in
theorem ggX4_merge_X1_remove : GoodIn wsX4_merge wsX1_remove := goodIn_r _ [176, 142, 177, 178, 170, 171, 62, 172, 125, 179, 152, 153, 74, 154, 219, 220, 221, 210, 211, 212, 213, 214, 215, 216, 217, 218] (by decide +kernel) (by decide +kernel)
set_option maxRecDepth 20000 in
theorem gX4_merge_X1_remove : GoodIn wsX4_merge (wsV RX4 79 RX1 yX1_remove wsX1_remove) := goodIn_app (goodIn_of _ (by decide +kernel)) ggX4_merge_X1_remove
theorem dX4_merge_0 : decode cX4_merge 0 = .ok (.aload_n 0, 1) := by decide +kernel
theorem dX4_merge_1 : decode cX4_merge 1 = .ok (.getfield 23, 3) := by decide +kernel
theorem dX4_merge_4 : decode cX4_merge 4 = .ok (.iload_n 1, 1) := by decide +kernel
theorem dX4_merge_5 : decode cX4_merge 5 = .ok (.invokevirtual 46, 3) := by decide +kernel
theorem dX4_merge_8 : decode cX4_merge 8 = .ok (.iconst 1, 1) := by decide +kernel
theorem dX4_merge_9 : decode cX4_merge 9 = .ok (.istore_n 2, 1) := by decide +kernel
theorem dX4_merge_10 : decode cX4_merge 10 = .ok (.aload_n 0, 1) := by decide +kernel
theorem dX4_merge_11 : decode cX4_merge 11 = .ok (.invokevirtual 51, 3) := by decide +kernel
theorem dX4_merge_14 : decode cX4_merge 14 = .ok (.istore_n 3, 1) := by decide +kernel
theorem dX4_merge_15 : decode cX4_merge 15 = .ok (.iload_n 3, 1) := by decide +kernel
theorem dX4_merge_16 : decode cX4_merge 16 = .ok (.ifCond .le 67, 3) := by decide +kernel
theorem dX4_merge_19 : decode cX4_merge 19 = .ok (.iload_n 2, 1) := by decide +kernel
theorem dX4_merge_20 : decode cX4_merge 20 = .ok (.ifCond .eq 63, 3) := by decide +kernel
theorem dX4_merge_23 : decode cX4_merge 23 = .ok (.aload_n 0, 1) := by decide +kernel
theorem dX4_merge_24 : decode cX4_merge 24 = .ok (.invokevirtual 55, 3) := by decide +kernel
theorem dX4_merge_27 : decode cX4_merge 27 = .ok (.istore 4, 2) := by decide +kernel
theorem dX4_merge_29 : decode cX4_merge 29 = .ok (.iload 4, 2) := by decide +kernel
theorem dX4_merge_31 : decode cX4_merge 31 = .ok (.ifCond .lt 34, 3) := by decide +kernel
theorem dX4_merge_34 : decode cX4_merge 34 = .ok (.iload 4, 2) := by decide +kernel
theorem dX4_merge_36 : decode cX4_merge 36 = .ok (.aload_n 0, 1) := by decide +kernel
theorem dX4_merge_37 : decode cX4_merge 37 = .ok (.getfield 43, 3) := by decide +kernel
theorem dX4_merge_40 : decode cX4_merge 40 = .ok (.arraylength, 1) := by decide +kernel
theorem dX4_merge_41 : decode cX4_merge 41 = .ok (.if_icmp .ge 24, 3) := by decide +kernel
theorem dX4_merge_44 : decode cX4_merge 44 = .ok (.aload_n 0, 1) := by decide +kernel
theorem dX4_merge_45 : decode cX4_merge 45 = .ok (.getfield 23, 3) := by decide +kernel
theorem dX4_merge_48 : decode cX4_merge 48 = .ok (.aload_n 0, 1) := by decide +kernel
theorem dX4_merge_49 : decode cX4_merge 49 = .ok (.getfield 43, 3) := by decide +kernel
theorem dX4_merge_52 : decode cX4_merge 52 = .ok (.iload 4, 2) := by decide +kernel
theorem dX4_merge_54 : decode cX4_merge 54 = .ok (.iaload, 1) := by decide +kernel
theorem dX4_merge_55 : decode cX4_merge 55 = .ok (.invokevirtual 58, 3) := by decide +kernel
theorem dX4_merge_58 : decode cX4_merge 58 = .ok (.ifCond .eq 7, 3) := by decide +kernel
theorem dX4_merge_61 : decode cX4_merge 61 = .ok (.iconst 1, 1) := by decide +kernel
theorem dX4_merge_62 : decode cX4_merge 62 = .ok (.goto 4, 3) := by decide +kernel
theorem dX4_merge_65 : decode cX4_merge 65 = .ok (.iconst 0, 1) := by decide +kernel
theorem dX4_merge_66 : decode cX4_merge 66 = .ok (.istore_n 2, 1) := by decide +kernel
theorem dX4_merge_67 : decode cX4_merge 67 = .ok (.iload_n 2, 1) := by decide +kernel
theorem dX4_merge_68 : decode cX4_merge 68 = .ok (.ifCond .eq 9, 3) := by decide +kernel
theorem dX4_merge_71 : decode cX4_merge 71 = .ok (.aload_n 0, 1) := by decide +kernel
theorem dX4_merge_72 : decode cX4_merge 72 = .ok (.iload 4, 2) := by decide +kernel
theorem dX4_merge_74 : decode cX4_merge 74 = .ok (.invokevirtual 62, 3) := by decide +kernel
theorem dX4_merge_77 : decode cX4_merge 77 = .ok (.iinc 3 (-1), 3) := by decide +kernel
theorem dX4_merge_80 : decode cX4_merge 80 = .ok (.goto (-65), 3) := by decide +kernel
theorem dX4_merge_83 : decode cX4_merge 83 = .ok (.iload_n 2, 1) := by decide +kernel
theorem dX4_merge_84 : decode cX4_merge 84 = .ok (.ifCond .eq 13, 3) := by decide +kernel
theorem dX4_merge_87 : decode cX4_merge 87 = .ok (.aload_n 0, 1) := by decide +kernel
theorem dX4_merge_88 : decode cX4_merge 88 = .ok (.getfield 23, 3) := by decide +kernel
theorem dX4_merge_91 : decode cX4_merge 91 = .ok (.invokevirtual 65, 3) := by decide +kernel
theorem dX4_merge_94 : decode cX4_merge 94 = .ok (.ifCond .ne 12, 3) := by decide +kernel
theorem dX4_merge_97 : decode cX4_merge 97 = .ok (.aload_n 0, 1) := by decide +kernel
theorem dX4_merge_98 : decode cX4_merge 98 = .ok (.getfield 23, 3) := by decide +kernel
theorem dX4_merge_101 : decode cX4_merge 101 = .ok (.invokevirtual 69, 3) := by decide +kernel
theorem dX4_merge_104 : decode cX4_merge 104 = .ok (.iconst (-1), 1) := by decide +kernel
theorem dX4_merge_105 : decode cX4_merge 105 = .ok (.ireturn, 1) := by decide +kernel
theorem dX4_merge_106 : decode cX4_merge 106 = .ok (.iconst 0, 1) := by decide +kernel
theorem dX4_merge_107 : decode cX4_merge 107 = .ok (.istore_n 3, 1) := by decide +kernel
theorem dX4_merge_108 : decode cX4_merge 108 = .ok (.iload_n 3, 1) := by decide +kernel
theorem dX4_merge_109 : decode cX4_merge 109 = .ok (.aload_n 0, 1) := by decide +kernel
theorem dX4_merge_110 : decode cX4_merge 110 = .ok (.getfield 32, 3) := by decide +kernel
theorem dX4_merge_113 : decode cX4_merge 113 = .ok (.invokevirtual 72, 3) := by decide +kernel
theorem dX4_merge_116 : decode cX4_merge 116 = .ok (.if_icmp .ge 24, 3) := by decide +kernel
theorem dX4_merge_119 : decode cX4_merge 119 = .ok (.aload_n 0, 1) := by decide +kernel
theorem dX4_merge_120 : decode cX4_merge 120 = .ok (.getfield 19, 3) := by decide +kernel
theorem dX4_merge_123 : decode cX4_merge 123 = .ok (.aload_n 0, 1) := by decide +kernel
theorem dX4_merge_124 : decode cX4_merge 124 = .ok (.getfield 32, 3) := by decide +kernel
theorem dX4_merge_127 : decode cX4_merge 127 = .ok (.iload_n 3, 1) := by decide +kernel
theorem dX4_merge_128 : decode cX4_merge 128 = .ok (.invokevirtual 75, 3) := by decide +kernel
theorem dX4_merge_131 : decode cX4_merge 131 = .ok (.invokevirtual 79, 3) := by decide +kernel
theorem dX4_merge_134 : decode cX4_merge 134 = .ok (.iinc 3 1, 3) := by decide +kernel
theorem dX4_merge_137 : decode cX4_merge 137 = .ok (.goto (-29), 3) := by decide +kernel
theorem dX4_merge_140 : decode cX4_merge 140 = .ok (.aload_n 0, 1) := by decide +kernel
theorem dX4_merge_141 : decode cX4_merge 141 = .ok (.getfield 23, 3) := by decide +kernel
theorem dX4_merge_144 : decode cX4_merge 144 = .ok (.getfield 84, 3) := by decide +kernel
theorem dX4_merge_147 : decode cX4_merge 147 = .ok (.iconst 0, 1) := by decide +kernel
theorem dX4_merge_148 : decode cX4_merge 148 = .ok (.invokevirtual 75, 3) := by decide +kernel
theorem dX4_merge_151 : decode cX4_merge 151 = .ok (.ireturn, 1) := by decide +kernel
set_option maxRecDepth 20000 in
theorem ggX4_start_X6_size : GoodIn wsX4_start wsX6_size := goodIn_r _ [11, 12, 53, 54] (by decide +kernel) (by decide +kernel)
set_option maxRecDepth 20000 in
theorem gX4_start_X6_size : GoodIn wsX4_start (wsV RX4 72 RX6 yX6_size wsX6_size) := goodIn_app (goodIn_of _ (by decide +kernel)) ggX4_start_X6_size
set_option maxRecDepth 20000 in
theorem ggX4_start_X6_get : GoodIn wsX4_start wsX6_get := goodIn_r _ [16, 12, 17, 53, 54] (by decide +kernel) (by decide +kernel)
set_option maxRecDepth 20000 in
theorem gX4_start_X6_get : GoodIn wsX4_start (wsV RX4 75 RX6 yX6_get wsX6_get) := goodIn_app (goodIn_of _ (by decide +kernel)) ggX4_start_X6_get
set_option maxRecDepth 20000 in
theorem ggX4_start_X0_readBlock : GoodIn wsX4_start wsX0_readBlock := goodIn_r _ [22, 23, 24, 25, 26, 21, 27, 28, 29, 44, 45, 46, 47, 48, 49, 50, 51, 52] (by decide +kernel) (by decide +kernel)
set_option maxRecDepth 20000 in
theorem gX4_start_X0_readBlock : GoodIn wsX4_start (wsV RX4 87 RX0 yX0_readBlock wsX0_readBlock) := goodIn_app (goodIn_of _ (by decide +kernel)) ggX4_start_X0_readBlock
set_option maxRecDepth 20000 in
theorem ggX4_start_X1_heldBy : GoodIn wsX4_start wsX1_heldBy := goodIn_r _ [34, 35, 55, 56, 57] (by decide +kernel) (by decide +kernel)
set_option maxRecDepth 20000 in
theorem gX4_start_X1_heldBy : GoodIn wsX4_start (wsV RX4 95 RX1 yX1_heldBy wsX1_heldBy) := goodIn_app (goodIn_of _ (by decide +kernel)) ggX4_start_X1_heldBy
theorem dX4_start_0 : decode cX4_start 0 = .ok (.iconst 0, 1) := by decide +kernel
theorem dX4_start_1 : decode cX4_start 1 = .ok (.istore_n 1, 1) := by decide +kernel
theorem dX4_start_2 : decode cX4_start 2 = .ok (.iconst 0, 1) := by decide +kernel
theorem dX4_start_3 : decode cX4_start 3 = .ok (.istore_n 2, 1) := by decide +kernel
theorem dX4_start_4 : decode cX4_start 4 = .ok (.iload_n 2, 1) := by decide +kernel
theorem dX4_start_5 : decode cX4_start 5 = .ok (.aload_n 0, 1) := by decide +kernel
theorem dX4_start_6 : decode cX4_start 6 = .ok (.getfield 32, 3) := by decide +kernel
theorem dX4_start_9 : decode cX4_start 9 = .ok (.invokevirtual 72, 3) := by decide +kernel
theorem dX4_start_12 : decode cX4_start 12 = .ok (.if_icmp .ge 72, 3) := by decide +kernel
theorem dX4_start_15 : decode cX4_start 15 = .ok (.iload_n 2, 1) := by decide +kernel
theorem dX4_start_16 : decode cX4_start 16 = .ok (.bipush 8, 2) := by decide +kernel
theorem dX4_start_18 : decode cX4_start 18 = .ok (.if_icmp .ge 66, 3) := by decide +kernel
theorem dX4_start_21 : decode cX4_start 21 = .ok (.aload_n 0, 1) := by decide +kernel
theorem dX4_start_22 : decode cX4_start 22 = .ok (.getfield 32, 3) := by decide +kernel
theorem dX4_start_25 : decode cX4_start 25 = .ok (.iload_n 2, 1) := by decide +kernel
theorem dX4_start_26 : decode cX4_start 26 = .ok (.invokevirtual 75, 3) := by decide +kernel
theorem dX4_start_29 : decode cX4_start 29 = .ok (.istore_n 3, 1) := by decide +kernel
theorem dX4_start_30 : decode cX4_start 30 = .ok (.aload_n 0, 1) := by decide +kernel
theorem dX4_start_31 : decode cX4_start 31 = .ok (.getfield 9, 3) := by decide +kernel
theorem dX4_start_34 : decode cX4_start 34 = .ok (.iload_n 3, 1) := by decide +kernel
theorem dX4_start_35 : decode cX4_start 35 = .ok (.invokevirtual 87, 3) := by decide +kernel
theorem dX4_start_38 : decode cX4_start 38 = .ok (.aload_n 0, 1) := by decide +kernel
theorem dX4_start_39 : decode cX4_start 39 = .ok (.getfield 36, 3) := by decide +kernel
theorem dX4_start_42 : decode cX4_start 42 = .ok (.iload_n 2, 1) := by decide +kernel
theorem dX4_start_43 : decode cX4_start 43 = .ok (.iload_n 3, 1) := by decide +kernel
theorem dX4_start_44 : decode cX4_start 44 = .ok (.iastore, 1) := by decide +kernel
theorem dX4_start_45 : decode cX4_start 45 = .ok (.aload_n 0, 1) := by decide +kernel
theorem dX4_start_46 : decode cX4_start 46 = .ok (.getfield 40, 3) := by decide +kernel
theorem dX4_start_49 : decode cX4_start 49 = .ok (.iload_n 2, 1) := by decide +kernel
theorem dX4_start_50 : decode cX4_start 50 = .ok (.iconst 0, 1) := by decide +kernel
theorem dX4_start_51 : decode cX4_start 51 = .ok (.iastore, 1) := by decide +kernel
theorem dX4_start_52 : decode cX4_start 52 = .ok (.aload_n 0, 1) := by decide +kernel
theorem dX4_start_53 : decode cX4_start 53 = .ok (.getfield 43, 3) := by decide +kernel
theorem dX4_start_56 : decode cX4_start 56 = .ok (.iload_n 2, 1) := by decide +kernel
theorem dX4_start_57 : decode cX4_start 57 = .ok (.iload_n 3, 1) := by decide +kernel
theorem dX4_start_58 : decode cX4_start 58 = .ok (.aload_n 0, 1) := by decide +kernel
theorem dX4_start_59 : decode cX4_start 59 = .ok (.getfield 9, 3) := by decide +kernel
theorem dX4_start_62 : decode cX4_start 62 = .ok (.getfield 92, 3) := by decide +kernel
theorem dX4_start_65 : decode cX4_start 65 = .ok (.imul, 1) := by decide +kernel
theorem dX4_start_66 : decode cX4_start 66 = .ok (.iastore, 1) := by decide +kernel
theorem dX4_start_67 : decode cX4_start 67 = .ok (.iload_n 1, 1) := by decide +kernel
theorem dX4_start_68 : decode cX4_start 68 = .ok (.aload_n 0, 1) := by decide +kernel
theorem dX4_start_69 : decode cX4_start 69 = .ok (.getfield 19, 3) := by decide +kernel
theorem dX4_start_72 : decode cX4_start 72 = .ok (.iload_n 3, 1) := by decide +kernel
theorem dX4_start_73 : decode cX4_start 73 = .ok (.invokevirtual 95, 3) := by decide +kernel
theorem dX4_start_76 : decode cX4_start 76 = .ok (.iadd, 1) := by decide +kernel
theorem dX4_start_77 : decode cX4_start 77 = .ok (.istore_n 1, 1) := by decide +kernel
theorem dX4_start_78 : decode cX4_start 78 = .ok (.iinc 2 1, 3) := by decide +kernel
theorem dX4_start_81 : decode cX4_start 81 = .ok (.goto (-77), 3) := by decide +kernel
theorem dX4_start_84 : decode cX4_start 84 = .ok (.iload_n 1, 1) := by decide +kernel
theorem dX4_start_85 : decode cX4_start 85 = .ok (.ireturn, 1) := by decide +kernel
set_option maxRecDepth 20000 in
theorem ggX4_firstAtHand_X6_size : GoodIn wsX4_firstAtHand wsX6_size := goodIn_r _ [8, 9, 38, 39] (by decide +kernel) (by decide +kernel)
set_option maxRecDepth 20000 in
theorem gX4_firstAtHand_X6_size : GoodIn wsX4_firstAtHand (wsV RX4 72 RX6 yX6_size wsX6_size) := goodIn_app (goodIn_of _ (by decide +kernel)) ggX4_firstAtHand_X6_size
set_option maxRecDepth 20000 in
theorem ggX4_firstAtHand_X5_isBefore : GoodIn wsX4_firstAtHand wsX5_isBefore := goodIn_r _ [14, 15, 16, 17, 18, 19, 13, 20, 21, 22, 23, 24, 25, 26, 27, 28, 29, 40, 41, 42, 43, 44, 45, 46, 47, 48, 49, 50, 51, 52, 53, 54, 55] (by decide +kernel) (by decide +kernel)
set_option maxRecDepth 20000 in
theorem gX4_firstAtHand_X5_isBefore : GoodIn wsX4_firstAtHand (wsV RX4 98 RX5 yX5_isBefore wsX5_isBefore) := goodIn_app (goodIn_of _ (by decide +kernel)) ggX4_firstAtHand_X5_isBefore
theorem dX4_firstAtHand_0 : decode cX4_firstAtHand 0 = .ok (.iconst (-1), 1) := by decide +kernel
theorem dX4_firstAtHand_1 : decode cX4_firstAtHand 1 = .ok (.istore_n 1, 1) := by decide +kernel
theorem dX4_firstAtHand_2 : decode cX4_firstAtHand 2 = .ok (.iconst 0, 1) := by decide +kernel
theorem dX4_firstAtHand_3 : decode cX4_firstAtHand 3 = .ok (.istore_n 2, 1) := by decide +kernel
theorem dX4_firstAtHand_4 : decode cX4_firstAtHand 4 = .ok (.iload_n 2, 1) := by decide +kernel
theorem dX4_firstAtHand_5 : decode cX4_firstAtHand 5 = .ok (.aload_n 0, 1) := by decide +kernel
theorem dX4_firstAtHand_6 : decode cX4_firstAtHand 6 = .ok (.getfield 32, 3) := by decide +kernel
theorem dX4_firstAtHand_9 : decode cX4_firstAtHand 9 = .ok (.invokevirtual 72, 3) := by decide +kernel
theorem dX4_firstAtHand_12 : decode cX4_firstAtHand 12 = .ok (.if_icmp .ge 54, 3) := by decide +kernel
theorem dX4_firstAtHand_15 : decode cX4_firstAtHand 15 = .ok (.iload_n 2, 1) := by decide +kernel
theorem dX4_firstAtHand_16 : decode cX4_firstAtHand 16 = .ok (.bipush 8, 2) := by decide +kernel
theorem dX4_firstAtHand_18 : decode cX4_firstAtHand 18 = .ok (.if_icmp .ge 48, 3) := by decide +kernel
theorem dX4_firstAtHand_21 : decode cX4_firstAtHand 21 = .ok (.aload_n 0, 1) := by decide +kernel
theorem dX4_firstAtHand_22 : decode cX4_firstAtHand 22 = .ok (.getfield 43, 3) := by decide +kernel
theorem dX4_firstAtHand_25 : decode cX4_firstAtHand 25 = .ok (.iload_n 2, 1) := by decide +kernel
theorem dX4_firstAtHand_26 : decode cX4_firstAtHand 26 = .ok (.iaload, 1) := by decide +kernel
theorem dX4_firstAtHand_27 : decode cX4_firstAtHand 27 = .ok (.iconst (-1), 1) := by decide +kernel
theorem dX4_firstAtHand_28 : decode cX4_firstAtHand 28 = .ok (.if_icmp .eq 32, 3) := by decide +kernel
theorem dX4_firstAtHand_31 : decode cX4_firstAtHand 31 = .ok (.iload_n 1, 1) := by decide +kernel
theorem dX4_firstAtHand_32 : decode cX4_firstAtHand 32 = .ok (.iconst (-1), 1) := by decide +kernel
theorem dX4_firstAtHand_33 : decode cX4_firstAtHand 33 = .ok (.if_icmp .eq 25, 3) := by decide +kernel
theorem dX4_firstAtHand_36 : decode cX4_firstAtHand 36 = .ok (.aload_n 0, 1) := by decide +kernel
theorem dX4_firstAtHand_37 : decode cX4_firstAtHand 37 = .ok (.getfield 15, 3) := by decide +kernel
theorem dX4_firstAtHand_40 : decode cX4_firstAtHand 40 = .ok (.aload_n 0, 1) := by decide +kernel
theorem dX4_firstAtHand_41 : decode cX4_firstAtHand 41 = .ok (.getfield 43, 3) := by decide +kernel
theorem dX4_firstAtHand_44 : decode cX4_firstAtHand 44 = .ok (.iload_n 2, 1) := by decide +kernel
theorem dX4_firstAtHand_45 : decode cX4_firstAtHand 45 = .ok (.iaload, 1) := by decide +kernel
theorem dX4_firstAtHand_46 : decode cX4_firstAtHand 46 = .ok (.aload_n 0, 1) := by decide +kernel
theorem dX4_firstAtHand_47 : decode cX4_firstAtHand 47 = .ok (.getfield 43, 3) := by decide +kernel
theorem dX4_firstAtHand_50 : decode cX4_firstAtHand 50 = .ok (.iload_n 1, 1) := by decide +kernel
theorem dX4_firstAtHand_51 : decode cX4_firstAtHand 51 = .ok (.iaload, 1) := by decide +kernel
theorem dX4_firstAtHand_52 : decode cX4_firstAtHand 52 = .ok (.invokevirtual 98, 3) := by decide +kernel
theorem dX4_firstAtHand_55 : decode cX4_firstAtHand 55 = .ok (.ifCond .eq 5, 3) := by decide +kernel
theorem dX4_firstAtHand_58 : decode cX4_firstAtHand 58 = .ok (.iload_n 2, 1) := by decide +kernel
theorem dX4_firstAtHand_59 : decode cX4_firstAtHand 59 = .ok (.istore_n 1, 1) := by decide +kernel
theorem dX4_firstAtHand_60 : decode cX4_firstAtHand 60 = .ok (.iinc 2 1, 3) := by decide +kernel
theorem dX4_firstAtHand_63 : decode cX4_firstAtHand 63 = .ok (.goto (-59), 3) := by decide +kernel
theorem dX4_firstAtHand_66 : decode cX4_firstAtHand 66 = .ok (.iload_n 1, 1) := by decide +kernel
theorem dX4_firstAtHand_67 : decode cX4_firstAtHand 67 = .ok (.ireturn, 1) := by decide +kernel
set_option maxRecDepth 20000 in
theorem ggX4_advance_X6_get : GoodIn wsX4_advance wsX6_get := goodIn_r _ [16, 17, 18, 66, 67] (by decide +kernel) (by decide +kernel)
set_option maxRecDepth 20000 in
theorem gX4_advance_X6_get : GoodIn wsX4_advance (wsV RX4 75 RX6 yX6_get wsX6_get) := goodIn_app (goodIn_of _ (by decide +kernel)) ggX4_advance_X6_get
set_option maxRecDepth 20000 in
theorem ggX4_advance_X1_heldBy : GoodIn wsX4_advance wsX1_heldBy := goodIn_r _ [23, 24, 68, 69, 70] (by decide +kernel) (by decide +kernel)
set_option maxRecDepth 20000 in
theorem gX4_advance_X1_heldBy : GoodIn wsX4_advance (wsV RX4 95 RX1 yX1_heldBy wsX1_heldBy) := goodIn_app (goodIn_of _ (by decide +kernel)) ggX4_advance_X1_heldBy
set_option maxRecDepth 20000 in
theorem ggX4_advance_X1_behind : GoodIn wsX4_advance wsX1_behind := goodIn_r _ [28, 29, 68, 69, 70] (by decide +kernel) (by decide +kernel)
set_option maxRecDepth 20000 in
theorem gX4_advance_X1_behind : GoodIn wsX4_advance (wsV RX4 113 RX1 yX1_behind wsX1_behind) := goodIn_app (goodIn_of _ (by decide +kernel)) ggX4_advance_X1_behind
set_option maxRecDepth 20000 in
theorem ggX4_advance_X0_readBlock : GoodIn wsX4_advance wsX0_readBlock := goodIn_r _ [34, 35, 36, 37, 38, 33, 39, 40, 41, 57, 58, 59, 60, 61, 62, 63, 64, 65] (by decide +kernel) (by decide +kernel)
set_option maxRecDepth 20000 in
theorem gX4_advance_X0_readBlock : GoodIn wsX4_advance (wsV RX4 87 RX0 yX0_readBlock wsX0_readBlock) := goodIn_app (goodIn_of _ (by decide +kernel)) ggX4_advance_X0_readBlock
theorem dX4_advance_0 : decode cX4_advance 0 = .ok (.iload_n 1, 1) := by decide +kernel
theorem dX4_advance_1 : decode cX4_advance 1 = .ok (.ifCond .lt 9, 3) := by decide +kernel
theorem dX4_advance_4 : decode cX4_advance 4 = .ok (.iload_n 1, 1) := by decide +kernel
theorem dX4_advance_5 : decode cX4_advance 5 = .ok (.bipush 8, 2) := by decide +kernel
theorem dX4_advance_7 : decode cX4_advance 7 = .ok (.if_icmp .lt 4, 3) := by decide +kernel
theorem dX4_advance_10 : decode cX4_advance 10 = .ok (.return_, 1) := by decide +kernel
theorem dX4_advance_11 : decode cX4_advance 11 = .ok (.aload_n 0, 1) := by decide +kernel
theorem dX4_advance_12 : decode cX4_advance 12 = .ok (.getfield 40, 3) := by decide +kernel
theorem dX4_advance_15 : decode cX4_advance 15 = .ok (.iload_n 1, 1) := by decide +kernel
theorem dX4_advance_16 : decode cX4_advance 16 = .ok (.dup2, 1) := by decide +kernel
theorem dX4_advance_17 : decode cX4_advance 17 = .ok (.iaload, 1) := by decide +kernel
theorem dX4_advance_18 : decode cX4_advance 18 = .ok (.iconst 1, 1) := by decide +kernel
theorem dX4_advance_19 : decode cX4_advance 19 = .ok (.iadd, 1) := by decide +kernel
theorem dX4_advance_20 : decode cX4_advance 20 = .ok (.iastore, 1) := by decide +kernel
theorem dX4_advance_21 : decode cX4_advance 21 = .ok (.aload_n 0, 1) := by decide +kernel
theorem dX4_advance_22 : decode cX4_advance 22 = .ok (.getfield 40, 3) := by decide +kernel
theorem dX4_advance_25 : decode cX4_advance 25 = .ok (.iload_n 1, 1) := by decide +kernel
theorem dX4_advance_26 : decode cX4_advance 26 = .ok (.iaload, 1) := by decide +kernel
theorem dX4_advance_27 : decode cX4_advance 27 = .ok (.aload_n 0, 1) := by decide +kernel
theorem dX4_advance_28 : decode cX4_advance 28 = .ok (.getfield 19, 3) := by decide +kernel
theorem dX4_advance_31 : decode cX4_advance 31 = .ok (.aload_n 0, 1) := by decide +kernel
theorem dX4_advance_32 : decode cX4_advance 32 = .ok (.getfield 32, 3) := by decide +kernel
theorem dX4_advance_35 : decode cX4_advance 35 = .ok (.iload_n 1, 1) := by decide +kernel
theorem dX4_advance_36 : decode cX4_advance 36 = .ok (.invokevirtual 75, 3) := by decide +kernel
theorem dX4_advance_39 : decode cX4_advance 39 = .ok (.invokevirtual 95, 3) := by decide +kernel
theorem dX4_advance_42 : decode cX4_advance 42 = .ok (.if_icmp .lt 13, 3) := by decide +kernel
theorem dX4_advance_45 : decode cX4_advance 45 = .ok (.aload_n 0, 1) := by decide +kernel
theorem dX4_advance_46 : decode cX4_advance 46 = .ok (.getfield 43, 3) := by decide +kernel
theorem dX4_advance_49 : decode cX4_advance 49 = .ok (.iload_n 1, 1) := by decide +kernel
theorem dX4_advance_50 : decode cX4_advance 50 = .ok (.iconst (-1), 1) := by decide +kernel
theorem dX4_advance_51 : decode cX4_advance 51 = .ok (.iastore, 1) := by decide +kernel
theorem dX4_advance_52 : decode cX4_advance 52 = .ok (.goto 95, 3) := by decide +kernel
theorem dX4_advance_55 : decode cX4_advance 55 = .ok (.aload_n 0, 1) := by decide +kernel
theorem dX4_advance_56 : decode cX4_advance 56 = .ok (.getfield 40, 3) := by decide +kernel
theorem dX4_advance_59 : decode cX4_advance 59 = .ok (.iload_n 1, 1) := by decide +kernel
theorem dX4_advance_60 : decode cX4_advance 60 = .ok (.iaload, 1) := by decide +kernel
theorem dX4_advance_61 : decode cX4_advance 61 = .ok (.iconst 1, 1) := by decide +kernel
theorem dX4_advance_62 : decode cX4_advance 62 = .ok (.aload_n 0, 1) := by decide +kernel
theorem dX4_advance_63 : decode cX4_advance 63 = .ok (.getfield 15, 3) := by decide +kernel
theorem dX4_advance_66 : decode cX4_advance 66 = .ok (.getfield 104, 3) := by decide +kernel
theorem dX4_advance_69 : decode cX4_advance 69 = .ok (.invokestatic 107, 3) := by decide +kernel
theorem dX4_advance_72 : decode cX4_advance 72 = .ok (.irem, 1) := by decide +kernel
theorem dX4_advance_73 : decode cX4_advance 73 = .ok (.ifCond .ne 58, 3) := by decide +kernel
theorem dX4_advance_76 : decode cX4_advance 76 = .ok (.aload_n 0, 1) := by decide +kernel
theorem dX4_advance_77 : decode cX4_advance 77 = .ok (.getfield 36, 3) := by decide +kernel
theorem dX4_advance_80 : decode cX4_advance 80 = .ok (.iload_n 1, 1) := by decide +kernel
theorem dX4_advance_81 : decode cX4_advance 81 = .ok (.aload_n 0, 1) := by decide +kernel
theorem dX4_advance_82 : decode cX4_advance 82 = .ok (.getfield 19, 3) := by decide +kernel
theorem dX4_advance_85 : decode cX4_advance 85 = .ok (.aload_n 0, 1) := by decide +kernel
theorem dX4_advance_86 : decode cX4_advance 86 = .ok (.getfield 36, 3) := by decide +kernel
theorem dX4_advance_89 : decode cX4_advance 89 = .ok (.iload_n 1, 1) := by decide +kernel
theorem dX4_advance_90 : decode cX4_advance 90 = .ok (.iaload, 1) := by decide +kernel
theorem dX4_advance_91 : decode cX4_advance 91 = .ok (.invokevirtual 113, 3) := by decide +kernel
theorem dX4_advance_94 : decode cX4_advance 94 = .ok (.iastore, 1) := by decide +kernel
theorem dX4_advance_95 : decode cX4_advance 95 = .ok (.aload_n 0, 1) := by decide +kernel
theorem dX4_advance_96 : decode cX4_advance 96 = .ok (.getfield 9, 3) := by decide +kernel
theorem dX4_advance_99 : decode cX4_advance 99 = .ok (.aload_n 0, 1) := by decide +kernel
theorem dX4_advance_100 : decode cX4_advance 100 = .ok (.getfield 36, 3) := by decide +kernel
theorem dX4_advance_103 : decode cX4_advance 103 = .ok (.iload_n 1, 1) := by decide +kernel
theorem dX4_advance_104 : decode cX4_advance 104 = .ok (.iaload, 1) := by decide +kernel
theorem dX4_advance_105 : decode cX4_advance 105 = .ok (.invokevirtual 87, 3) := by decide +kernel
theorem dX4_advance_108 : decode cX4_advance 108 = .ok (.aload_n 0, 1) := by decide +kernel
theorem dX4_advance_109 : decode cX4_advance 109 = .ok (.getfield 43, 3) := by decide +kernel
theorem dX4_advance_112 : decode cX4_advance 112 = .ok (.iload_n 1, 1) := by decide +kernel
theorem dX4_advance_113 : decode cX4_advance 113 = .ok (.aload_n 0, 1) := by decide +kernel
theorem dX4_advance_114 : decode cX4_advance 114 = .ok (.getfield 36, 3) := by decide +kernel
theorem dX4_advance_117 : decode cX4_advance 117 = .ok (.iload_n 1, 1) := by decide +kernel
theorem dX4_advance_118 : decode cX4_advance 118 = .ok (.iaload, 1) := by decide +kernel
theorem dX4_advance_119 : decode cX4_advance 119 = .ok (.aload_n 0, 1) := by decide +kernel
theorem dX4_advance_120 : decode cX4_advance 120 = .ok (.getfield 9, 3) := by decide +kernel
theorem dX4_advance_123 : decode cX4_advance 123 = .ok (.getfield 92, 3) := by decide +kernel
theorem dX4_advance_126 : decode cX4_advance 126 = .ok (.imul, 1) := by decide +kernel
theorem dX4_advance_127 : decode cX4_advance 127 = .ok (.iastore, 1) := by decide +kernel
theorem dX4_advance_128 : decode cX4_advance 128 = .ok (.goto 19, 3) := by decide +kernel
theorem dX4_advance_131 : decode cX4_advance 131 = .ok (.aload_n 0, 1) := by decide +kernel
theorem dX4_advance_132 : decode cX4_advance 132 = .ok (.getfield 43, 3) := by decide +kernel
theorem dX4_advance_135 : decode cX4_advance 135 = .ok (.iload_n 1, 1) := by decide +kernel
theorem dX4_advance_136 : decode cX4_advance 136 = .ok (.dup2, 1) := by decide +kernel
theorem dX4_advance_137 : decode cX4_advance 137 = .ok (.iaload, 1) := by decide +kernel
theorem dX4_advance_138 : decode cX4_advance 138 = .ok (.aload_n 0, 1) := by decide +kernel
theorem dX4_advance_139 : decode cX4_advance 139 = .ok (.getfield 15, 3) := by decide +kernel
theorem dX4_advance_142 : decode cX4_advance 142 = .ok (.getfield 116, 3) := by decide +kernel
theorem dX4_advance_145 : decode cX4_advance 145 = .ok (.iadd, 1) := by decide +kernel
theorem dX4_advance_146 : decode cX4_advance 146 = .ok (.iastore, 1) := by decide +kernel
theorem dX4_advance_147 : decode cX4_advance 147 = .ok (.return_, 1) := by decide +kernel
theorem dX5_init_0 : decode cX5_init 0 = .ok (.aload_n 0, 1) := by decide +kernel
theorem dX5_init_1 : decode cX5_init 1 = .ok (.invokespecial 3, 3) := by decide +kernel
theorem dX5_init_4 : decode cX5_init 4 = .ok (.aload_n 0, 1) := by decide +kernel
theorem dX5_init_5 : decode cX5_init 5 = .ok (.aload_n 1, 1) := by decide +kernel
theorem dX5_init_6 : decode cX5_init 6 = .ok (.putfield 9, 3) := by decide +kernel
theorem dX5_init_9 : decode cX5_init 9 = .ok (.aload_n 0, 1) := by decide +kernel
theorem dX5_init_10 : decode cX5_init 10 = .ok (.iconst 4, 1) := by decide +kernel
theorem dX5_init_11 : decode cX5_init 11 = .ok (.newarray .int, 2) := by decide +kernel
theorem dX5_init_13 : decode cX5_init 13 = .ok (.putfield 15, 3) := by decide +kernel
theorem dX5_init_16 : decode cX5_init 16 = .ok (.aload_n 0, 1) := by decide +kernel
theorem dX5_init_17 : decode cX5_init 17 = .ok (.iconst 4, 1) := by decide +kernel
theorem dX5_init_18 : decode cX5_init 18 = .ok (.newarray .boolean, 2) := by decide +kernel
theorem dX5_init_20 : decode cX5_init 20 = .ok (.putfield 19, 3) := by decide +kernel
theorem dX5_init_23 : decode cX5_init 23 = .ok (.aload_n 0, 1) := by decide +kernel
theorem dX5_init_24 : decode cX5_init 24 = .ok (.iconst 1, 1) := by decide +kernel
theorem dX5_init_25 : decode cX5_init 25 = .ok (.putfield 23, 3) := by decide +kernel
theorem dX5_init_28 : decode cX5_init 28 = .ok (.aload_n 0, 1) := by decide +kernel
theorem dX5_init_29 : decode cX5_init 29 = .ok (.iconst 2, 1) := by decide +kernel
theorem dX5_init_30 : decode cX5_init 30 = .ok (.putfield 27, 3) := by decide +kernel
theorem dX5_init_33 : decode cX5_init 33 = .ok (.aload_n 0, 1) := by decide +kernel
theorem dX5_init_34 : decode cX5_init 34 = .ok (.iconst 1, 1) := by decide +kernel
theorem dX5_init_35 : decode cX5_init 35 = .ok (.aload_n 1, 1) := by decide +kernel
theorem dX5_init_36 : decode cX5_init 36 = .ok (.getfield 30, 3) := by decide +kernel
theorem dX5_init_39 : decode cX5_init 39 = .ok (.iconst 2, 1) := by decide +kernel
theorem dX5_init_40 : decode cX5_init 40 = .ok (.idiv, 1) := by decide +kernel
theorem dX5_init_41 : decode cX5_init 41 = .ok (.invokestatic 35, 3) := by decide +kernel
theorem dX5_init_44 : decode cX5_init 44 = .ok (.putfield 41, 3) := by decide +kernel
theorem dX5_init_47 : decode cX5_init 47 = .ok (.return_, 1) := by decide +kernel
set_option maxRecDepth 20000 in
theorem ggX5_restart_X9_within : GoodIn wsX5_restart wsX9_within := goodIn_r _ [12, 13, 14, 6, 15, 16, 5, 7] (by decide +kernel) (by decide +kernel)
set_option maxRecDepth 20000 in
theorem gX5_restart_X9_within_n44 : GoodIn wsX5_restart (wsX9_within) := ggX5_restart_X9_within
theorem dX5_restart_0 : decode cX5_restart 0 = .ok (.aload_n 0, 1) := by decide +kernel
theorem dX5_restart_1 : decode cX5_restart 1 = .ok (.iload_n 1, 1) := by decide +kernel
theorem dX5_restart_2 : decode cX5_restart 2 = .ok (.iconst 1, 1) := by decide +kernel
theorem dX5_restart_3 : decode cX5_restart 3 = .ok (.iconst 4, 1) := by decide +kernel
theorem dX5_restart_4 : decode cX5_restart 4 = .ok (.invokestatic 44, 3) := by decide +kernel
theorem dX5_restart_7 : decode cX5_restart 7 = .ok (.putfield 23, 3) := by decide +kernel
theorem dX5_restart_10 : decode cX5_restart 10 = .ok (.aload_n 0, 1) := by decide +kernel
theorem dX5_restart_11 : decode cX5_restart 11 = .ok (.aload_n 0, 1) := by decide +kernel
theorem dX5_restart_12 : decode cX5_restart 12 = .ok (.getfield 23, 3) := by decide +kernel
theorem dX5_restart_15 : decode cX5_restart 15 = .ok (.iconst 1, 1) := by decide +kernel
theorem dX5_restart_16 : decode cX5_restart 16 = .ok (.iadd, 1) := by decide +kernel
theorem dX5_restart_17 : decode cX5_restart 17 = .ok (.putfield 27, 3) := by decide +kernel
theorem dX5_restart_20 : decode cX5_restart 20 = .ok (.aload_n 0, 1) := by decide +kernel
theorem dX5_restart_21 : decode cX5_restart 21 = .ok (.iconst 1, 1) := by decide +kernel
theorem dX5_restart_22 : decode cX5_restart 22 = .ok (.aload_n 0, 1) := by decide +kernel
theorem dX5_restart_23 : decode cX5_restart 23 = .ok (.getfield 9, 3) := by decide +kernel
theorem dX5_restart_26 : decode cX5_restart 26 = .ok (.getfield 30, 3) := by decide +kernel
theorem dX5_restart_29 : decode cX5_restart 29 = .ok (.iconst 1, 1) := by decide +kernel
theorem dX5_restart_30 : decode cX5_restart 30 = .ok (.aload_n 0, 1) := by decide +kernel
theorem dX5_restart_31 : decode cX5_restart 31 = .ok (.getfield 27, 3) := by decide +kernel
theorem dX5_restart_34 : decode cX5_restart 34 = .ok (.invokestatic 35, 3) := by decide +kernel
theorem dX5_restart_37 : decode cX5_restart 37 = .ok (.idiv, 1) := by decide +kernel
theorem dX5_restart_38 : decode cX5_restart 38 = .ok (.invokestatic 35, 3) := by decide +kernel
theorem dX5_restart_41 : decode cX5_restart 41 = .ok (.putfield 41, 3) := by decide +kernel
theorem dX5_restart_44 : decode cX5_restart 44 = .ok (.aload_n 0, 1) := by decide +kernel
theorem dX5_restart_45 : decode cX5_restart 45 = .ok (.iconst 0, 1) := by decide +kernel
theorem dX5_restart_46 : decode cX5_restart 46 = .ok (.putfield 48, 3) := by decide +kernel
theorem dX5_restart_49 : decode cX5_restart 49 = .ok (.return_, 1) := by decide +kernel
theorem dX5_hasKey_0 : decode cX5_hasKey 0 = .ok (.iconst 0, 1) := by decide +kernel
theorem dX5_hasKey_1 : decode cX5_hasKey 1 = .ok (.istore_n 2, 1) := by decide +kernel
theorem dX5_hasKey_2 : decode cX5_hasKey 2 = .ok (.iload_n 2, 1) := by decide +kernel
theorem dX5_hasKey_3 : decode cX5_hasKey 3 = .ok (.aload_n 0, 1) := by decide +kernel
theorem dX5_hasKey_4 : decode cX5_hasKey 4 = .ok (.getfield 48, 3) := by decide +kernel
theorem dX5_hasKey_7 : decode cX5_hasKey 7 = .ok (.if_icmp .ge 30, 3) := by decide +kernel
theorem dX5_hasKey_10 : decode cX5_hasKey 10 = .ok (.iload_n 2, 1) := by decide +kernel
theorem dX5_hasKey_11 : decode cX5_hasKey 11 = .ok (.aload_n 0, 1) := by decide +kernel
theorem dX5_hasKey_12 : decode cX5_hasKey 12 = .ok (.getfield 15, 3) := by decide +kernel
theorem dX5_hasKey_15 : decode cX5_hasKey 15 = .ok (.arraylength, 1) := by decide +kernel
theorem dX5_hasKey_16 : decode cX5_hasKey 16 = .ok (.if_icmp .ge 21, 3) := by decide +kernel
theorem dX5_hasKey_19 : decode cX5_hasKey 19 = .ok (.aload_n 0, 1) := by decide +kernel
theorem dX5_hasKey_20 : decode cX5_hasKey 20 = .ok (.getfield 15, 3) := by decide +kernel
theorem dX5_hasKey_23 : decode cX5_hasKey 23 = .ok (.iload_n 2, 1) := by decide +kernel
theorem dX5_hasKey_24 : decode cX5_hasKey 24 = .ok (.iaload, 1) := by decide +kernel
theorem dX5_hasKey_25 : decode cX5_hasKey 25 = .ok (.iload_n 1, 1) := by decide +kernel
theorem dX5_hasKey_26 : decode cX5_hasKey 26 = .ok (.if_icmp .ne 5, 3) := by decide +kernel
theorem dX5_hasKey_29 : decode cX5_hasKey 29 = .ok (.iconst 1, 1) := by decide +kernel
theorem dX5_hasKey_30 : decode cX5_hasKey 30 = .ok (.ireturn, 1) := by decide +kernel
theorem dX5_hasKey_31 : decode cX5_hasKey 31 = .ok (.iinc 2 1, 3) := by decide +kernel
theorem dX5_hasKey_34 : decode cX5_hasKey 34 = .ok (.goto (-32), 3) := by decide +kernel
theorem dX5_hasKey_37 : decode cX5_hasKey 37 = .ok (.iconst 0, 1) := by decide +kernel
theorem dX5_hasKey_38 : decode cX5_hasKey 38 = .ok (.ireturn, 1) := by decide +kernel
theorem dX5_addKey_0 : decode cX5_addKey 0 = .ok (.aload_n 0, 1) := by decide +kernel
theorem dX5_addKey_1 : decode cX5_addKey 1 = .ok (.getfield 48, 3) := by decide +kernel
theorem dX5_addKey_4 : decode cX5_addKey 4 = .ok (.ifCond .lt 57, 3) := by decide +kernel
theorem dX5_addKey_7 : decode cX5_addKey 7 = .ok (.aload_n 0, 1) := by decide +kernel
theorem dX5_addKey_8 : decode cX5_addKey 8 = .ok (.getfield 48, 3) := by decide +kernel
theorem dX5_addKey_11 : decode cX5_addKey 11 = .ok (.aload_n 0, 1) := by decide +kernel
theorem dX5_addKey_12 : decode cX5_addKey 12 = .ok (.getfield 15, 3) := by decide +kernel
theorem dX5_addKey_15 : decode cX5_addKey 15 = .ok (.arraylength, 1) := by decide +kernel
theorem dX5_addKey_16 : decode cX5_addKey 16 = .ok (.if_icmp .ge 45, 3) := by decide +kernel
theorem dX5_addKey_19 : decode cX5_addKey 19 = .ok (.aload_n 0, 1) := by decide +kernel
theorem dX5_addKey_20 : decode cX5_addKey 20 = .ok (.getfield 48, 3) := by decide +kernel
theorem dX5_addKey_23 : decode cX5_addKey 23 = .ok (.aload_n 0, 1) := by decide +kernel
theorem dX5_addKey_24 : decode cX5_addKey 24 = .ok (.getfield 19, 3) := by decide +kernel
theorem dX5_addKey_27 : decode cX5_addKey 27 = .ok (.arraylength, 1) := by decide +kernel
theorem dX5_addKey_28 : decode cX5_addKey 28 = .ok (.if_icmp .ge 33, 3) := by decide +kernel
theorem dX5_addKey_31 : decode cX5_addKey 31 = .ok (.aload_n 0, 1) := by decide +kernel
theorem dX5_addKey_32 : decode cX5_addKey 32 = .ok (.getfield 15, 3) := by decide +kernel
theorem dX5_addKey_35 : decode cX5_addKey 35 = .ok (.aload_n 0, 1) := by decide +kernel
theorem dX5_addKey_36 : decode cX5_addKey 36 = .ok (.getfield 48, 3) := by decide +kernel
theorem dX5_addKey_39 : decode cX5_addKey 39 = .ok (.iload_n 1, 1) := by decide +kernel
theorem dX5_addKey_40 : decode cX5_addKey 40 = .ok (.iastore, 1) := by decide +kernel
theorem dX5_addKey_41 : decode cX5_addKey 41 = .ok (.aload_n 0, 1) := by decide +kernel
theorem dX5_addKey_42 : decode cX5_addKey 42 = .ok (.getfield 19, 3) := by decide +kernel
theorem dX5_addKey_45 : decode cX5_addKey 45 = .ok (.aload_n 0, 1) := by decide +kernel
theorem dX5_addKey_46 : decode cX5_addKey 46 = .ok (.getfield 48, 3) := by decide +kernel
theorem dX5_addKey_49 : decode cX5_addKey 49 = .ok (.iload_n 2, 1) := by decide +kernel
theorem dX5_addKey_50 : decode cX5_addKey 50 = .ok (.bastore, 1) := by decide +kernel
theorem dX5_addKey_51 : decode cX5_addKey 51 = .ok (.aload_n 0, 1) := by decide +kernel
theorem dX5_addKey_52 : decode cX5_addKey 52 = .ok (.dup, 1) := by decide +kernel
theorem dX5_addKey_53 : decode cX5_addKey 53 = .ok (.getfield 48, 3) := by decide +kernel
theorem dX5_addKey_56 : decode cX5_addKey 56 = .ok (.iconst 1, 1) := by decide +kernel
theorem dX5_addKey_57 : decode cX5_addKey 57 = .ok (.iadd, 1) := by decide +kernel
theorem dX5_addKey_58 : decode cX5_addKey 58 = .ok (.putfield 48, 3) := by decide +kernel
theorem dX5_addKey_61 : decode cX5_addKey 61 = .ok (.aload_n 0, 1) := by decide +kernel
theorem dX5_addKey_62 : decode cX5_addKey 62 = .ok (.getfield 48, 3) := by decide +kernel
theorem dX5_addKey_65 : decode cX5_addKey 65 = .ok (.ireturn, 1) := by decide +kernel
set_option maxRecDepth 20000 in
theorem ggX5_canSum_X5_hasKey : GoodIn wsX5_canSum wsX5_hasKey := goodIn_r _ [7, 1, 8, 9, 10, 11, 12, 13, 14, 15] (by decide +kernel) (by decide +kernel)
set_option maxRecDepth 20000 in
theorem gX5_canSum_X5_hasKey : GoodIn wsX5_canSum (wsV RX5 51 RX5 yX5_hasKey wsX5_hasKey) := goodIn_app (goodIn_of _ (by decide +kernel)) ggX5_canSum_X5_hasKey
theorem dX5_canSum_0 : decode cX5_canSum 0 = .ok (.aload_n 0, 1) := by decide +kernel
theorem dX5_canSum_1 : decode cX5_canSum 1 = .ok (.getfield 48, 3) := by decide +kernel
theorem dX5_canSum_4 : decode cX5_canSum 4 = .ok (.ifCond .le 20, 3) := by decide +kernel
theorem dX5_canSum_7 : decode cX5_canSum 7 = .ok (.aload_n 0, 1) := by decide +kernel
theorem dX5_canSum_8 : decode cX5_canSum 8 = .ok (.aload_n 0, 1) := by decide +kernel
theorem dX5_canSum_9 : decode cX5_canSum 9 = .ok (.getfield 23, 3) := by decide +kernel
theorem dX5_canSum_12 : decode cX5_canSum 12 = .ok (.iconst 1, 1) := by decide +kernel
theorem dX5_canSum_13 : decode cX5_canSum 13 = .ok (.isub, 1) := by decide +kernel
theorem dX5_canSum_14 : decode cX5_canSum 14 = .ok (.invokevirtual 51, 3) := by decide +kernel
theorem dX5_canSum_17 : decode cX5_canSum 17 = .ok (.ifCond .ne 7, 3) := by decide +kernel
theorem dX5_canSum_20 : decode cX5_canSum 20 = .ok (.iconst 1, 1) := by decide +kernel
theorem dX5_canSum_21 : decode cX5_canSum 21 = .ok (.goto 4, 3) := by decide +kernel
theorem dX5_canSum_24 : decode cX5_canSum 24 = .ok (.iconst 0, 1) := by decide +kernel
theorem dX5_canSum_25 : decode cX5_canSum 25 = .ok (.ireturn, 1) := by decide +kernel
theorem dX5_blocksFor_0 : decode cX5_blocksFor 0 = .ok (.iload_n 1, 1) := by decide +kernel
theorem dX5_blocksFor_1 : decode cX5_blocksFor 1 = .ok (.aload_n 0, 1) := by decide +kernel
theorem dX5_blocksFor_2 : decode cX5_blocksFor 2 = .ok (.getfield 41, 3) := by decide +kernel
theorem dX5_blocksFor_5 : decode cX5_blocksFor 5 = .ok (.iadd, 1) := by decide +kernel
theorem dX5_blocksFor_6 : decode cX5_blocksFor 6 = .ok (.iconst 1, 1) := by decide +kernel
theorem dX5_blocksFor_7 : decode cX5_blocksFor 7 = .ok (.isub, 1) := by decide +kernel
theorem dX5_blocksFor_8 : decode cX5_blocksFor 8 = .ok (.iconst 1, 1) := by decide +kernel
theorem dX5_blocksFor_9 : decode cX5_blocksFor 9 = .ok (.aload_n 0, 1) := by decide +kernel
theorem dX5_blocksFor_10 : decode cX5_blocksFor 10 = .ok (.getfield 41, 3) := by decide +kernel
theorem dX5_blocksFor_13 : decode cX5_blocksFor 13 = .ok (.invokestatic 35, 3) := by decide +kernel
theorem dX5_blocksFor_16 : decode cX5_blocksFor 16 = .ok (.idiv, 1) := by decide +kernel
theorem dX5_blocksFor_17 : decode cX5_blocksFor 17 = .ok (.ireturn, 1) := by decide +kernel
theorem dX5_firstColumn_0 : decode cX5_firstColumn 0 = .ok (.aload_n 0, 1) := by decide +kernel
theorem dX5_firstColumn_1 : decode cX5_firstColumn 1 = .ok (.getfield 48, 3) := by decide +kernel
theorem dX5_firstColumn_4 : decode cX5_firstColumn 4 = .ok (.ifCond .le 20, 3) := by decide +kernel
theorem dX5_firstColumn_7 : decode cX5_firstColumn 7 = .ok (.aload_n 0, 1) := by decide +kernel
theorem dX5_firstColumn_8 : decode cX5_firstColumn 8 = .ok (.getfield 15, 3) := by decide +kernel
theorem dX5_firstColumn_11 : decode cX5_firstColumn 11 = .ok (.arraylength, 1) := by decide +kernel
theorem dX5_firstColumn_12 : decode cX5_firstColumn 12 = .ok (.ifCond .le 12, 3) := by decide +kernel
theorem dX5_firstColumn_15 : decode cX5_firstColumn 15 = .ok (.aload_n 0, 1) := by decide +kernel
theorem dX5_firstColumn_16 : decode cX5_firstColumn 16 = .ok (.getfield 15, 3) := by decide +kernel
theorem dX5_firstColumn_19 : decode cX5_firstColumn 19 = .ok (.iconst 0, 1) := by decide +kernel
theorem dX5_firstColumn_20 : decode cX5_firstColumn 20 = .ok (.iaload, 1) := by decide +kernel
theorem dX5_firstColumn_21 : decode cX5_firstColumn 21 = .ok (.goto 4, 3) := by decide +kernel
theorem dX5_firstColumn_24 : decode cX5_firstColumn 24 = .ok (.iconst 0, 1) := by decide +kernel
theorem dX5_firstColumn_25 : decode cX5_firstColumn 25 = .ok (.ireturn, 1) := by decide +kernel
theorem dX5_isBeforeInFirstKey_0 : decode cX5_isBeforeInFirstKey 0 = .ok (.aload_n 0, 1) := by decide +kernel
theorem dX5_isBeforeInFirstKey_1 : decode cX5_isBeforeInFirstKey 1 = .ok (.getfield 48, 3) := by decide +kernel
theorem dX5_isBeforeInFirstKey_4 : decode cX5_isBeforeInFirstKey 4 = .ok (.ifCond .le 34, 3) := by decide +kernel
theorem dX5_isBeforeInFirstKey_7 : decode cX5_isBeforeInFirstKey 7 = .ok (.aload_n 0, 1) := by decide +kernel
theorem dX5_isBeforeInFirstKey_8 : decode cX5_isBeforeInFirstKey 8 = .ok (.getfield 19, 3) := by decide +kernel
theorem dX5_isBeforeInFirstKey_11 : decode cX5_isBeforeInFirstKey 11 = .ok (.arraylength, 1) := by decide +kernel
theorem dX5_isBeforeInFirstKey_12 : decode cX5_isBeforeInFirstKey 12 = .ok (.ifCond .le 26, 3) := by decide +kernel
theorem dX5_isBeforeInFirstKey_15 : decode cX5_isBeforeInFirstKey 15 = .ok (.aload_n 0, 1) := by decide +kernel
theorem dX5_isBeforeInFirstKey_16 : decode cX5_isBeforeInFirstKey 16 = .ok (.getfield 19, 3) := by decide +kernel
theorem dX5_isBeforeInFirstKey_19 : decode cX5_isBeforeInFirstKey 19 = .ok (.iconst 0, 1) := by decide +kernel
theorem dX5_isBeforeInFirstKey_20 : decode cX5_isBeforeInFirstKey 20 = .ok (.baload, 1) := by decide +kernel
theorem dX5_isBeforeInFirstKey_21 : decode cX5_isBeforeInFirstKey 21 = .ok (.ifCond .eq 17, 3) := by decide +kernel
theorem dX5_isBeforeInFirstKey_24 : decode cX5_isBeforeInFirstKey 24 = .ok (.lload_n 1, 1) := by decide +kernel
theorem dX5_isBeforeInFirstKey_25 : decode cX5_isBeforeInFirstKey 25 = .ok (.lload_n 3, 1) := by decide +kernel
theorem dX5_isBeforeInFirstKey_26 : decode cX5_isBeforeInFirstKey 26 = .ok (.lcmp, 1) := by decide +kernel
theorem dX5_isBeforeInFirstKey_27 : decode cX5_isBeforeInFirstKey 27 = .ok (.ifCond .le 7, 3) := by decide +kernel
theorem dX5_isBeforeInFirstKey_30 : decode cX5_isBeforeInFirstKey 30 = .ok (.iconst 1, 1) := by decide +kernel
theorem dX5_isBeforeInFirstKey_31 : decode cX5_isBeforeInFirstKey 31 = .ok (.goto 18, 3) := by decide +kernel
theorem dX5_isBeforeInFirstKey_34 : decode cX5_isBeforeInFirstKey 34 = .ok (.iconst 0, 1) := by decide +kernel
theorem dX5_isBeforeInFirstKey_35 : decode cX5_isBeforeInFirstKey 35 = .ok (.goto 14, 3) := by decide +kernel
theorem dX5_isBeforeInFirstKey_38 : decode cX5_isBeforeInFirstKey 38 = .ok (.lload_n 1, 1) := by decide +kernel
theorem dX5_isBeforeInFirstKey_39 : decode cX5_isBeforeInFirstKey 39 = .ok (.lload_n 3, 1) := by decide +kernel
theorem dX5_isBeforeInFirstKey_40 : decode cX5_isBeforeInFirstKey 40 = .ok (.lcmp, 1) := by decide +kernel
theorem dX5_isBeforeInFirstKey_41 : decode cX5_isBeforeInFirstKey 41 = .ok (.ifCond .ge 7, 3) := by decide +kernel
theorem dX5_isBeforeInFirstKey_44 : decode cX5_isBeforeInFirstKey 44 = .ok (.iconst 1, 1) := by decide +kernel
theorem dX5_isBeforeInFirstKey_45 : decode cX5_isBeforeInFirstKey 45 = .ok (.goto 4, 3) := by decide +kernel
theorem dX5_isBeforeInFirstKey_48 : decode cX5_isBeforeInFirstKey 48 = .ok (.iconst 0, 1) := by decide +kernel
theorem dX5_isBeforeInFirstKey_49 : decode cX5_isBeforeInFirstKey 49 = .ok (.ireturn, 1) := by decide +kernel
set_option maxRecDepth 20000 in
theorem ggX5_isBefore_X5_compareKeys : GoodIn wsX5_isBefore wsX5_compareKeys := goodIn_r _ [7, 8, 2, 9, 10, 1, 11, 12, 13, 14, 15, 16, 17, 18, 19, 20, 21, 22, 23, 24, 25, 26, 27, 28, 29, 30, 31, 32] (by decide +kernel) (by decide +kernel)
set_option maxRecDepth 20000 in
theorem gX5_isBefore_X5_compareKeys : GoodIn wsX5_isBefore (wsV RX5 55 RX5 yX5_compareKeys wsX5_compareKeys) := goodIn_app (goodIn_of _ (by decide +kernel)) ggX5_isBefore_X5_compareKeys
set_option maxRecDepth 20000 in
theorem ggX5_isBefore_X0_cell : GoodIn wsX5_isBefore wsX0_cell := goodIn_r _ [15, 16, 24, 25, 26, 27, 28, 29, 30, 31, 32] (by decide +kernel) (by decide +kernel)
set_option maxRecDepth 20000 in
theorem gX5_isBefore_X0_cell : GoodIn wsX5_isBefore (wsV RX5 58 RX0 yX0_cell wsX0_cell) := goodIn_app (goodIn_of _ (by decide +kernel)) ggX5_isBefore_X0_cell
theorem dX5_isBefore_0 : decode cX5_isBefore 0 = .ok (.aload_n 0, 1) := by decide +kernel
theorem dX5_isBefore_1 : decode cX5_isBefore 1 = .ok (.iload_n 1, 1) := by decide +kernel
theorem dX5_isBefore_2 : decode cX5_isBefore 2 = .ok (.iload_n 2, 1) := by decide +kernel
theorem dX5_isBefore_3 : decode cX5_isBefore 3 = .ok (.invokevirtual 55, 3) := by decide +kernel
theorem dX5_isBefore_6 : decode cX5_isBefore 6 = .ok (.istore_n 3, 1) := by decide +kernel
theorem dX5_isBefore_7 : decode cX5_isBefore 7 = .ok (.iload_n 3, 1) := by decide +kernel
theorem dX5_isBefore_8 : decode cX5_isBefore 8 = .ok (.ifCond .lt 37, 3) := by decide +kernel
theorem dX5_isBefore_11 : decode cX5_isBefore 11 = .ok (.iload_n 3, 1) := by decide +kernel
theorem dX5_isBefore_12 : decode cX5_isBefore 12 = .ok (.ifCond .ne 37, 3) := by decide +kernel
theorem dX5_isBefore_15 : decode cX5_isBefore 15 = .ok (.aload_n 0, 1) := by decide +kernel
theorem dX5_isBefore_16 : decode cX5_isBefore 16 = .ok (.getfield 9, 3) := by decide +kernel
theorem dX5_isBefore_19 : decode cX5_isBefore 19 = .ok (.iload_n 1, 1) := by decide +kernel
theorem dX5_isBefore_20 : decode cX5_isBefore 20 = .ok (.aload_n 0, 1) := by decide +kernel
theorem dX5_isBefore_21 : decode cX5_isBefore 21 = .ok (.getfield 23, 3) := by decide +kernel
theorem dX5_isBefore_24 : decode cX5_isBefore 24 = .ok (.iadd, 1) := by decide +kernel
theorem dX5_isBefore_25 : decode cX5_isBefore 25 = .ok (.invokevirtual 58, 3) := by decide +kernel
theorem dX5_isBefore_28 : decode cX5_isBefore 28 = .ok (.aload_n 0, 1) := by decide +kernel
theorem dX5_isBefore_29 : decode cX5_isBefore 29 = .ok (.getfield 9, 3) := by decide +kernel
theorem dX5_isBefore_32 : decode cX5_isBefore 32 = .ok (.iload_n 2, 1) := by decide +kernel
theorem dX5_isBefore_33 : decode cX5_isBefore 33 = .ok (.aload_n 0, 1) := by decide +kernel
theorem dX5_isBefore_34 : decode cX5_isBefore 34 = .ok (.getfield 23, 3) := by decide +kernel
theorem dX5_isBefore_37 : decode cX5_isBefore 37 = .ok (.iadd, 1) := by decide +kernel
theorem dX5_isBefore_38 : decode cX5_isBefore 38 = .ok (.invokevirtual 58, 3) := by decide +kernel
theorem dX5_isBefore_41 : decode cX5_isBefore 41 = .ok (.lcmp, 1) := by decide +kernel
theorem dX5_isBefore_42 : decode cX5_isBefore 42 = .ok (.ifCond .ge 7, 3) := by decide +kernel
theorem dX5_isBefore_45 : decode cX5_isBefore 45 = .ok (.iconst 1, 1) := by decide +kernel
theorem dX5_isBefore_46 : decode cX5_isBefore 46 = .ok (.goto 4, 3) := by decide +kernel
theorem dX5_isBefore_49 : decode cX5_isBefore 49 = .ok (.iconst 0, 1) := by decide +kernel
theorem dX5_isBefore_50 : decode cX5_isBefore 50 = .ok (.ireturn, 1) := by decide +kernel
set_option maxRecDepth 20000 in
theorem ggX5_isAlike_X5_compareKeys : GoodIn wsX5_isAlike wsX5_compareKeys := goodIn_r _ [5, 6, 7, 8, 9, 10, 11, 12, 13, 14, 15, 16, 17, 18, 19, 20, 21, 22, 23, 24, 25, 26, 27, 28, 29, 30, 31, 32] (by decide +kernel) (by decide +kernel)
set_option maxRecDepth 20000 in
theorem gX5_isAlike_X5_compareKeys : GoodIn wsX5_isAlike (wsV RX5 55 RX5 yX5_compareKeys wsX5_compareKeys) := goodIn_app (goodIn_of _ (by decide +kernel)) ggX5_isAlike_X5_compareKeys
theorem dX5_isAlike_0 : decode cX5_isAlike 0 = .ok (.aload_n 0, 1) := by decide +kernel
theorem dX5_isAlike_1 : decode cX5_isAlike 1 = .ok (.iload_n 1, 1) := by decide +kernel
theorem dX5_isAlike_2 : decode cX5_isAlike 2 = .ok (.iload_n 2, 1) := by decide +kernel
theorem dX5_isAlike_3 : decode cX5_isAlike 3 = .ok (.invokevirtual 55, 3) := by decide +kernel
theorem dX5_isAlike_6 : decode cX5_isAlike 6 = .ok (.ifCond .ne 7, 3) := by decide +kernel
theorem dX5_isAlike_9 : decode cX5_isAlike 9 = .ok (.iconst 1, 1) := by decide +kernel
theorem dX5_isAlike_10 : decode cX5_isAlike 10 = .ok (.goto 4, 3) := by decide +kernel
theorem dX5_isAlike_13 : decode cX5_isAlike 13 = .ok (.iconst 0, 1) := by decide +kernel
theorem dX5_isAlike_14 : decode cX5_isAlike 14 = .ok (.ireturn, 1) := by decide +kernel
set_option maxRecDepth 20000 in
theorem ggX5_compareKeys_X0_cell : GoodIn wsX5_compareKeys wsX0_cell := goodIn_r _ [10, 11, 19, 20, 21, 22, 23, 24, 25, 26, 27] (by decide +kernel) (by decide +kernel)
set_option maxRecDepth 20000 in
theorem gX5_compareKeys_X0_cell : GoodIn wsX5_compareKeys (wsV RX5 58 RX0 yX0_cell wsX0_cell) := goodIn_app (goodIn_of _ (by decide +kernel)) ggX5_compareKeys_X0_cell
theorem dX5_compareKeys_0 : decode cX5_compareKeys 0 = .ok (.aload_n 0, 1) := by decide +kernel
theorem dX5_compareKeys_1 : decode cX5_compareKeys 1 = .ok (.getfield 48, 3) := by decide +kernel
theorem dX5_compareKeys_4 : decode cX5_compareKeys 4 = .ok (.ifCond .ne 10, 3) := by decide +kernel
theorem dX5_compareKeys_7 : decode cX5_compareKeys 7 = .ok (.aload_n 0, 1) := by decide +kernel
theorem dX5_compareKeys_8 : decode cX5_compareKeys 8 = .ok (.getfield 23, 3) := by decide +kernel
theorem dX5_compareKeys_11 : decode cX5_compareKeys 11 = .ok (.goto 7, 3) := by decide +kernel
theorem dX5_compareKeys_14 : decode cX5_compareKeys 14 = .ok (.aload_n 0, 1) := by decide +kernel
theorem dX5_compareKeys_15 : decode cX5_compareKeys 15 = .ok (.getfield 48, 3) := by decide +kernel
theorem dX5_compareKeys_18 : decode cX5_compareKeys 18 = .ok (.istore_n 3, 1) := by decide +kernel
theorem dX5_compareKeys_19 : decode cX5_compareKeys 19 = .ok (.iconst 0, 1) := by decide +kernel
theorem dX5_compareKeys_20 : decode cX5_compareKeys 20 = .ok (.istore 4, 2) := by decide +kernel
theorem dX5_compareKeys_22 : decode cX5_compareKeys 22 = .ok (.iload 4, 2) := by decide +kernel
theorem dX5_compareKeys_24 : decode cX5_compareKeys 24 = .ok (.iload_n 3, 1) := by decide +kernel
theorem dX5_compareKeys_25 : decode cX5_compareKeys 25 = .ok (.if_icmp .ge 132, 3) := by decide +kernel
theorem dX5_compareKeys_28 : decode cX5_compareKeys 28 = .ok (.iload 4, 2) := by decide +kernel
theorem dX5_compareKeys_30 : decode cX5_compareKeys 30 = .ok (.aload_n 0, 1) := by decide +kernel
theorem dX5_compareKeys_31 : decode cX5_compareKeys 31 = .ok (.getfield 15, 3) := by decide +kernel
theorem dX5_compareKeys_34 : decode cX5_compareKeys 34 = .ok (.arraylength, 1) := by decide +kernel
theorem dX5_compareKeys_35 : decode cX5_compareKeys 35 = .ok (.if_icmp .ge 122, 3) := by decide +kernel
theorem dX5_compareKeys_38 : decode cX5_compareKeys 38 = .ok (.iload 4, 2) := by decide +kernel
theorem dX5_compareKeys_40 : decode cX5_compareKeys 40 = .ok (.aload_n 0, 1) := by decide +kernel
theorem dX5_compareKeys_41 : decode cX5_compareKeys 41 = .ok (.getfield 19, 3) := by decide +kernel
theorem dX5_compareKeys_44 : decode cX5_compareKeys 44 = .ok (.arraylength, 1) := by decide +kernel
theorem dX5_compareKeys_45 : decode cX5_compareKeys 45 = .ok (.if_icmp .ge 112, 3) := by decide +kernel
theorem dX5_compareKeys_48 : decode cX5_compareKeys 48 = .ok (.aload_n 0, 1) := by decide +kernel
theorem dX5_compareKeys_49 : decode cX5_compareKeys 49 = .ok (.getfield 48, 3) := by decide +kernel
theorem dX5_compareKeys_52 : decode cX5_compareKeys 52 = .ok (.ifCond .ne 8, 3) := by decide +kernel
theorem dX5_compareKeys_55 : decode cX5_compareKeys 55 = .ok (.iload 4, 2) := by decide +kernel
theorem dX5_compareKeys_57 : decode cX5_compareKeys 57 = .ok (.goto 10, 3) := by decide +kernel
theorem dX5_compareKeys_60 : decode cX5_compareKeys 60 = .ok (.aload_n 0, 1) := by decide +kernel
theorem dX5_compareKeys_61 : decode cX5_compareKeys 61 = .ok (.getfield 15, 3) := by decide +kernel
theorem dX5_compareKeys_64 : decode cX5_compareKeys 64 = .ok (.iload 4, 2) := by decide +kernel
theorem dX5_compareKeys_66 : decode cX5_compareKeys 66 = .ok (.iaload, 1) := by decide +kernel
theorem dX5_compareKeys_67 : decode cX5_compareKeys 67 = .ok (.istore 5, 2) := by decide +kernel
theorem dX5_compareKeys_69 : decode cX5_compareKeys 69 = .ok (.aload_n 0, 1) := by decide +kernel
theorem dX5_compareKeys_70 : decode cX5_compareKeys 70 = .ok (.getfield 48, 3) := by decide +kernel
theorem dX5_compareKeys_73 : decode cX5_compareKeys 73 = .ok (.ifCond .le 17, 3) := by decide +kernel
theorem dX5_compareKeys_76 : decode cX5_compareKeys 76 = .ok (.aload_n 0, 1) := by decide +kernel
theorem dX5_compareKeys_77 : decode cX5_compareKeys 77 = .ok (.getfield 19, 3) := by decide +kernel
theorem dX5_compareKeys_80 : decode cX5_compareKeys 80 = .ok (.iload 4, 2) := by decide +kernel
theorem dX5_compareKeys_82 : decode cX5_compareKeys 82 = .ok (.baload, 1) := by decide +kernel
theorem dX5_compareKeys_83 : decode cX5_compareKeys 83 = .ok (.ifCond .eq 7, 3) := by decide +kernel
theorem dX5_compareKeys_86 : decode cX5_compareKeys 86 = .ok (.iconst 1, 1) := by decide +kernel
theorem dX5_compareKeys_87 : decode cX5_compareKeys 87 = .ok (.goto 4, 3) := by decide +kernel
theorem dX5_compareKeys_90 : decode cX5_compareKeys 90 = .ok (.iconst 0, 1) := by decide +kernel
theorem dX5_compareKeys_91 : decode cX5_compareKeys 91 = .ok (.istore 6, 2) := by decide +kernel
theorem dX5_compareKeys_93 : decode cX5_compareKeys 93 = .ok (.aload_n 0, 1) := by decide +kernel
theorem dX5_compareKeys_94 : decode cX5_compareKeys 94 = .ok (.getfield 9, 3) := by decide +kernel
theorem dX5_compareKeys_97 : decode cX5_compareKeys 97 = .ok (.iload_n 1, 1) := by decide +kernel
theorem dX5_compareKeys_98 : decode cX5_compareKeys 98 = .ok (.iload 5, 2) := by decide +kernel
theorem dX5_compareKeys_100 : decode cX5_compareKeys 100 = .ok (.iadd, 1) := by decide +kernel
theorem dX5_compareKeys_101 : decode cX5_compareKeys 101 = .ok (.invokevirtual 58, 3) := by decide +kernel
theorem dX5_compareKeys_104 : decode cX5_compareKeys 104 = .ok (.lstore 7, 2) := by decide +kernel
theorem dX5_compareKeys_106 : decode cX5_compareKeys 106 = .ok (.aload_n 0, 1) := by decide +kernel
theorem dX5_compareKeys_107 : decode cX5_compareKeys 107 = .ok (.getfield 9, 3) := by decide +kernel
theorem dX5_compareKeys_110 : decode cX5_compareKeys 110 = .ok (.iload_n 2, 1) := by decide +kernel
theorem dX5_compareKeys_111 : decode cX5_compareKeys 111 = .ok (.iload 5, 2) := by decide +kernel
theorem dX5_compareKeys_113 : decode cX5_compareKeys 113 = .ok (.iadd, 1) := by decide +kernel
theorem dX5_compareKeys_114 : decode cX5_compareKeys 114 = .ok (.invokevirtual 58, 3) := by decide +kernel
theorem dX5_compareKeys_117 : decode cX5_compareKeys 117 = .ok (.lstore 9, 2) := by decide +kernel
theorem dX5_compareKeys_119 : decode cX5_compareKeys 119 = .ok (.lload 7, 2) := by decide +kernel
theorem dX5_compareKeys_121 : decode cX5_compareKeys 121 = .ok (.lload 9, 2) := by decide +kernel
theorem dX5_compareKeys_123 : decode cX5_compareKeys 123 = .ok (.lcmp, 1) := by decide +kernel
theorem dX5_compareKeys_124 : decode cX5_compareKeys 124 = .ok (.ifCond .eq 27, 3) := by decide +kernel
theorem dX5_compareKeys_127 : decode cX5_compareKeys 127 = .ok (.lload 7, 2) := by decide +kernel
theorem dX5_compareKeys_129 : decode cX5_compareKeys 129 = .ok (.lload 9, 2) := by decide +kernel
theorem dX5_compareKeys_131 : decode cX5_compareKeys 131 = .ok (.lcmp, 1) := by decide +kernel
theorem dX5_compareKeys_132 : decode cX5_compareKeys 132 = .ok (.ifCond .ge 7, 3) := by decide +kernel
theorem dX5_compareKeys_135 : decode cX5_compareKeys 135 = .ok (.iconst 1, 1) := by decide +kernel
theorem dX5_compareKeys_136 : decode cX5_compareKeys 136 = .ok (.goto 4, 3) := by decide +kernel
theorem dX5_compareKeys_139 : decode cX5_compareKeys 139 = .ok (.iconst 0, 1) := by decide +kernel
theorem dX5_compareKeys_140 : decode cX5_compareKeys 140 = .ok (.iload 6, 2) := by decide +kernel
theorem dX5_compareKeys_142 : decode cX5_compareKeys 142 = .ok (.if_icmp .eq 7, 3) := by decide +kernel
theorem dX5_compareKeys_145 : decode cX5_compareKeys 145 = .ok (.iconst (-1), 1) := by decide +kernel
theorem dX5_compareKeys_146 : decode cX5_compareKeys 146 = .ok (.goto 4, 3) := by decide +kernel
theorem dX5_compareKeys_149 : decode cX5_compareKeys 149 = .ok (.iconst 1, 1) := by decide +kernel
theorem dX5_compareKeys_150 : decode cX5_compareKeys 150 = .ok (.ireturn, 1) := by decide +kernel
theorem dX5_compareKeys_151 : decode cX5_compareKeys 151 = .ok (.iinc 4 1, 3) := by decide +kernel
theorem dX5_compareKeys_154 : decode cX5_compareKeys 154 = .ok (.goto (-132), 3) := by decide +kernel
theorem dX5_compareKeys_157 : decode cX5_compareKeys 157 = .ok (.iconst 0, 1) := by decide +kernel
theorem dX5_compareKeys_158 : decode cX5_compareKeys 158 = .ok (.ireturn, 1) := by decide +kernel
theorem dX6_init_0 : decode cX6_init 0 = .ok (.aload_n 0, 1) := by decide +kernel
theorem dX6_init_1 : decode cX6_init 1 = .ok (.invokespecial 3, 3) := by decide +kernel
theorem dX6_init_4 : decode cX6_init 4 = .ok (.aload_n 0, 1) := by decide +kernel
theorem dX6_init_5 : decode cX6_init 5 = .ok (.iconst 0, 1) := by decide +kernel
theorem dX6_init_6 : decode cX6_init 6 = .ok (.iload_n 1, 1) := by decide +kernel
theorem dX6_init_7 : decode cX6_init 7 = .ok (.invokestatic 9, 3) := by decide +kernel
theorem dX6_init_10 : decode cX6_init 10 = .ok (.newarray .int, 2) := by decide +kernel
theorem dX6_init_12 : decode cX6_init 12 = .ok (.putfield 15, 3) := by decide +kernel
theorem dX6_init_15 : decode cX6_init 15 = .ok (.return_, 1) := by decide +kernel
theorem dX6_size_0 : decode cX6_size 0 = .ok (.aload_n 0, 1) := by decide +kernel
theorem dX6_size_1 : decode cX6_size 1 = .ok (.getfield 21, 3) := by decide +kernel
theorem dX6_size_4 : decode cX6_size 4 = .ok (.ireturn, 1) := by decide +kernel
theorem dX6_clear_0 : decode cX6_clear 0 = .ok (.aload_n 0, 1) := by decide +kernel
theorem dX6_clear_1 : decode cX6_clear 1 = .ok (.iconst 0, 1) := by decide +kernel
theorem dX6_clear_2 : decode cX6_clear 2 = .ok (.putfield 21, 3) := by decide +kernel
theorem dX6_clear_5 : decode cX6_clear 5 = .ok (.return_, 1) := by decide +kernel
theorem dX6_get_0 : decode cX6_get 0 = .ok (.iload_n 1, 1) := by decide +kernel
theorem dX6_get_1 : decode cX6_get 1 = .ok (.ifCond .lt 29, 3) := by decide +kernel
theorem dX6_get_4 : decode cX6_get 4 = .ok (.iload_n 1, 1) := by decide +kernel
theorem dX6_get_5 : decode cX6_get 5 = .ok (.aload_n 0, 1) := by decide +kernel
theorem dX6_get_6 : decode cX6_get 6 = .ok (.getfield 21, 3) := by decide +kernel
theorem dX6_get_9 : decode cX6_get 9 = .ok (.if_icmp .ge 21, 3) := by decide +kernel
theorem dX6_get_12 : decode cX6_get 12 = .ok (.iload_n 1, 1) := by decide +kernel
theorem dX6_get_13 : decode cX6_get 13 = .ok (.aload_n 0, 1) := by decide +kernel
theorem dX6_get_14 : decode cX6_get 14 = .ok (.getfield 15, 3) := by decide +kernel
theorem dX6_get_17 : decode cX6_get 17 = .ok (.arraylength, 1) := by decide +kernel
theorem dX6_get_18 : decode cX6_get 18 = .ok (.if_icmp .ge 12, 3) := by decide +kernel
theorem dX6_get_21 : decode cX6_get 21 = .ok (.aload_n 0, 1) := by decide +kernel
theorem dX6_get_22 : decode cX6_get 22 = .ok (.getfield 15, 3) := by decide +kernel
theorem dX6_get_25 : decode cX6_get 25 = .ok (.iload_n 1, 1) := by decide +kernel
theorem dX6_get_26 : decode cX6_get 26 = .ok (.iaload, 1) := by decide +kernel
theorem dX6_get_27 : decode cX6_get 27 = .ok (.goto 4, 3) := by decide +kernel
theorem dX6_get_30 : decode cX6_get 30 = .ok (.iconst (-1), 1) := by decide +kernel
theorem dX6_get_31 : decode cX6_get 31 = .ok (.ireturn, 1) := by decide +kernel
theorem dX6_set_0 : decode cX6_set 0 = .ok (.iload_n 1, 1) := by decide +kernel
theorem dX6_set_1 : decode cX6_set 1 = .ok (.ifCond .lt 27, 3) := by decide +kernel
theorem dX6_set_4 : decode cX6_set 4 = .ok (.iload_n 1, 1) := by decide +kernel
theorem dX6_set_5 : decode cX6_set 5 = .ok (.aload_n 0, 1) := by decide +kernel
theorem dX6_set_6 : decode cX6_set 6 = .ok (.getfield 21, 3) := by decide +kernel
theorem dX6_set_9 : decode cX6_set 9 = .ok (.if_icmp .ge 19, 3) := by decide +kernel
theorem dX6_set_12 : decode cX6_set 12 = .ok (.iload_n 1, 1) := by decide +kernel
theorem dX6_set_13 : decode cX6_set 13 = .ok (.aload_n 0, 1) := by decide +kernel
theorem dX6_set_14 : decode cX6_set 14 = .ok (.getfield 15, 3) := by decide +kernel
theorem dX6_set_17 : decode cX6_set 17 = .ok (.arraylength, 1) := by decide +kernel
theorem dX6_set_18 : decode cX6_set 18 = .ok (.if_icmp .ge 10, 3) := by decide +kernel
theorem dX6_set_21 : decode cX6_set 21 = .ok (.aload_n 0, 1) := by decide +kernel
theorem dX6_set_22 : decode cX6_set 22 = .ok (.getfield 15, 3) := by decide +kernel
theorem dX6_set_25 : decode cX6_set 25 = .ok (.iload_n 1, 1) := by decide +kernel
theorem dX6_set_26 : decode cX6_set 26 = .ok (.iload_n 2, 1) := by decide +kernel
theorem dX6_set_27 : decode cX6_set 27 = .ok (.iastore, 1) := by decide +kernel
theorem dX6_set_28 : decode cX6_set 28 = .ok (.return_, 1) := by decide +kernel
theorem dX6_add_0 : decode cX6_add 0 = .ok (.aload_n 0, 1) := by decide +kernel
theorem dX6_add_1 : decode cX6_add 1 = .ok (.getfield 21, 3) := by decide +kernel
theorem dX6_add_4 : decode cX6_add 4 = .ok (.ifCond .lt 35, 3) := by decide +kernel
theorem dX6_add_7 : decode cX6_add 7 = .ok (.aload_n 0, 1) := by decide +kernel
theorem dX6_add_8 : decode cX6_add 8 = .ok (.getfield 21, 3) := by decide +kernel
theorem dX6_add_11 : decode cX6_add 11 = .ok (.aload_n 0, 1) := by decide +kernel
theorem dX6_add_12 : decode cX6_add 12 = .ok (.getfield 15, 3) := by decide +kernel
theorem dX6_add_15 : decode cX6_add 15 = .ok (.arraylength, 1) := by decide +kernel
theorem dX6_add_16 : decode cX6_add 16 = .ok (.if_icmp .ge 23, 3) := by decide +kernel
theorem dX6_add_19 : decode cX6_add 19 = .ok (.aload_n 0, 1) := by decide +kernel
theorem dX6_add_20 : decode cX6_add 20 = .ok (.getfield 15, 3) := by decide +kernel
theorem dX6_add_23 : decode cX6_add 23 = .ok (.aload_n 0, 1) := by decide +kernel
theorem dX6_add_24 : decode cX6_add 24 = .ok (.getfield 21, 3) := by decide +kernel
theorem dX6_add_27 : decode cX6_add 27 = .ok (.iload_n 1, 1) := by decide +kernel
theorem dX6_add_28 : decode cX6_add 28 = .ok (.iastore, 1) := by decide +kernel
theorem dX6_add_29 : decode cX6_add 29 = .ok (.aload_n 0, 1) := by decide +kernel
theorem dX6_add_30 : decode cX6_add 30 = .ok (.dup, 1) := by decide +kernel
theorem dX6_add_31 : decode cX6_add 31 = .ok (.getfield 21, 3) := by decide +kernel
theorem dX6_add_34 : decode cX6_add 34 = .ok (.iconst 1, 1) := by decide +kernel
theorem dX6_add_35 : decode cX6_add 35 = .ok (.iadd, 1) := by decide +kernel
theorem dX6_add_36 : decode cX6_add 36 = .ok (.putfield 21, 3) := by decide +kernel
theorem dX6_add_39 : decode cX6_add 39 = .ok (.return_, 1) := by decide +kernel
theorem dX6_removeAt_0 : decode cX6_removeAt 0 = .ok (.iload_n 1, 1) := by decide +kernel
theorem dX6_removeAt_1 : decode cX6_removeAt 1 = .ok (.ifCond .lt 11, 3) := by decide +kernel
theorem dX6_removeAt_4 : decode cX6_removeAt 4 = .ok (.iload_n 1, 1) := by decide +kernel
theorem dX6_removeAt_5 : decode cX6_removeAt 5 = .ok (.aload_n 0, 1) := by decide +kernel
theorem dX6_removeAt_6 : decode cX6_removeAt 6 = .ok (.getfield 21, 3) := by decide +kernel
theorem dX6_removeAt_9 : decode cX6_removeAt 9 = .ok (.if_icmp .lt 4, 3) := by decide +kernel
theorem dX6_removeAt_12 : decode cX6_removeAt 12 = .ok (.return_, 1) := by decide +kernel
theorem dX6_removeAt_13 : decode cX6_removeAt 13 = .ok (.iload_n 1, 1) := by decide +kernel
theorem dX6_removeAt_14 : decode cX6_removeAt 14 = .ok (.istore_n 2, 1) := by decide +kernel
theorem dX6_removeAt_15 : decode cX6_removeAt 15 = .ok (.iload_n 2, 1) := by decide +kernel
theorem dX6_removeAt_16 : decode cX6_removeAt 16 = .ok (.iconst 1, 1) := by decide +kernel
theorem dX6_removeAt_17 : decode cX6_removeAt 17 = .ok (.iadd, 1) := by decide +kernel
theorem dX6_removeAt_18 : decode cX6_removeAt 18 = .ok (.aload_n 0, 1) := by decide +kernel
theorem dX6_removeAt_19 : decode cX6_removeAt 19 = .ok (.getfield 21, 3) := by decide +kernel
theorem dX6_removeAt_22 : decode cX6_removeAt 22 = .ok (.if_icmp .ge 34, 3) := by decide +kernel
theorem dX6_removeAt_25 : decode cX6_removeAt 25 = .ok (.iload_n 2, 1) := by decide +kernel
theorem dX6_removeAt_26 : decode cX6_removeAt 26 = .ok (.iconst 1, 1) := by decide +kernel
theorem dX6_removeAt_27 : decode cX6_removeAt 27 = .ok (.iadd, 1) := by decide +kernel
theorem dX6_removeAt_28 : decode cX6_removeAt 28 = .ok (.aload_n 0, 1) := by decide +kernel
theorem dX6_removeAt_29 : decode cX6_removeAt 29 = .ok (.getfield 15, 3) := by decide +kernel
theorem dX6_removeAt_32 : decode cX6_removeAt 32 = .ok (.arraylength, 1) := by decide +kernel
theorem dX6_removeAt_33 : decode cX6_removeAt 33 = .ok (.if_icmp .ge 23, 3) := by decide +kernel
theorem dX6_removeAt_36 : decode cX6_removeAt 36 = .ok (.aload_n 0, 1) := by decide +kernel
theorem dX6_removeAt_37 : decode cX6_removeAt 37 = .ok (.getfield 15, 3) := by decide +kernel
theorem dX6_removeAt_40 : decode cX6_removeAt 40 = .ok (.iload_n 2, 1) := by decide +kernel
theorem dX6_removeAt_41 : decode cX6_removeAt 41 = .ok (.aload_n 0, 1) := by decide +kernel
theorem dX6_removeAt_42 : decode cX6_removeAt 42 = .ok (.getfield 15, 3) := by decide +kernel
theorem dX6_removeAt_45 : decode cX6_removeAt 45 = .ok (.iload_n 2, 1) := by decide +kernel
theorem dX6_removeAt_46 : decode cX6_removeAt 46 = .ok (.iconst 1, 1) := by decide +kernel
theorem dX6_removeAt_47 : decode cX6_removeAt 47 = .ok (.iadd, 1) := by decide +kernel
theorem dX6_removeAt_48 : decode cX6_removeAt 48 = .ok (.iaload, 1) := by decide +kernel
theorem dX6_removeAt_49 : decode cX6_removeAt 49 = .ok (.iastore, 1) := by decide +kernel
theorem dX6_removeAt_50 : decode cX6_removeAt 50 = .ok (.iinc 2 1, 3) := by decide +kernel
theorem dX6_removeAt_53 : decode cX6_removeAt 53 = .ok (.goto (-38), 3) := by decide +kernel
theorem dX6_removeAt_56 : decode cX6_removeAt 56 = .ok (.aload_n 0, 1) := by decide +kernel
theorem dX6_removeAt_57 : decode cX6_removeAt 57 = .ok (.dup, 1) := by decide +kernel
theorem dX6_removeAt_58 : decode cX6_removeAt 58 = .ok (.getfield 21, 3) := by decide +kernel
theorem dX6_removeAt_61 : decode cX6_removeAt 61 = .ok (.iconst 1, 1) := by decide +kernel
theorem dX6_removeAt_62 : decode cX6_removeAt 62 = .ok (.isub, 1) := by decide +kernel
theorem dX6_removeAt_63 : decode cX6_removeAt 63 = .ok (.putfield 21, 3) := by decide +kernel
theorem dX6_removeAt_66 : decode cX6_removeAt 66 = .ok (.return_, 1) := by decide +kernel
set_option maxRecDepth 20000 in
theorem ggX7_init_X6_init : GoodIn wsX7_init wsX6_init := goodIn_r _ [20, 21, 2, 3, 22, 8, 9, 10, 23, 24, 47, 48] (by decide +kernel) (by decide +kernel)
set_option maxRecDepth 20000 in
theorem gX7_init_X6_init : GoodIn wsX7_init (wsX6_init) := ggX7_init_X6_init
