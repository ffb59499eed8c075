theorem dX0_init_0 : decode cX0_init 0 = .ok (.aload_n 0, 1) := by decide +kernel
theorem dX0_init_1 : decode cX0_init 1 = .ok (.invokespecial 3, 3) := by decide +kernel
theorem dX0_init_4 : decode cX0_init 4 = .ok (.aload_n 0, 1) := by decide +kernel
theorem dX0_init_5 : decode cX0_init 5 = .ok (.iload_n 2, 1) := by decide +kernel
theorem dX0_init_6 : decode cX0_init 6 = .ok (.putfield 9, 3) := by decide +kernel
theorem dX0_init_9 : decode cX0_init 9 = .ok (.aload_n 0, 1) := by decide +kernel
theorem dX0_init_10 : decode cX0_init 10 = .ok (.iconst 0, 1) := by decide +kernel
theorem dX0_init_11 : decode cX0_init 11 = .ok (.iload_n 1, 1) := by decide +kernel
theorem dX0_init_12 : decode cX0_init 12 = .ok (.iload_n 2, 1) := by decide +kernel
theorem dX0_init_13 : decode cX0_init 13 = .ok (.imul, 1) := by decide +kernel
theorem dX0_init_14 : decode cX0_init 14 = .ok (.invokestatic 15, 3) := by decide +kernel
theorem dX0_init_17 : decode cX0_init 17 = .ok (.newarray .long, 2) := by decide +kernel
theorem dX0_init_19 : decode cX0_init 19 = .ok (.putfield 21, 3) := by decide +kernel
theorem dX0_init_22 : decode cX0_init 22 = .ok (.aload_n 0, 1) := by decide +kernel
theorem dX0_init_23 : decode cX0_init 23 = .ok (.iconst 0, 1) := by decide +kernel
theorem dX0_init_24 : decode cX0_init 24 = .ok (.iload_n 1, 1) := by decide +kernel
theorem dX0_init_25 : decode cX0_init 25 = .ok (.invokestatic 15, 3) := by decide +kernel
theorem dX0_init_28 : decode cX0_init 28 = .ok (.newarray .boolean, 2) := by decide +kernel
theorem dX0_init_30 : decode cX0_init 30 = .ok (.putfield 25, 3) := by decide +kernel
theorem dX0_init_33 : decode cX0_init 33 = .ok (.aload_n 0, 1) := by decide +kernel
theorem dX0_init_34 : decode cX0_init 34 = .ok (.iconst (-1), 1) := by decide +kernel
theorem dX0_init_35 : decode cX0_init 35 = .ok (.putfield 29, 3) := by decide +kernel
theorem dX0_init_38 : decode cX0_init 38 = .ok (.return_, 1) := by decide +kernel
theorem dX0_cell_0 : decode cX0_cell 0 = .ok (.iload_n 1, 1) := by decide +kernel
theorem dX0_cell_1 : decode cX0_cell 1 = .ok (.ifCond .lt 21, 3) := by decide +kernel
theorem dX0_cell_4 : decode cX0_cell 4 = .ok (.iload_n 1, 1) := by decide +kernel
theorem dX0_cell_5 : decode cX0_cell 5 = .ok (.aload_n 0, 1) := by decide +kernel
theorem dX0_cell_6 : decode cX0_cell 6 = .ok (.getfield 21, 3) := by decide +kernel
theorem dX0_cell_9 : decode cX0_cell 9 = .ok (.arraylength, 1) := by decide +kernel
theorem dX0_cell_10 : decode cX0_cell 10 = .ok (.if_icmp .ge 12, 3) := by decide +kernel
theorem dX0_cell_13 : decode cX0_cell 13 = .ok (.aload_n 0, 1) := by decide +kernel
theorem dX0_cell_14 : decode cX0_cell 14 = .ok (.getfield 21, 3) := by decide +kernel
theorem dX0_cell_17 : decode cX0_cell 17 = .ok (.iload_n 1, 1) := by decide +kernel
theorem dX0_cell_18 : decode cX0_cell 18 = .ok (.laload, 1) := by decide +kernel
theorem dX0_cell_19 : decode cX0_cell 19 = .ok (.goto 4, 3) := by decide +kernel
theorem dX0_cell_22 : decode cX0_cell 22 = .ok (.lconst 0, 1) := by decide +kernel
theorem dX0_cell_23 : decode cX0_cell 23 = .ok (.lreturn, 1) := by decide +kernel
theorem dX0_freeBlocks_0 : decode cX0_freeBlocks 0 = .ok (.iconst 0, 1) := by decide +kernel
theorem dX0_freeBlocks_1 : decode cX0_freeBlocks 1 = .ok (.istore_n 1, 1) := by decide +kernel
theorem dX0_freeBlocks_2 : decode cX0_freeBlocks 2 = .ok (.iconst 0, 1) := by decide +kernel
theorem dX0_freeBlocks_3 : decode cX0_freeBlocks 3 = .ok (.istore_n 2, 1) := by decide +kernel
theorem dX0_freeBlocks_4 : decode cX0_freeBlocks 4 = .ok (.iload_n 2, 1) := by decide +kernel
theorem dX0_freeBlocks_5 : decode cX0_freeBlocks 5 = .ok (.aload_n 0, 1) := by decide +kernel
theorem dX0_freeBlocks_6 : decode cX0_freeBlocks 6 = .ok (.getfield 25, 3) := by decide +kernel
theorem dX0_freeBlocks_9 : decode cX0_freeBlocks 9 = .ok (.arraylength, 1) := by decide +kernel
theorem dX0_freeBlocks_10 : decode cX0_freeBlocks 10 = .ok (.if_icmp .ge 26, 3) := by decide +kernel
theorem dX0_freeBlocks_13 : decode cX0_freeBlocks 13 = .ok (.iload_n 1, 1) := by decide +kernel
theorem dX0_freeBlocks_14 : decode cX0_freeBlocks 14 = .ok (.aload_n 0, 1) := by decide +kernel
theorem dX0_freeBlocks_15 : decode cX0_freeBlocks 15 = .ok (.getfield 25, 3) := by decide +kernel
theorem dX0_freeBlocks_18 : decode cX0_freeBlocks 18 = .ok (.iload_n 2, 1) := by decide +kernel
theorem dX0_freeBlocks_19 : decode cX0_freeBlocks 19 = .ok (.baload, 1) := by decide +kernel
theorem dX0_freeBlocks_20 : decode cX0_freeBlocks 20 = .ok (.ifCond .eq 7, 3) := by decide +kernel
theorem dX0_freeBlocks_23 : decode cX0_freeBlocks 23 = .ok (.iconst 0, 1) := by decide +kernel
theorem dX0_freeBlocks_24 : decode cX0_freeBlocks 24 = .ok (.goto 4, 3) := by decide +kernel
theorem dX0_freeBlocks_27 : decode cX0_freeBlocks 27 = .ok (.iconst 1, 1) := by decide +kernel
theorem dX0_freeBlocks_28 : decode cX0_freeBlocks 28 = .ok (.iadd, 1) := by decide +kernel
theorem dX0_freeBlocks_29 : decode cX0_freeBlocks 29 = .ok (.istore_n 1, 1) := by decide +kernel
theorem dX0_freeBlocks_30 : decode cX0_freeBlocks 30 = .ok (.iinc 2 1, 3) := by decide +kernel
theorem dX0_freeBlocks_33 : decode cX0_freeBlocks 33 = .ok (.goto (-29), 3) := by decide +kernel
theorem dX0_freeBlocks_36 : decode cX0_freeBlocks 36 = .ok (.iload_n 1, 1) := by decide +kernel
theorem dX0_freeBlocks_37 : decode cX0_freeBlocks 37 = .ok (.ireturn, 1) := by decide +kernel
theorem dX0_leastFree_0 : decode cX0_leastFree 0 = .ok (.iconst 0, 1) := by decide +kernel
theorem dX0_leastFree_1 : decode cX0_leastFree 1 = .ok (.istore_n 1, 1) := by decide +kernel
theorem dX0_leastFree_2 : decode cX0_leastFree 2 = .ok (.iload_n 1, 1) := by decide +kernel
theorem dX0_leastFree_3 : decode cX0_leastFree 3 = .ok (.aload_n 0, 1) := by decide +kernel
theorem dX0_leastFree_4 : decode cX0_leastFree 4 = .ok (.getfield 25, 3) := by decide +kernel
theorem dX0_leastFree_7 : decode cX0_leastFree 7 = .ok (.arraylength, 1) := by decide +kernel
theorem dX0_leastFree_8 : decode cX0_leastFree 8 = .ok (.if_icmp .ge 20, 3) := by decide +kernel
theorem dX0_leastFree_11 : decode cX0_leastFree 11 = .ok (.aload_n 0, 1) := by decide +kernel
theorem dX0_leastFree_12 : decode cX0_leastFree 12 = .ok (.getfield 25, 3) := by decide +kernel
theorem dX0_leastFree_15 : decode cX0_leastFree 15 = .ok (.iload_n 1, 1) := by decide +kernel
theorem dX0_leastFree_16 : decode cX0_leastFree 16 = .ok (.baload, 1) := by decide +kernel
theorem dX0_leastFree_17 : decode cX0_leastFree 17 = .ok (.ifCond .ne 5, 3) := by decide +kernel
theorem dX0_leastFree_20 : decode cX0_leastFree 20 = .ok (.iload_n 1, 1) := by decide +kernel
theorem dX0_leastFree_21 : decode cX0_leastFree 21 = .ok (.ireturn, 1) := by decide +kernel
theorem dX0_leastFree_22 : decode cX0_leastFree 22 = .ok (.iinc 1 1, 3) := by decide +kernel
theorem dX0_leastFree_25 : decode cX0_leastFree 25 = .ok (.goto (-23), 3) := by decide +kernel
theorem dX0_leastFree_28 : decode cX0_leastFree 28 = .ok (.iconst (-1), 1) := by decide +kernel
theorem dX0_leastFree_29 : decode cX0_leastFree 29 = .ok (.ireturn, 1) := by decide +kernel
theorem dX0_release_0 : decode cX0_release 0 = .ok (.iload_n 1, 1) := by decide +kernel
theorem dX0_release_1 : decode cX0_release 1 = .ok (.ifCond .lt 19, 3) := by decide +kernel
theorem dX0_release_4 : decode cX0_release 4 = .ok (.iload_n 1, 1) := by decide +kernel
theorem dX0_release_5 : decode cX0_release 5 = .ok (.aload_n 0, 1) := by decide +kernel
theorem dX0_release_6 : decode cX0_release 6 = .ok (.getfield 25, 3) := by decide +kernel
theorem dX0_release_9 : decode cX0_release 9 = .ok (.arraylength, 1) := by decide +kernel
theorem dX0_release_10 : decode cX0_release 10 = .ok (.if_icmp .ge 10, 3) := by decide +kernel
theorem dX0_release_13 : decode cX0_release 13 = .ok (.aload_n 0, 1) := by decide +kernel
theorem dX0_release_14 : decode cX0_release 14 = .ok (.getfield 25, 3) := by decide +kernel
theorem dX0_release_17 : decode cX0_release 17 = .ok (.iload_n 1, 1) := by decide +kernel
theorem dX0_release_18 : decode cX0_release 18 = .ok (.iconst 0, 1) := by decide +kernel
theorem dX0_release_19 : decode cX0_release 19 = .ok (.bastore, 1) := by decide +kernel
theorem dX0_release_20 : decode cX0_release 20 = .ok (.return_, 1) := by decide +kernel
theorem dX0_readBlock_0 : decode cX0_readBlock 0 = .ok (.aload_n 0, 1) := by decide +kernel
theorem dX0_readBlock_1 : decode cX0_readBlock 1 = .ok (.dup, 1) := by decide +kernel
theorem dX0_readBlock_2 : decode cX0_readBlock 2 = .ok (.getfield 32, 3) := by decide +kernel
theorem dX0_readBlock_5 : decode cX0_readBlock 5 = .ok (.iconst 1, 1) := by decide +kernel
theorem dX0_readBlock_6 : decode cX0_readBlock 6 = .ok (.iadd, 1) := by decide +kernel
theorem dX0_readBlock_7 : decode cX0_readBlock 7 = .ok (.putfield 32, 3) := by decide +kernel
theorem dX0_readBlock_10 : decode cX0_readBlock 10 = .ok (.aload_n 0, 1) := by decide +kernel
theorem dX0_readBlock_11 : decode cX0_readBlock 11 = .ok (.iload_n 1, 1) := by decide +kernel
theorem dX0_readBlock_12 : decode cX0_readBlock 12 = .ok (.invokevirtual 35, 3) := by decide +kernel
theorem dX0_readBlock_15 : decode cX0_readBlock 15 = .ok (.return_, 1) := by decide +kernel
theorem dX0_store_0 : decode cX0_store 0 = .ok (.aload_n 0, 1) := by decide +kernel
theorem dX0_store_1 : decode cX0_store 1 = .ok (.invokevirtual 39, 3) := by decide +kernel
theorem dX0_store_4 : decode cX0_store 4 = .ok (.istore_n 3, 1) := by decide +kernel
theorem dX0_store_5 : decode cX0_store 5 = .ok (.iload_n 3, 1) := by decide +kernel
theorem dX0_store_6 : decode cX0_store 6 = .ok (.ifCond .lt 12, 3) := by decide +kernel
theorem dX0_store_9 : decode cX0_store 9 = .ok (.iload_n 3, 1) := by decide +kernel
theorem dX0_store_10 : decode cX0_store 10 = .ok (.aload_n 0, 1) := by decide +kernel
theorem dX0_store_11 : decode cX0_store 11 = .ok (.getfield 25, 3) := by decide +kernel
theorem dX0_store_14 : decode cX0_store 14 = .ok (.arraylength, 1) := by decide +kernel
theorem dX0_store_15 : decode cX0_store 15 = .ok (.if_icmp .lt 5, 3) := by decide +kernel
theorem dX0_store_18 : decode cX0_store 18 = .ok (.iconst (-1), 1) := by decide +kernel
theorem dX0_store_19 : decode cX0_store 19 = .ok (.ireturn, 1) := by decide +kernel
theorem dX0_store_20 : decode cX0_store 20 = .ok (.aload_n 0, 1) := by decide +kernel
theorem dX0_store_21 : decode cX0_store 21 = .ok (.getfield 29, 3) := by decide +kernel
theorem dX0_store_24 : decode cX0_store 24 = .ok (.ifCond .ne 10, 3) := by decide +kernel
theorem dX0_store_27 : decode cX0_store 27 = .ok (.aload_n 0, 1) := by decide +kernel
theorem dX0_store_28 : decode cX0_store 28 = .ok (.iconst 1, 1) := by decide +kernel
theorem dX0_store_29 : decode cX0_store 29 = .ok (.putfield 43, 3) := by decide +kernel
theorem dX0_store_32 : decode cX0_store 32 = .ok (.iconst (-1), 1) := by decide +kernel
theorem dX0_store_33 : decode cX0_store 33 = .ok (.ireturn, 1) := by decide +kernel
theorem dX0_store_34 : decode cX0_store 34 = .ok (.aload_n 0, 1) := by decide +kernel
theorem dX0_store_35 : decode cX0_store 35 = .ok (.getfield 29, 3) := by decide +kernel
theorem dX0_store_38 : decode cX0_store 38 = .ok (.ifCond .le 13, 3) := by decide +kernel
theorem dX0_store_41 : decode cX0_store 41 = .ok (.aload_n 0, 1) := by decide +kernel
theorem dX0_store_42 : decode cX0_store 42 = .ok (.dup, 1) := by decide +kernel
theorem dX0_store_43 : decode cX0_store 43 = .ok (.getfield 29, 3) := by decide +kernel
theorem dX0_store_46 : decode cX0_store 46 = .ok (.iconst 1, 1) := by decide +kernel
theorem dX0_store_47 : decode cX0_store 47 = .ok (.isub, 1) := by decide +kernel
theorem dX0_store_48 : decode cX0_store 48 = .ok (.putfield 29, 3) := by decide +kernel
theorem dX0_store_51 : decode cX0_store 51 = .ok (.aload_n 0, 1) := by decide +kernel
theorem dX0_store_52 : decode cX0_store 52 = .ok (.getfield 25, 3) := by decide +kernel
theorem dX0_store_55 : decode cX0_store 55 = .ok (.iload_n 3, 1) := by decide +kernel
theorem dX0_store_56 : decode cX0_store 56 = .ok (.iconst 1, 1) := by decide +kernel
theorem dX0_store_57 : decode cX0_store 57 = .ok (.bastore, 1) := by decide +kernel
theorem dX0_store_58 : decode cX0_store 58 = .ok (.aload_n 0, 1) := by decide +kernel
theorem dX0_store_59 : decode cX0_store 59 = .ok (.dup, 1) := by decide +kernel
theorem dX0_store_60 : decode cX0_store 60 = .ok (.getfield 47, 3) := by decide +kernel
theorem dX0_store_63 : decode cX0_store 63 = .ok (.iconst 1, 1) := by decide +kernel
theorem dX0_store_64 : decode cX0_store 64 = .ok (.iadd, 1) := by decide +kernel
theorem dX0_store_65 : decode cX0_store 65 = .ok (.putfield 47, 3) := by decide +kernel
theorem dX0_store_68 : decode cX0_store 68 = .ok (.aload_n 0, 1) := by decide +kernel
theorem dX0_store_69 : decode cX0_store 69 = .ok (.iload_n 3, 1) := by decide +kernel
theorem dX0_store_70 : decode cX0_store 70 = .ok (.invokevirtual 35, 3) := by decide +kernel
theorem dX0_store_73 : decode cX0_store 73 = .ok (.iload_n 3, 1) := by decide +kernel
theorem dX0_store_74 : decode cX0_store 74 = .ok (.aload_n 0, 1) := by decide +kernel
theorem dX0_store_75 : decode cX0_store 75 = .ok (.getfield 9, 3) := by decide +kernel
theorem dX0_store_78 : decode cX0_store 78 = .ok (.imul, 1) := by decide +kernel
theorem dX0_store_79 : decode cX0_store 79 = .ok (.istore 4, 2) := by decide +kernel
theorem dX0_store_81 : decode cX0_store 81 = .ok (.iconst 0, 1) := by decide +kernel
theorem dX0_store_82 : decode cX0_store 82 = .ok (.istore 5, 2) := by decide +kernel
theorem dX0_store_84 : decode cX0_store 84 = .ok (.iload 5, 2) := by decide +kernel
theorem dX0_store_86 : decode cX0_store 86 = .ok (.iload_n 2, 1) := by decide +kernel
theorem dX0_store_87 : decode cX0_store 87 = .ok (.if_icmp .ge 43, 3) := by decide +kernel
theorem dX0_store_90 : decode cX0_store 90 = .ok (.iload 5, 2) := by decide +kernel
theorem dX0_store_92 : decode cX0_store 92 = .ok (.aload_n 1, 1) := by decide +kernel
theorem dX0_store_93 : decode cX0_store 93 = .ok (.arraylength, 1) := by decide +kernel
theorem dX0_store_94 : decode cX0_store 94 = .ok (.if_icmp .ge 36, 3) := by decide +kernel
theorem dX0_store_97 : decode cX0_store 97 = .ok (.iload 4, 2) := by decide +kernel
theorem dX0_store_99 : decode cX0_store 99 = .ok (.iload 5, 2) := by decide +kernel
theorem dX0_store_101 : decode cX0_store 101 = .ok (.iadd, 1) := by decide +kernel
theorem dX0_store_102 : decode cX0_store 102 = .ok (.aload_n 0, 1) := by decide +kernel
theorem dX0_store_103 : decode cX0_store 103 = .ok (.getfield 21, 3) := by decide +kernel
theorem dX0_store_106 : decode cX0_store 106 = .ok (.arraylength, 1) := by decide +kernel
theorem dX0_store_107 : decode cX0_store 107 = .ok (.if_icmp .ge 23, 3) := by decide +kernel
theorem dX0_store_110 : decode cX0_store 110 = .ok (.aload_n 0, 1) := by decide +kernel
theorem dX0_store_111 : decode cX0_store 111 = .ok (.getfield 21, 3) := by decide +kernel
theorem dX0_store_114 : decode cX0_store 114 = .ok (.iload 4, 2) := by decide +kernel
theorem dX0_store_116 : decode cX0_store 116 = .ok (.iload 5, 2) := by decide +kernel
theorem dX0_store_118 : decode cX0_store 118 = .ok (.iadd, 1) := by decide +kernel
theorem dX0_store_119 : decode cX0_store 119 = .ok (.aload_n 1, 1) := by decide +kernel
theorem dX0_store_120 : decode cX0_store 120 = .ok (.iload 5, 2) := by decide +kernel
theorem dX0_store_122 : decode cX0_store 122 = .ok (.laload, 1) := by decide +kernel
theorem dX0_store_123 : decode cX0_store 123 = .ok (.lastore, 1) := by decide +kernel
theorem dX0_store_124 : decode cX0_store 124 = .ok (.iinc 5 1, 3) := by decide +kernel
theorem dX0_store_127 : decode cX0_store 127 = .ok (.goto (-43), 3) := by decide +kernel
theorem dX0_store_130 : decode cX0_store 130 = .ok (.iload_n 3, 1) := by decide +kernel
theorem dX0_store_131 : decode cX0_store 131 = .ok (.ireturn, 1) := by decide +kernel
theorem dX0_moveArm_0 : decode cX0_moveArm 0 = .ok (.aload_n 0, 1) := by decide +kernel
theorem dX0_moveArm_1 : decode cX0_moveArm 1 = .ok (.dup, 1) := by decide +kernel
theorem dX0_moveArm_2 : decode cX0_moveArm 2 = .ok (.getfield 50, 3) := by decide +kernel
theorem dX0_moveArm_5 : decode cX0_moveArm 5 = .ok (.iload_n 1, 1) := by decide +kernel
theorem dX0_moveArm_6 : decode cX0_moveArm 6 = .ok (.aload_n 0, 1) := by decide +kernel
theorem dX0_moveArm_7 : decode cX0_moveArm 7 = .ok (.getfield 53, 3) := by decide +kernel
theorem dX0_moveArm_10 : decode cX0_moveArm 10 = .ok (.if_icmp .le 12, 3) := by decide +kernel
theorem dX0_moveArm_13 : decode cX0_moveArm 13 = .ok (.iload_n 1, 1) := by decide +kernel
theorem dX0_moveArm_14 : decode cX0_moveArm 14 = .ok (.aload_n 0, 1) := by decide +kernel
theorem dX0_moveArm_15 : decode cX0_moveArm 15 = .ok (.getfield 53, 3) := by decide +kernel
theorem dX0_moveArm_18 : decode cX0_moveArm 18 = .ok (.isub, 1) := by decide +kernel
theorem dX0_moveArm_19 : decode cX0_moveArm 19 = .ok (.goto 9, 3) := by decide +kernel
theorem dX0_moveArm_22 : decode cX0_moveArm 22 = .ok (.aload_n 0, 1) := by decide +kernel
theorem dX0_moveArm_23 : decode cX0_moveArm 23 = .ok (.getfield 53, 3) := by decide +kernel
theorem dX0_moveArm_26 : decode cX0_moveArm 26 = .ok (.iload_n 1, 1) := by decide +kernel
theorem dX0_moveArm_27 : decode cX0_moveArm 27 = .ok (.isub, 1) := by decide +kernel
theorem dX0_moveArm_28 : decode cX0_moveArm 28 = .ok (.iadd, 1) := by decide +kernel
theorem dX0_moveArm_29 : decode cX0_moveArm 29 = .ok (.putfield 50, 3) := by decide +kernel
theorem dX0_moveArm_32 : decode cX0_moveArm 32 = .ok (.aload_n 0, 1) := by decide +kernel
theorem dX0_moveArm_33 : decode cX0_moveArm 33 = .ok (.iload_n 1, 1) := by decide +kernel
theorem dX0_moveArm_34 : decode cX0_moveArm 34 = .ok (.putfield 53, 3) := by decide +kernel
theorem dX0_moveArm_37 : decode cX0_moveArm 37 = .ok (.return_, 1) := by decide +kernel
theorem dX1_init_0 : decode cX1_init 0 = .ok (.aload_n 0, 1) := by decide +kernel
theorem dX1_init_1 : decode cX1_init 1 = .ok (.invokespecial 3, 3) := by decide +kernel
theorem dX1_init_4 : decode cX1_init 4 = .ok (.aload_n 0, 1) := by decide +kernel
theorem dX1_init_5 : decode cX1_init 5 = .ok (.aload_n 1, 1) := by decide +kernel
theorem dX1_init_6 : decode cX1_init 6 = .ok (.putfield 9, 3) := by decide +kernel
theorem dX1_init_9 : decode cX1_init 9 = .ok (.aload_n 0, 1) := by decide +kernel
theorem dX1_init_10 : decode cX1_init 10 = .ok (.iconst 0, 1) := by decide +kernel
theorem dX1_init_11 : decode cX1_init 11 = .ok (.iload_n 2, 1) := by decide +kernel
theorem dX1_init_12 : decode cX1_init 12 = .ok (.invokestatic 15, 3) := by decide +kernel
theorem dX1_init_15 : decode cX1_init 15 = .ok (.newarray .int, 2) := by decide +kernel
theorem dX1_init_17 : decode cX1_init 17 = .ok (.putfield 21, 3) := by decide +kernel
theorem dX1_init_20 : decode cX1_init 20 = .ok (.aload_n 0, 1) := by decide +kernel
theorem dX1_init_21 : decode cX1_init 21 = .ok (.iconst 0, 1) := by decide +kernel
theorem dX1_init_22 : decode cX1_init 22 = .ok (.iload_n 2, 1) := by decide +kernel
theorem dX1_init_23 : decode cX1_init 23 = .ok (.invokestatic 15, 3) := by decide +kernel
theorem dX1_init_26 : decode cX1_init 26 = .ok (.newarray .int, 2) := by decide +kernel
theorem dX1_init_28 : decode cX1_init 28 = .ok (.putfield 25, 3) := by decide +kernel
theorem dX1_init_31 : decode cX1_init 31 = .ok (.return_, 1) := by decide +kernel
theorem dX1_heldBy_0 : decode cX1_heldBy 0 = .ok (.iload_n 1, 1) := by decide +kernel
theorem dX1_heldBy_1 : decode cX1_heldBy 1 = .ok (.ifCond .lt 21, 3) := by decide +kernel
theorem dX1_heldBy_4 : decode cX1_heldBy 4 = .ok (.iload_n 1, 1) := by decide +kernel
theorem dX1_heldBy_5 : decode cX1_heldBy 5 = .ok (.aload_n 0, 1) := by decide +kernel
theorem dX1_heldBy_6 : decode cX1_heldBy 6 = .ok (.getfield 25, 3) := by decide +kernel
theorem dX1_heldBy_9 : decode cX1_heldBy 9 = .ok (.arraylength, 1) := by decide +kernel
theorem dX1_heldBy_10 : decode cX1_heldBy 10 = .ok (.if_icmp .ge 12, 3) := by decide +kernel
theorem dX1_heldBy_13 : decode cX1_heldBy 13 = .ok (.aload_n 0, 1) := by decide +kernel
theorem dX1_heldBy_14 : decode cX1_heldBy 14 = .ok (.getfield 25, 3) := by decide +kernel
theorem dX1_heldBy_17 : decode cX1_heldBy 17 = .ok (.iload_n 1, 1) := by decide +kernel
theorem dX1_heldBy_18 : decode cX1_heldBy 18 = .ok (.iaload, 1) := by decide +kernel
theorem dX1_heldBy_19 : decode cX1_heldBy 19 = .ok (.goto 4, 3) := by decide +kernel
theorem dX1_heldBy_22 : decode cX1_heldBy 22 = .ok (.iconst 0, 1) := by decide +kernel
theorem dX1_heldBy_23 : decode cX1_heldBy 23 = .ok (.ireturn, 1) := by decide +kernel
theorem dX1_setHeld_0 : decode cX1_setHeld 0 = .ok (.iload_n 1, 1) := by decide +kernel
theorem dX1_setHeld_1 : decode cX1_setHeld 1 = .ok (.ifCond .lt 19, 3) := by decide +kernel
theorem dX1_setHeld_4 : decode cX1_setHeld 4 = .ok (.iload_n 1, 1) := by decide +kernel
theorem dX1_setHeld_5 : decode cX1_setHeld 5 = .ok (.aload_n 0, 1) := by decide +kernel
theorem dX1_setHeld_6 : decode cX1_setHeld 6 = .ok (.getfield 25, 3) := by decide +kernel
theorem dX1_setHeld_9 : decode cX1_setHeld 9 = .ok (.arraylength, 1) := by decide +kernel
theorem dX1_setHeld_10 : decode cX1_setHeld 10 = .ok (.if_icmp .ge 10, 3) := by decide +kernel
theorem dX1_setHeld_13 : decode cX1_setHeld 13 = .ok (.aload_n 0, 1) := by decide +kernel
theorem dX1_setHeld_14 : decode cX1_setHeld 14 = .ok (.getfield 25, 3) := by decide +kernel
theorem dX1_setHeld_17 : decode cX1_setHeld 17 = .ok (.iload_n 1, 1) := by decide +kernel
theorem dX1_setHeld_18 : decode cX1_setHeld 18 = .ok (.iload_n 2, 1) := by decide +kernel
theorem dX1_setHeld_19 : decode cX1_setHeld 19 = .ok (.iastore, 1) := by decide +kernel
theorem dX1_setHeld_20 : decode cX1_setHeld 20 = .ok (.return_, 1) := by decide +kernel
theorem dX1_behind_0 : decode cX1_behind 0 = .ok (.iload_n 1, 1) := by decide +kernel
theorem dX1_behind_1 : decode cX1_behind 1 = .ok (.ifCond .lt 21, 3) := by decide +kernel
theorem dX1_behind_4 : decode cX1_behind 4 = .ok (.iload_n 1, 1) := by decide +kernel
theorem dX1_behind_5 : decode cX1_behind 5 = .ok (.aload_n 0, 1) := by decide +kernel
theorem dX1_behind_6 : decode cX1_behind 6 = .ok (.getfield 21, 3) := by decide +kernel
theorem dX1_behind_9 : decode cX1_behind 9 = .ok (.arraylength, 1) := by decide +kernel
theorem dX1_behind_10 : decode cX1_behind 10 = .ok (.if_icmp .ge 12, 3) := by decide +kernel
theorem dX1_behind_13 : decode cX1_behind 13 = .ok (.aload_n 0, 1) := by decide +kernel
theorem dX1_behind_14 : decode cX1_behind 14 = .ok (.getfield 21, 3) := by decide +kernel
theorem dX1_behind_17 : decode cX1_behind 17 = .ok (.iload_n 1, 1) := by decide +kernel
theorem dX1_behind_18 : decode cX1_behind 18 = .ok (.iaload, 1) := by decide +kernel
theorem dX1_behind_19 : decode cX1_behind 19 = .ok (.goto 4, 3) := by decide +kernel
theorem dX1_behind_22 : decode cX1_behind 22 = .ok (.iconst (-1), 1) := by decide +kernel
theorem dX1_behind_23 : decode cX1_behind 23 = .ok (.ireturn, 1) := by decide +kernel
theorem dX1_join_0 : decode cX1_join 0 = .ok (.iload_n 1, 1) := by decide +kernel
theorem dX1_join_1 : decode cX1_join 1 = .ok (.ifCond .lt 19, 3) := by decide +kernel
theorem dX1_join_4 : decode cX1_join 4 = .ok (.iload_n 1, 1) := by decide +kernel
theorem dX1_join_5 : decode cX1_join 5 = .ok (.aload_n 0, 1) := by decide +kernel
theorem dX1_join_6 : decode cX1_join 6 = .ok (.getfield 21, 3) := by decide +kernel
theorem dX1_join_9 : decode cX1_join 9 = .ok (.arraylength, 1) := by decide +kernel
theorem dX1_join_10 : decode cX1_join 10 = .ok (.if_icmp .ge 10, 3) := by decide +kernel
theorem dX1_join_13 : decode cX1_join 13 = .ok (.aload_n 0, 1) := by decide +kernel
theorem dX1_join_14 : decode cX1_join 14 = .ok (.getfield 21, 3) := by decide +kernel
theorem dX1_join_17 : decode cX1_join 17 = .ok (.iload_n 1, 1) := by decide +kernel
theorem dX1_join_18 : decode cX1_join 18 = .ok (.iload_n 2, 1) := by decide +kernel
theorem dX1_join_19 : decode cX1_join 19 = .ok (.iastore, 1) := by decide +kernel
theorem dX1_join_20 : decode cX1_join 20 = .ok (.iload_n 2, 1) := by decide +kernel
theorem dX1_join_21 : decode cX1_join 21 = .ok (.ifCond .lt 19, 3) := by decide +kernel
theorem dX1_join_24 : decode cX1_join 24 = .ok (.iload_n 2, 1) := by decide +kernel
theorem dX1_join_25 : decode cX1_join 25 = .ok (.aload_n 0, 1) := by decide +kernel
theorem dX1_join_26 : decode cX1_join 26 = .ok (.getfield 21, 3) := by decide +kernel
theorem dX1_join_29 : decode cX1_join 29 = .ok (.arraylength, 1) := by decide +kernel
theorem dX1_join_30 : decode cX1_join 30 = .ok (.if_icmp .ge 10, 3) := by decide +kernel
theorem dX1_join_33 : decode cX1_join 33 = .ok (.aload_n 0, 1) := by decide +kernel
theorem dX1_join_34 : decode cX1_join 34 = .ok (.getfield 21, 3) := by decide +kernel
theorem dX1_join_37 : decode cX1_join 37 = .ok (.iload_n 2, 1) := by decide +kernel
theorem dX1_join_38 : decode cX1_join 38 = .ok (.iconst (-1), 1) := by decide +kernel
theorem dX1_join_39 : decode cX1_join 39 = .ok (.iastore, 1) := by decide +kernel
theorem dX1_join_40 : decode cX1_join 40 = .ok (.return_, 1) := by decide +kernel
theorem dX1_blockAt_0 : decode cX1_blockAt 0 = .ok (.iload_n 2, 1) := by decide +kernel
theorem dX1_blockAt_1 : decode cX1_blockAt 1 = .ok (.ifCond .lt 12, 3) := by decide +kernel
theorem dX1_blockAt_4 : decode cX1_blockAt 4 = .ok (.iload_n 2, 1) := by decide +kernel
theorem dX1_blockAt_5 : decode cX1_blockAt 5 = .ok (.aload_n 0, 1) := by decide +kernel
theorem dX1_blockAt_6 : decode cX1_blockAt 6 = .ok (.getfield 21, 3) := by decide +kernel
theorem dX1_blockAt_9 : decode cX1_blockAt 9 = .ok (.arraylength, 1) := by decide +kernel
theorem dX1_blockAt_10 : decode cX1_blockAt 10 = .ok (.if_icmp .lt 5, 3) := by decide +kernel
theorem dX1_blockAt_13 : decode cX1_blockAt 13 = .ok (.iconst (-1), 1) := by decide +kernel
theorem dX1_blockAt_14 : decode cX1_blockAt 14 = .ok (.ireturn, 1) := by decide +kernel
theorem dX1_blockAt_15 : decode cX1_blockAt 15 = .ok (.iload_n 1, 1) := by decide +kernel
theorem dX1_blockAt_16 : decode cX1_blockAt 16 = .ok (.istore_n 3, 1) := by decide +kernel
theorem dX1_blockAt_17 : decode cX1_blockAt 17 = .ok (.iconst 0, 1) := by decide +kernel
theorem dX1_blockAt_18 : decode cX1_blockAt 18 = .ok (.istore 4, 2) := by decide +kernel
theorem dX1_blockAt_20 : decode cX1_blockAt 20 = .ok (.iload 4, 2) := by decide +kernel
theorem dX1_blockAt_22 : decode cX1_blockAt 22 = .ok (.iload_n 2, 1) := by decide +kernel
theorem dX1_blockAt_23 : decode cX1_blockAt 23 = .ok (.if_icmp .ge 15, 3) := by decide +kernel
theorem dX1_blockAt_26 : decode cX1_blockAt 26 = .ok (.aload_n 0, 1) := by decide +kernel
theorem dX1_blockAt_27 : decode cX1_blockAt 27 = .ok (.iload_n 3, 1) := by decide +kernel
theorem dX1_blockAt_28 : decode cX1_blockAt 28 = .ok (.invokevirtual 28, 3) := by decide +kernel
theorem dX1_blockAt_31 : decode cX1_blockAt 31 = .ok (.istore_n 3, 1) := by decide +kernel
theorem dX1_blockAt_32 : decode cX1_blockAt 32 = .ok (.iinc 4 1, 3) := by decide +kernel
theorem dX1_blockAt_35 : decode cX1_blockAt 35 = .ok (.goto (-15), 3) := by decide +kernel
theorem dX1_blockAt_38 : decode cX1_blockAt 38 = .ok (.iload_n 3, 1) := by decide +kernel
theorem dX1_blockAt_39 : decode cX1_blockAt 39 = .ok (.ireturn, 1) := by decide +kernel
theorem dX1_remove_0 : decode cX1_remove 0 = .ok (.iload_n 1, 1) := by decide +kernel
theorem dX1_remove_1 : decode cX1_remove 1 = .ok (.istore_n 2, 1) := by decide +kernel
theorem dX1_remove_2 : decode cX1_remove 2 = .ok (.iconst 0, 1) := by decide +kernel
theorem dX1_remove_3 : decode cX1_remove 3 = .ok (.istore_n 3, 1) := by decide +kernel
theorem dX1_remove_4 : decode cX1_remove 4 = .ok (.iload_n 3, 1) := by decide +kernel
theorem dX1_remove_5 : decode cX1_remove 5 = .ok (.aload_n 0, 1) := by decide +kernel
theorem dX1_remove_6 : decode cX1_remove 6 = .ok (.getfield 21, 3) := by decide +kernel
theorem dX1_remove_9 : decode cX1_remove 9 = .ok (.arraylength, 1) := by decide +kernel
theorem dX1_remove_10 : decode cX1_remove 10 = .ok (.if_icmp .ge 28, 3) := by decide +kernel
theorem dX1_remove_13 : decode cX1_remove 13 = .ok (.iload_n 2, 1) := by decide +kernel
theorem dX1_remove_14 : decode cX1_remove 14 = .ok (.iconst (-1), 1) := by decide +kernel
theorem dX1_remove_15 : decode cX1_remove 15 = .ok (.if_icmp .eq 23, 3) := by decide +kernel
theorem dX1_remove_18 : decode cX1_remove 18 = .ok (.aload_n 0, 1) := by decide +kernel
theorem dX1_remove_19 : decode cX1_remove 19 = .ok (.getfield 9, 3) := by decide +kernel
theorem dX1_remove_22 : decode cX1_remove 22 = .ok (.iload_n 2, 1) := by decide +kernel
theorem dX1_remove_23 : decode cX1_remove 23 = .ok (.invokevirtual 32, 3) := by decide +kernel
theorem dX1_remove_26 : decode cX1_remove 26 = .ok (.aload_n 0, 1) := by decide +kernel
theorem dX1_remove_27 : decode cX1_remove 27 = .ok (.iload_n 2, 1) := by decide +kernel
theorem dX1_remove_28 : decode cX1_remove 28 = .ok (.invokevirtual 28, 3) := by decide +kernel
theorem dX1_remove_31 : decode cX1_remove 31 = .ok (.istore_n 2, 1) := by decide +kernel
theorem dX1_remove_32 : decode cX1_remove 32 = .ok (.iinc 3 1, 3) := by decide +kernel
theorem dX1_remove_35 : decode cX1_remove 35 = .ok (.goto (-31), 3) := by decide +kernel
theorem dX1_remove_38 : decode cX1_remove 38 = .ok (.return_, 1) := by decide +kernel
theorem dX2_init_0 : decode cX2_init 0 = .ok (.aload_n 0, 1) := by decide +kernel
theorem dX2_init_1 : decode cX2_init 1 = .ok (.invokespecial 3, 3) := by decide +kernel
theorem dX2_init_4 : decode cX2_init 4 = .ok (.aload_n 0, 1) := by decide +kernel
theorem dX2_init_5 : decode cX2_init 5 = .ok (.aload_n 1, 1) := by decide +kernel
theorem dX2_init_6 : decode cX2_init 6 = .ok (.putfield 9, 3) := by decide +kernel
theorem dX2_init_9 : decode cX2_init 9 = .ok (.aload_n 0, 1) := by decide +kernel
theorem dX2_init_10 : decode cX2_init 10 = .ok (.aload_n 2, 1) := by decide +kernel
theorem dX2_init_11 : decode cX2_init 11 = .ok (.putfield 15, 3) := by decide +kernel
theorem dX2_init_14 : decode cX2_init 14 = .ok (.aload_n 0, 1) := by decide +kernel
theorem dX2_init_15 : decode cX2_init 15 = .ok (.new 19, 3) := by decide +kernel
theorem dX2_init_18 : decode cX2_init 18 = .ok (.dup, 1) := by decide +kernel
theorem dX2_init_19 : decode cX2_init 19 = .ok (.iload_n 3, 1) := by decide +kernel
theorem dX2_init_20 : decode cX2_init 20 = .ok (.invokespecial 21, 3) := by decide +kernel
theorem dX2_init_23 : decode cX2_init 23 = .ok (.putfield 24, 3) := by decide +kernel
theorem dX2_init_26 : decode cX2_init 26 = .ok (.aload_n 0, 1) := by decide +kernel
theorem dX2_init_27 : decode cX2_init 27 = .ok (.iconst 0, 1) := by decide +kernel
theorem dX2_init_28 : decode cX2_init 28 = .ok (.aload_n 1, 1) := by decide +kernel
theorem dX2_init_29 : decode cX2_init 29 = .ok (.getfield 28, 3) := by decide +kernel
theorem dX2_init_32 : decode cX2_init 32 = .ok (.invokestatic 34, 3) := by decide +kernel
theorem dX2_init_35 : decode cX2_init 35 = .ok (.newarray .long, 2) := by decide +kernel
theorem dX2_init_37 : decode cX2_init 37 = .ok (.putfield 40, 3) := by decide +kernel
theorem dX2_init_40 : decode cX2_init 40 = .ok (.aload_n 0, 1) := by decide +kernel
theorem dX2_init_41 : decode cX2_init 41 = .ok (.iconst (-1), 1) := by decide +kernel
theorem dX2_init_42 : decode cX2_init 42 = .ok (.putfield 44, 3) := by decide +kernel
theorem dX2_init_45 : decode cX2_init 45 = .ok (.return_, 1) := by decide +kernel
theorem dX2_heldRecords_0 : decode cX2_heldRecords 0 = .ok (.aload_n 0, 1) := by decide +kernel
theorem dX2_heldRecords_1 : decode cX2_heldRecords 1 = .ok (.getfield 24, 3) := by decide +kernel
theorem dX2_heldRecords_4 : decode cX2_heldRecords 4 = .ok (.invokevirtual 47, 3) := by decide +kernel
theorem dX2_heldRecords_7 : decode cX2_heldRecords 7 = .ok (.aload_n 0, 1) := by decide +kernel
theorem dX2_heldRecords_8 : decode cX2_heldRecords 8 = .ok (.getfield 15, 3) := by decide +kernel
theorem dX2_heldRecords_11 : decode cX2_heldRecords 11 = .ok (.getfield 50, 3) := by decide +kernel
theorem dX2_heldRecords_14 : decode cX2_heldRecords 14 = .ok (.imul, 1) := by decide +kernel
theorem dX2_heldRecords_15 : decode cX2_heldRecords 15 = .ok (.aload_n 0, 1) := by decide +kernel
theorem dX2_heldRecords_16 : decode cX2_heldRecords 16 = .ok (.getfield 55, 3) := by decide +kernel
theorem dX2_heldRecords_19 : decode cX2_heldRecords 19 = .ok (.iadd, 1) := by decide +kernel
theorem dX2_heldRecords_20 : decode cX2_heldRecords 20 = .ok (.ireturn, 1) := by decide +kernel
theorem dX2_bring_0 : decode cX2_bring 0 = .ok (.aload_n 0, 1) := by decide +kernel
theorem dX2_bring_1 : decode cX2_bring 1 = .ok (.getfield 55, 3) := by decide +kernel
theorem dX2_bring_4 : decode cX2_bring 4 = .ok (.aload_n 0, 1) := by decide +kernel
theorem dX2_bring_5 : decode cX2_bring 5 = .ok (.getfield 15, 3) := by decide +kernel
theorem dX2_bring_8 : decode cX2_bring 8 = .ok (.getfield 58, 3) := by decide +kernel
theorem dX2_bring_11 : decode cX2_bring 11 = .ok (.imul, 1) := by decide +kernel
theorem dX2_bring_12 : decode cX2_bring 12 = .ok (.istore_n 2, 1) := by decide +kernel
theorem dX2_bring_13 : decode cX2_bring 13 = .ok (.iconst 0, 1) := by decide +kernel
theorem dX2_bring_14 : decode cX2_bring 14 = .ok (.istore_n 3, 1) := by decide +kernel
theorem dX2_bring_15 : decode cX2_bring 15 = .ok (.iload_n 3, 1) := by decide +kernel
theorem dX2_bring_16 : decode cX2_bring 16 = .ok (.aload_n 0, 1) := by decide +kernel
theorem dX2_bring_17 : decode cX2_bring 17 = .ok (.getfield 15, 3) := by decide +kernel
theorem dX2_bring_20 : decode cX2_bring 20 = .ok (.getfield 61, 3) := by decide +kernel
theorem dX2_bring_23 : decode cX2_bring 23 = .ok (.if_icmp .ge 25, 3) := by decide +kernel
theorem dX2_bring_26 : decode cX2_bring 26 = .ok (.iload_n 3, 1) := by decide +kernel
theorem dX2_bring_27 : decode cX2_bring 27 = .ok (.aload_n 1, 1) := by decide +kernel
theorem dX2_bring_28 : decode cX2_bring 28 = .ok (.arraylength, 1) := by decide +kernel
theorem dX2_bring_29 : decode cX2_bring 29 = .ok (.if_icmp .ge 19, 3) := by decide +kernel
theorem dX2_bring_32 : decode cX2_bring 32 = .ok (.aload_n 0, 1) := by decide +kernel
theorem dX2_bring_33 : decode cX2_bring 33 = .ok (.iload_n 2, 1) := by decide +kernel
theorem dX2_bring_34 : decode cX2_bring 34 = .ok (.iload_n 3, 1) := by decide +kernel
theorem dX2_bring_35 : decode cX2_bring 35 = .ok (.iadd, 1) := by decide +kernel
theorem dX2_bring_36 : decode cX2_bring 36 = .ok (.aload_n 1, 1) := by decide +kernel
theorem dX2_bring_37 : decode cX2_bring 37 = .ok (.iload_n 3, 1) := by decide +kernel
theorem dX2_bring_38 : decode cX2_bring 38 = .ok (.laload, 1) := by decide +kernel
theorem dX2_bring_39 : decode cX2_bring 39 = .ok (.invokevirtual 64, 3) := by decide +kernel
theorem dX2_bring_42 : decode cX2_bring 42 = .ok (.iinc 3 1, 3) := by decide +kernel
theorem dX2_bring_45 : decode cX2_bring 45 = .ok (.goto (-30), 3) := by decide +kernel
theorem dX2_bring_48 : decode cX2_bring 48 = .ok (.aload_n 0, 1) := by decide +kernel
theorem dX2_bring_49 : decode cX2_bring 49 = .ok (.iload_n 2, 1) := by decide +kernel
theorem dX2_bring_50 : decode cX2_bring 50 = .ok (.aload_n 0, 1) := by decide +kernel
theorem dX2_bring_51 : decode cX2_bring 51 = .ok (.getfield 15, 3) := by decide +kernel
theorem dX2_bring_54 : decode cX2_bring 54 = .ok (.getfield 61, 3) := by decide +kernel
theorem dX2_bring_57 : decode cX2_bring 57 = .ok (.iadd, 1) := by decide +kernel
theorem dX2_bring_58 : decode cX2_bring 58 = .ok (.aload_n 0, 1) := by decide +kernel
theorem dX2_bring_59 : decode cX2_bring 59 = .ok (.getfield 68, 3) := by decide +kernel
theorem dX2_bring_62 : decode cX2_bring 62 = .ok (.i2l, 1) := by decide +kernel
theorem dX2_bring_63 : decode cX2_bring 63 = .ok (.invokevirtual 64, 3) := by decide +kernel
theorem dX2_bring_66 : decode cX2_bring 66 = .ok (.aload_n 0, 1) := by decide +kernel
theorem dX2_bring_67 : decode cX2_bring 67 = .ok (.getfield 55, 3) := by decide +kernel
theorem dX2_bring_70 : decode cX2_bring 70 = .ok (.iconst 1, 1) := by decide +kernel
theorem dX2_bring_71 : decode cX2_bring 71 = .ok (.iadd, 1) := by decide +kernel
theorem dX2_bring_72 : decode cX2_bring 72 = .ok (.aload_n 0, 1) := by decide +kernel
theorem dX2_bring_73 : decode cX2_bring 73 = .ok (.getfield 15, 3) := by decide +kernel
theorem dX2_bring_76 : decode cX2_bring 76 = .ok (.getfield 50, 3) := by decide +kernel
theorem dX2_bring_79 : decode cX2_bring 79 = .ok (.if_icmp .ge 16, 3) := by decide +kernel
theorem dX2_bring_82 : decode cX2_bring 82 = .ok (.aload_n 0, 1) := by decide +kernel
theorem dX2_bring_83 : decode cX2_bring 83 = .ok (.dup, 1) := by decide +kernel
theorem dX2_bring_84 : decode cX2_bring 84 = .ok (.getfield 55, 3) := by decide +kernel
theorem dX2_bring_87 : decode cX2_bring 87 = .ok (.iconst 1, 1) := by decide +kernel
theorem dX2_bring_88 : decode cX2_bring 88 = .ok (.iadd, 1) := by decide +kernel
theorem dX2_bring_89 : decode cX2_bring 89 = .ok (.putfield 55, 3) := by decide +kernel
theorem dX2_bring_92 : decode cX2_bring 92 = .ok (.goto 50, 3) := by decide +kernel
theorem dX2_bring_95 : decode cX2_bring 95 = .ok (.aload_n 0, 1) := by decide +kernel
theorem dX2_bring_96 : decode cX2_bring 96 = .ok (.getfield 9, 3) := by decide +kernel
theorem dX2_bring_99 : decode cX2_bring 99 = .ok (.aload_n 0, 1) := by decide +kernel
theorem dX2_bring_100 : decode cX2_bring 100 = .ok (.getfield 40, 3) := by decide +kernel
theorem dX2_bring_103 : decode cX2_bring 103 = .ok (.aload_n 0, 1) := by decide +kernel
theorem dX2_bring_104 : decode cX2_bring 104 = .ok (.getfield 15, 3) := by decide +kernel
theorem dX2_bring_107 : decode cX2_bring 107 = .ok (.getfield 50, 3) := by decide +kernel
theorem dX2_bring_110 : decode cX2_bring 110 = .ok (.aload_n 0, 1) := by decide +kernel
theorem dX2_bring_111 : decode cX2_bring 111 = .ok (.getfield 15, 3) := by decide +kernel
theorem dX2_bring_114 : decode cX2_bring 114 = .ok (.getfield 58, 3) := by decide +kernel
theorem dX2_bring_117 : decode cX2_bring 117 = .ok (.imul, 1) := by decide +kernel
theorem dX2_bring_118 : decode cX2_bring 118 = .ok (.invokevirtual 71, 3) := by decide +kernel
theorem dX2_bring_121 : decode cX2_bring 121 = .ok (.istore_n 3, 1) := by decide +kernel
theorem dX2_bring_122 : decode cX2_bring 122 = .ok (.iload_n 3, 1) := by decide +kernel
theorem dX2_bring_123 : decode cX2_bring 123 = .ok (.iconst (-1), 1) := by decide +kernel
theorem dX2_bring_124 : decode cX2_bring 124 = .ok (.if_icmp .ne 5, 3) := by decide +kernel
theorem dX2_bring_127 : decode cX2_bring 127 = .ok (.iconst (-1), 1) := by decide +kernel
theorem dX2_bring_128 : decode cX2_bring 128 = .ok (.ireturn, 1) := by decide +kernel
theorem dX2_bring_129 : decode cX2_bring 129 = .ok (.aload_n 0, 1) := by decide +kernel
theorem dX2_bring_130 : decode cX2_bring 130 = .ok (.getfield 24, 3) := by decide +kernel
theorem dX2_bring_133 : decode cX2_bring 133 = .ok (.iload_n 3, 1) := by decide +kernel
theorem dX2_bring_134 : decode cX2_bring 134 = .ok (.invokevirtual 75, 3) := by decide +kernel
theorem dX2_bring_137 : decode cX2_bring 137 = .ok (.aload_n 0, 1) := by decide +kernel
theorem dX2_bring_138 : decode cX2_bring 138 = .ok (.iconst 0, 1) := by decide +kernel
theorem dX2_bring_139 : decode cX2_bring 139 = .ok (.putfield 55, 3) := by decide +kernel
theorem dX2_bring_142 : decode cX2_bring 142 = .ok (.aload_n 0, 1) := by decide +kernel
theorem dX2_bring_143 : decode cX2_bring 143 = .ok (.dup, 1) := by decide +kernel
theorem dX2_bring_144 : decode cX2_bring 144 = .ok (.getfield 68, 3) := by decide +kernel
theorem dX2_bring_147 : decode cX2_bring 147 = .ok (.iconst 1, 1) := by decide +kernel
theorem dX2_bring_148 : decode cX2_bring 148 = .ok (.iadd, 1) := by decide +kernel
theorem dX2_bring_149 : decode cX2_bring 149 = .ok (.putfield 68, 3) := by decide +kernel
theorem dX2_bring_152 : decode cX2_bring 152 = .ok (.aload_n 0, 1) := by decide +kernel
theorem dX2_bring_153 : decode cX2_bring 153 = .ok (.getfield 68, 3) := by decide +kernel
theorem dX2_bring_156 : decode cX2_bring 156 = .ok (.iconst 1, 1) := by decide +kernel
theorem dX2_bring_157 : decode cX2_bring 157 = .ok (.isub, 1) := by decide +kernel
theorem dX2_bring_158 : decode cX2_bring 158 = .ok (.ireturn, 1) := by decide +kernel
theorem dX2_setDesk_0 : decode cX2_setDesk 0 = .ok (.iload_n 1, 1) := by decide +kernel
theorem dX2_setDesk_1 : decode cX2_setDesk 1 = .ok (.ifCond .lt 19, 3) := by decide +kernel
theorem dX2_setDesk_4 : decode cX2_setDesk 4 = .ok (.iload_n 1, 1) := by decide +kernel
theorem dX2_setDesk_5 : decode cX2_setDesk 5 = .ok (.aload_n 0, 1) := by decide +kernel
theorem dX2_setDesk_6 : decode cX2_setDesk 6 = .ok (.getfield 40, 3) := by decide +kernel
theorem dX2_setDesk_9 : decode cX2_setDesk 9 = .ok (.arraylength, 1) := by decide +kernel
theorem dX2_setDesk_10 : decode cX2_setDesk 10 = .ok (.if_icmp .ge 10, 3) := by decide +kernel
theorem dX2_setDesk_13 : decode cX2_setDesk 13 = .ok (.aload_n 0, 1) := by decide +kernel
theorem dX2_setDesk_14 : decode cX2_setDesk 14 = .ok (.getfield 40, 3) := by decide +kernel
theorem dX2_setDesk_17 : decode cX2_setDesk 17 = .ok (.iload_n 1, 1) := by decide +kernel
theorem dX2_setDesk_18 : decode cX2_setDesk 18 = .ok (.lload_n 2, 1) := by decide +kernel
theorem dX2_setDesk_19 : decode cX2_setDesk 19 = .ok (.lastore, 1) := by decide +kernel
theorem dX2_setDesk_20 : decode cX2_setDesk 20 = .ok (.return_, 1) := by decide +kernel
theorem dX2_open_0 : decode cX2_open 0 = .ok (.aload_n 0, 1) := by decide +kernel
theorem dX2_open_1 : decode cX2_open 1 = .ok (.iconst 0, 1) := by decide +kernel
theorem dX2_open_2 : decode cX2_open 2 = .ok (.putfield 78, 3) := by decide +kernel
theorem dX2_open_5 : decode cX2_open 5 = .ok (.aload_n 0, 1) := by decide +kernel
theorem dX2_open_6 : decode cX2_open 6 = .ok (.aload_n 0, 1) := by decide +kernel
theorem dX2_open_7 : decode cX2_open 7 = .ok (.invokevirtual 81, 3) := by decide +kernel
theorem dX2_open_10 : decode cX2_open 10 = .ok (.putfield 84, 3) := by decide +kernel
theorem dX2_open_13 : decode cX2_open 13 = .ok (.aload_n 0, 1) := by decide +kernel
theorem dX2_open_14 : decode cX2_open 14 = .ok (.iconst (-1), 1) := by decide +kernel
theorem dX2_open_15 : decode cX2_open 15 = .ok (.putfield 44, 3) := by decide +kernel
theorem dX2_open_18 : decode cX2_open 18 = .ok (.aload_n 0, 1) := by decide +kernel
theorem dX2_open_19 : decode cX2_open 19 = .ok (.getfield 55, 3) := by decide +kernel
theorem dX2_open_22 : decode cX2_open 22 = .ok (.ifCond .ne 5, 3) := by decide +kernel
theorem dX2_open_25 : decode cX2_open 25 = .ok (.iconst 1, 1) := by decide +kernel
theorem dX2_open_26 : decode cX2_open 26 = .ok (.ireturn, 1) := by decide +kernel
theorem dX2_open_27 : decode cX2_open 27 = .ok (.aload_n 0, 1) := by decide +kernel
theorem dX2_open_28 : decode cX2_open 28 = .ok (.aload_n 0, 1) := by decide +kernel
theorem dX2_open_29 : decode cX2_open 29 = .ok (.getfield 9, 3) := by decide +kernel
theorem dX2_open_32 : decode cX2_open 32 = .ok (.aload_n 0, 1) := by decide +kernel
theorem dX2_open_33 : decode cX2_open 33 = .ok (.getfield 40, 3) := by decide +kernel
theorem dX2_open_36 : decode cX2_open 36 = .ok (.aload_n 0, 1) := by decide +kernel
theorem dX2_open_37 : decode cX2_open 37 = .ok (.getfield 55, 3) := by decide +kernel
theorem dX2_open_40 : decode cX2_open 40 = .ok (.aload_n 0, 1) := by decide +kernel
theorem dX2_open_41 : decode cX2_open 41 = .ok (.getfield 15, 3) := by decide +kernel
theorem dX2_open_44 : decode cX2_open 44 = .ok (.getfield 58, 3) := by decide +kernel
theorem dX2_open_47 : decode cX2_open 47 = .ok (.imul, 1) := by decide +kernel
theorem dX2_open_48 : decode cX2_open 48 = .ok (.invokevirtual 71, 3) := by decide +kernel
theorem dX2_open_51 : decode cX2_open 51 = .ok (.putfield 44, 3) := by decide +kernel
theorem dX2_open_54 : decode cX2_open 54 = .ok (.aload_n 0, 1) := by decide +kernel
theorem dX2_open_55 : decode cX2_open 55 = .ok (.getfield 44, 3) := by decide +kernel
theorem dX2_open_58 : decode cX2_open 58 = .ok (.iconst (-1), 1) := by decide +kernel
theorem dX2_open_59 : decode cX2_open 59 = .ok (.if_icmp .ne 5, 3) := by decide +kernel
theorem dX2_open_62 : decode cX2_open 62 = .ok (.iconst 0, 1) := by decide +kernel
theorem dX2_open_63 : decode cX2_open 63 = .ok (.ireturn, 1) := by decide +kernel
theorem dX2_open_64 : decode cX2_open 64 = .ok (.aload_n 0, 1) := by decide +kernel
theorem dX2_open_65 : decode cX2_open 65 = .ok (.getfield 24, 3) := by decide +kernel
theorem dX2_open_68 : decode cX2_open 68 = .ok (.aload_n 0, 1) := by decide +kernel
theorem dX2_open_69 : decode cX2_open 69 = .ok (.getfield 44, 3) := by decide +kernel
theorem dX2_open_72 : decode cX2_open 72 = .ok (.invokevirtual 75, 3) := by decide +kernel
theorem dX2_open_75 : decode cX2_open 75 = .ok (.iconst 1, 1) := by decide +kernel
theorem dX2_open_76 : decode cX2_open 76 = .ok (.ireturn, 1) := by decide +kernel
theorem dX2_undoOpen_0 : decode cX2_undoOpen 0 = .ok (.aload_n 0, 1) := by decide +kernel
theorem dX2_undoOpen_1 : decode cX2_undoOpen 1 = .ok (.getfield 44, 3) := by decide +kernel
theorem dX2_undoOpen_4 : decode cX2_undoOpen 4 = .ok (.iconst (-1), 1) := by decide +kernel
theorem dX2_undoOpen_5 : decode cX2_undoOpen 5 = .ok (.if_icmp .eq 35, 3) := by decide +kernel
theorem dX2_undoOpen_8 : decode cX2_undoOpen 8 = .ok (.aload_n 0, 1) := by decide +kernel
theorem dX2_undoOpen_9 : decode cX2_undoOpen 9 = .ok (.getfield 24, 3) := by decide +kernel
theorem dX2_undoOpen_12 : decode cX2_undoOpen 12 = .ok (.aload_n 0, 1) := by decide +kernel
theorem dX2_undoOpen_13 : decode cX2_undoOpen 13 = .ok (.getfield 24, 3) := by decide +kernel
theorem dX2_undoOpen_16 : decode cX2_undoOpen 16 = .ok (.invokevirtual 47, 3) := by decide +kernel
theorem dX2_undoOpen_19 : decode cX2_undoOpen 19 = .ok (.iconst 1, 1) := by decide +kernel
theorem dX2_undoOpen_20 : decode cX2_undoOpen 20 = .ok (.isub, 1) := by decide +kernel
theorem dX2_undoOpen_21 : decode cX2_undoOpen 21 = .ok (.invokevirtual 87, 3) := by decide +kernel
theorem dX2_undoOpen_24 : decode cX2_undoOpen 24 = .ok (.aload_n 0, 1) := by decide +kernel
theorem dX2_undoOpen_25 : decode cX2_undoOpen 25 = .ok (.getfield 9, 3) := by decide +kernel
theorem dX2_undoOpen_28 : decode cX2_undoOpen 28 = .ok (.aload_n 0, 1) := by decide +kernel
theorem dX2_undoOpen_29 : decode cX2_undoOpen 29 = .ok (.getfield 44, 3) := by decide +kernel
theorem dX2_undoOpen_32 : decode cX2_undoOpen 32 = .ok (.invokevirtual 90, 3) := by decide +kernel
theorem dX2_undoOpen_35 : decode cX2_undoOpen 35 = .ok (.aload_n 0, 1) := by decide +kernel
theorem dX2_undoOpen_36 : decode cX2_undoOpen 36 = .ok (.iconst (-1), 1) := by decide +kernel
theorem dX2_undoOpen_37 : decode cX2_undoOpen 37 = .ok (.putfield 44, 3) := by decide +kernel
theorem dX2_undoOpen_40 : decode cX2_undoOpen 40 = .ok (.return_, 1) := by decide +kernel
theorem dX2_next_0 : decode cX2_next 0 = .ok (.iconst 1, 1) := by decide +kernel
theorem dX2_next_1 : decode cX2_next 1 = .ok (.aload_n 0, 1) := by decide +kernel
theorem dX2_next_2 : decode cX2_next 2 = .ok (.getfield 15, 3) := by decide +kernel
theorem dX2_next_5 : decode cX2_next 5 = .ok (.getfield 50, 3) := by decide +kernel
theorem dX2_next_8 : decode cX2_next 8 = .ok (.invokestatic 34, 3) := by decide +kernel
theorem dX2_next_11 : decode cX2_next 11 = .ok (.istore_n 1, 1) := by decide +kernel
theorem dX2_next_12 : decode cX2_next 12 = .ok (.aload_n 0, 1) := by decide +kernel
theorem dX2_next_13 : decode cX2_next 13 = .ok (.getfield 24, 3) := by decide +kernel
theorem dX2_next_16 : decode cX2_next 16 = .ok (.aload_n 0, 1) := by decide +kernel
theorem dX2_next_17 : decode cX2_next 17 = .ok (.getfield 78, 3) := by decide +kernel
theorem dX2_next_20 : decode cX2_next 20 = .ok (.iload_n 1, 1) := by decide +kernel
theorem dX2_next_21 : decode cX2_next 21 = .ok (.idiv, 1) := by decide +kernel
theorem dX2_next_22 : decode cX2_next 22 = .ok (.invokevirtual 93, 3) := by decide +kernel
theorem dX2_next_25 : decode cX2_next 25 = .ok (.istore_n 2, 1) := by decide +kernel
theorem dX2_next_26 : decode cX2_next 26 = .ok (.aload_n 0, 1) := by decide +kernel
theorem dX2_next_27 : decode cX2_next 27 = .ok (.getfield 78, 3) := by decide +kernel
theorem dX2_next_30 : decode cX2_next 30 = .ok (.iload_n 1, 1) := by decide +kernel
theorem dX2_next_31 : decode cX2_next 31 = .ok (.irem, 1) := by decide +kernel
theorem dX2_next_32 : decode cX2_next 32 = .ok (.istore_n 3, 1) := by decide +kernel
theorem dX2_next_33 : decode cX2_next 33 = .ok (.iload_n 3, 1) := by decide +kernel
theorem dX2_next_34 : decode cX2_next 34 = .ok (.ifCond .ne 11, 3) := by decide +kernel
theorem dX2_next_37 : decode cX2_next 37 = .ok (.aload_n 0, 1) := by decide +kernel
theorem dX2_next_38 : decode cX2_next 38 = .ok (.getfield 9, 3) := by decide +kernel
theorem dX2_next_41 : decode cX2_next 41 = .ok (.iload_n 2, 1) := by decide +kernel
theorem dX2_next_42 : decode cX2_next 42 = .ok (.invokevirtual 97, 3) := by decide +kernel
theorem dX2_next_45 : decode cX2_next 45 = .ok (.aload_n 0, 1) := by decide +kernel
theorem dX2_next_46 : decode cX2_next 46 = .ok (.dup, 1) := by decide +kernel
theorem dX2_next_47 : decode cX2_next 47 = .ok (.getfield 78, 3) := by decide +kernel
theorem dX2_next_50 : decode cX2_next 50 = .ok (.iconst 1, 1) := by decide +kernel
theorem dX2_next_51 : decode cX2_next 51 = .ok (.iadd, 1) := by decide +kernel
theorem dX2_next_52 : decode cX2_next 52 = .ok (.putfield 78, 3) := by decide +kernel
theorem dX2_next_55 : decode cX2_next 55 = .ok (.aload_n 0, 1) := by decide +kernel
theorem dX2_next_56 : decode cX2_next 56 = .ok (.dup, 1) := by decide +kernel
theorem dX2_next_57 : decode cX2_next 57 = .ok (.getfield 84, 3) := by decide +kernel
theorem dX2_next_60 : decode cX2_next 60 = .ok (.iconst 1, 1) := by decide +kernel
theorem dX2_next_61 : decode cX2_next 61 = .ok (.isub, 1) := by decide +kernel
theorem dX2_next_62 : decode cX2_next 62 = .ok (.putfield 84, 3) := by decide +kernel
theorem dX2_next_65 : decode cX2_next 65 = .ok (.iload_n 2, 1) := by decide +kernel
theorem dX2_next_66 : decode cX2_next 66 = .ok (.aload_n 0, 1) := by decide +kernel
theorem dX2_next_67 : decode cX2_next 67 = .ok (.getfield 9, 3) := by decide +kernel
theorem dX2_next_70 : decode cX2_next 70 = .ok (.getfield 28, 3) := by decide +kernel
theorem dX2_next_73 : decode cX2_next 73 = .ok (.imul, 1) := by decide +kernel
theorem dX2_next_74 : decode cX2_next 74 = .ok (.iload_n 3, 1) := by decide +kernel
theorem dX2_next_75 : decode cX2_next 75 = .ok (.aload_n 0, 1) := by decide +kernel
theorem dX2_next_76 : decode cX2_next 76 = .ok (.getfield 15, 3) := by decide +kernel
theorem dX2_next_79 : decode cX2_next 79 = .ok (.getfield 58, 3) := by decide +kernel
theorem dX2_next_82 : decode cX2_next 82 = .ok (.imul, 1) := by decide +kernel
theorem dX2_next_83 : decode cX2_next 83 = .ok (.iadd, 1) := by decide +kernel
theorem dX2_next_84 : decode cX2_next 84 = .ok (.ireturn, 1) := by decide +kernel
theorem dX2_removeAll_0 : decode cX2_removeAll 0 = .ok (.iconst 0, 1) := by decide +kernel
theorem dX2_removeAll_1 : decode cX2_removeAll 1 = .ok (.istore_n 1, 1) := by decide +kernel
theorem dX2_removeAll_2 : decode cX2_removeAll 2 = .ok (.iload_n 1, 1) := by decide +kernel
theorem dX2_removeAll_3 : decode cX2_removeAll 3 = .ok (.aload_n 0, 1) := by decide +kernel
theorem dX2_removeAll_4 : decode cX2_removeAll 4 = .ok (.getfield 24, 3) := by decide +kernel
theorem dX2_removeAll_7 : decode cX2_removeAll 7 = .ok (.invokevirtual 47, 3) := by decide +kernel
theorem dX2_removeAll_10 : decode cX2_removeAll 10 = .ok (.if_icmp .ge 24, 3) := by decide +kernel
theorem dX2_removeAll_13 : decode cX2_removeAll 13 = .ok (.aload_n 0, 1) := by decide +kernel
theorem dX2_removeAll_14 : decode cX2_removeAll 14 = .ok (.getfield 9, 3) := by decide +kernel
theorem dX2_removeAll_17 : decode cX2_removeAll 17 = .ok (.aload_n 0, 1) := by decide +kernel
theorem dX2_removeAll_18 : decode cX2_removeAll 18 = .ok (.getfield 24, 3) := by decide +kernel
theorem dX2_removeAll_21 : decode cX2_removeAll 21 = .ok (.iload_n 1, 1) := by decide +kernel
theorem dX2_removeAll_22 : decode cX2_removeAll 22 = .ok (.invokevirtual 93, 3) := by decide +kernel
theorem dX2_removeAll_25 : decode cX2_removeAll 25 = .ok (.invokevirtual 90, 3) := by decide +kernel
theorem dX2_removeAll_28 : decode cX2_removeAll 28 = .ok (.iinc 1 1, 3) := by decide +kernel
theorem dX2_removeAll_31 : decode cX2_removeAll 31 = .ok (.goto (-29), 3) := by decide +kernel
theorem dX2_removeAll_34 : decode cX2_removeAll 34 = .ok (.aload_n 0, 1) := by decide +kernel
theorem dX2_removeAll_35 : decode cX2_removeAll 35 = .ok (.getfield 24, 3) := by decide +kernel
theorem dX2_removeAll_38 : decode cX2_removeAll 38 = .ok (.invokevirtual 100, 3) := by decide +kernel
theorem dX2_removeAll_41 : decode cX2_removeAll 41 = .ok (.aload_n 0, 1) := by decide +kernel
theorem dX2_removeAll_42 : decode cX2_removeAll 42 = .ok (.iconst 0, 1) := by decide +kernel
theorem dX2_removeAll_43 : decode cX2_removeAll 43 = .ok (.putfield 55, 3) := by decide +kernel
theorem dX2_removeAll_46 : decode cX2_removeAll 46 = .ok (.aload_n 0, 1) := by decide +kernel
theorem dX2_removeAll_47 : decode cX2_removeAll 47 = .ok (.iconst (-1), 1) := by decide +kernel
theorem dX2_removeAll_48 : decode cX2_removeAll 48 = .ok (.putfield 44, 3) := by decide +kernel
theorem dX2_removeAll_51 : decode cX2_removeAll 51 = .ok (.return_, 1) := by decide +kernel
theorem dX3_init_0 : decode cX3_init 0 = .ok (.aload_n 0, 1) := by decide +kernel
theorem dX3_init_1 : decode cX3_init 1 = .ok (.invokespecial 3, 3) := by decide +kernel
theorem dX3_init_4 : decode cX3_init 4 = .ok (.aload_n 0, 1) := by decide +kernel
theorem dX3_init_5 : decode cX3_init 5 = .ok (.aload_n 1, 1) := by decide +kernel
theorem dX3_init_6 : decode cX3_init 6 = .ok (.putfield 9, 3) := by decide +kernel
theorem dX3_init_9 : decode cX3_init 9 = .ok (.aload_n 0, 1) := by decide +kernel
theorem dX3_init_10 : decode cX3_init 10 = .ok (.iload_n 2, 1) := by decide +kernel
theorem dX3_init_11 : decode cX3_init 11 = .ok (.putfield 15, 3) := by decide +kernel
theorem dX3_init_14 : decode cX3_init 14 = .ok (.aload_n 0, 1) := by decide +kernel
theorem dX3_init_15 : decode cX3_init 15 = .ok (.iconst 0, 1) := by decide +kernel
theorem dX3_init_16 : decode cX3_init 16 = .ok (.iload_n 2, 1) := by decide +kernel
theorem dX3_init_17 : decode cX3_init 17 = .ok (.invokestatic 19, 3) := by decide +kernel
theorem dX3_init_20 : decode cX3_init 20 = .ok (.newarray .int, 2) := by decide +kernel
theorem dX3_init_22 : decode cX3_init 22 = .ok (.putfield 25, 3) := by decide +kernel
theorem dX3_init_25 : decode cX3_init 25 = .ok (.aload_n 0, 1) := by decide +kernel
theorem dX3_init_26 : decode cX3_init 26 = .ok (.iconst 0, 1) := by decide +kernel
theorem dX3_init_27 : decode cX3_init 27 = .ok (.iload_n 2, 1) := by decide +kernel
theorem dX3_init_28 : decode cX3_init 28 = .ok (.invokestatic 19, 3) := by decide +kernel
theorem dX3_init_31 : decode cX3_init 31 = .ok (.newarray .int, 2) := by decide +kernel
theorem dX3_init_33 : decode cX3_init 33 = .ok (.putfield 29, 3) := by decide +kernel
theorem dX3_init_36 : decode cX3_init 36 = .ok (.return_, 1) := by decide +kernel
theorem dX3_clear_0 : decode cX3_clear 0 = .ok (.aload_n 0, 1) := by decide +kernel
theorem dX3_clear_1 : decode cX3_clear 1 = .ok (.iconst 0, 1) := by decide +kernel
theorem dX3_clear_2 : decode cX3_clear 2 = .ok (.putfield 32, 3) := by decide +kernel
theorem dX3_clear_5 : decode cX3_clear 5 = .ok (.return_, 1) := by decide +kernel
theorem dX3_firstTurn_0 : decode cX3_firstTurn 0 = .ok (.aload_n 0, 1) := by decide +kernel
theorem dX3_firstTurn_1 : decode cX3_firstTurn 1 = .ok (.getfield 32, 3) := by decide +kernel
theorem dX3_firstTurn_4 : decode cX3_firstTurn 4 = .ok (.ifCond .le 20, 3) := by decide +kernel
theorem dX3_firstTurn_7 : decode cX3_firstTurn 7 = .ok (.aload_n 0, 1) := by decide +kernel
theorem dX3_firstTurn_8 : decode cX3_firstTurn 8 = .ok (.getfield 29, 3) := by decide +kernel
theorem dX3_firstTurn_11 : decode cX3_firstTurn 11 = .ok (.arraylength, 1) := by decide +kernel
theorem dX3_firstTurn_12 : decode cX3_firstTurn 12 = .ok (.ifCond .le 12, 3) := by decide +kernel
theorem dX3_firstTurn_15 : decode cX3_firstTurn 15 = .ok (.aload_n 0, 1) := by decide +kernel
theorem dX3_firstTurn_16 : decode cX3_firstTurn 16 = .ok (.getfield 29, 3) := by decide +kernel
theorem dX3_firstTurn_19 : decode cX3_firstTurn 19 = .ok (.iconst 0, 1) := by decide +kernel
theorem dX3_firstTurn_20 : decode cX3_firstTurn 20 = .ok (.iaload, 1) := by decide +kernel
theorem dX3_firstTurn_21 : decode cX3_firstTurn 21 = .ok (.goto 4, 3) := by decide +kernel
theorem dX3_firstTurn_24 : decode cX3_firstTurn 24 = .ok (.iconst 0, 1) := by decide +kernel
theorem dX3_firstTurn_25 : decode cX3_firstTurn 25 = .ok (.ireturn, 1) := by decide +kernel
theorem dX3_add_0 : decode cX3_add 0 = .ok (.aload_n 0, 1) := by decide +kernel
theorem dX3_add_1 : decode cX3_add 1 = .ok (.getfield 32, 3) := by decide +kernel
theorem dX3_add_4 : decode cX3_add 4 = .ok (.ifCond .lt 27, 3) := by decide +kernel
theorem dX3_add_7 : decode cX3_add 7 = .ok (.aload_n 0, 1) := by decide +kernel
theorem dX3_add_8 : decode cX3_add 8 = .ok (.getfield 32, 3) := by decide +kernel
theorem dX3_add_11 : decode cX3_add 11 = .ok (.aload_n 0, 1) := by decide +kernel
theorem dX3_add_12 : decode cX3_add 12 = .ok (.getfield 25, 3) := by decide +kernel
theorem dX3_add_15 : decode cX3_add 15 = .ok (.arraylength, 1) := by decide +kernel
theorem dX3_add_16 : decode cX3_add 16 = .ok (.if_icmp .ge 15, 3) := by decide +kernel
theorem dX3_add_19 : decode cX3_add 19 = .ok (.aload_n 0, 1) := by decide +kernel
theorem dX3_add_20 : decode cX3_add 20 = .ok (.getfield 32, 3) := by decide +kernel
theorem dX3_add_23 : decode cX3_add 23 = .ok (.aload_n 0, 1) := by decide +kernel
theorem dX3_add_24 : decode cX3_add 24 = .ok (.getfield 29, 3) := by decide +kernel
theorem dX3_add_27 : decode cX3_add 27 = .ok (.arraylength, 1) := by decide +kernel
theorem dX3_add_28 : decode cX3_add 28 = .ok (.if_icmp .lt 4, 3) := by decide +kernel
theorem dX3_add_31 : decode cX3_add 31 = .ok (.return_, 1) := by decide +kernel
theorem dX3_add_32 : decode cX3_add 32 = .ok (.aload_n 0, 1) := by decide +kernel
theorem dX3_add_33 : decode cX3_add 33 = .ok (.getfield 32, 3) := by decide +kernel
theorem dX3_add_36 : decode cX3_add 36 = .ok (.istore_n 3, 1) := by decide +kernel
theorem dX3_add_37 : decode cX3_add 37 = .ok (.aload_n 0, 1) := by decide +kernel
theorem dX3_add_38 : decode cX3_add 38 = .ok (.dup, 1) := by decide +kernel
theorem dX3_add_39 : decode cX3_add 39 = .ok (.getfield 32, 3) := by decide +kernel
theorem dX3_add_42 : decode cX3_add 42 = .ok (.iconst 1, 1) := by decide +kernel
theorem dX3_add_43 : decode cX3_add 43 = .ok (.iadd, 1) := by decide +kernel
theorem dX3_add_44 : decode cX3_add 44 = .ok (.putfield 32, 3) := by decide +kernel
theorem dX3_add_47 : decode cX3_add 47 = .ok (.iload_n 3, 1) := by decide +kernel
theorem dX3_add_48 : decode cX3_add 48 = .ok (.istore 4, 2) := by decide +kernel
theorem dX3_add_50 : decode cX3_add 50 = .ok (.iload 4, 2) := by decide +kernel
theorem dX3_add_52 : decode cX3_add 52 = .ok (.ifCond .le 46, 3) := by decide +kernel
theorem dX3_add_55 : decode cX3_add 55 = .ok (.iload 4, 2) := by decide +kernel
theorem dX3_add_57 : decode cX3_add 57 = .ok (.iconst 1, 1) := by decide +kernel
theorem dX3_add_58 : decode cX3_add 58 = .ok (.isub, 1) := by decide +kernel
theorem dX3_add_59 : decode cX3_add 59 = .ok (.iconst 2, 1) := by decide +kernel
theorem dX3_add_60 : decode cX3_add 60 = .ok (.idiv, 1) := by decide +kernel
theorem dX3_add_61 : decode cX3_add 61 = .ok (.istore 5, 2) := by decide +kernel
theorem dX3_add_63 : decode cX3_add 63 = .ok (.aload_n 0, 1) := by decide +kernel
theorem dX3_add_64 : decode cX3_add 64 = .ok (.iload_n 1, 1) := by decide +kernel
theorem dX3_add_65 : decode cX3_add 65 = .ok (.iload_n 2, 1) := by decide +kernel
theorem dX3_add_66 : decode cX3_add 66 = .ok (.iload 5, 2) := by decide +kernel
theorem dX3_add_68 : decode cX3_add 68 = .ok (.invokevirtual 35, 3) := by decide +kernel
theorem dX3_add_71 : decode cX3_add 71 = .ok (.ifCond .ne 6, 3) := by decide +kernel
theorem dX3_add_74 : decode cX3_add 74 = .ok (.goto 24, 3) := by decide +kernel
theorem dX3_add_77 : decode cX3_add 77 = .ok (.aload_n 0, 1) := by decide +kernel
theorem dX3_add_78 : decode cX3_add 78 = .ok (.iload_n 3, 1) := by decide +kernel
theorem dX3_add_79 : decode cX3_add 79 = .ok (.iload 5, 2) := by decide +kernel
theorem dX3_add_81 : decode cX3_add 81 = .ok (.invokevirtual 39, 3) := by decide +kernel
theorem dX3_add_84 : decode cX3_add 84 = .ok (.iload 5, 2) := by decide +kernel
theorem dX3_add_86 : decode cX3_add 86 = .ok (.istore_n 3, 1) := by decide +kernel
theorem dX3_add_87 : decode cX3_add 87 = .ok (.iload 4, 2) := by decide +kernel
theorem dX3_add_89 : decode cX3_add 89 = .ok (.iconst 1, 1) := by decide +kernel
theorem dX3_add_90 : decode cX3_add 90 = .ok (.isub, 1) := by decide +kernel
theorem dX3_add_91 : decode cX3_add 91 = .ok (.iconst 2, 1) := by decide +kernel
theorem dX3_add_92 : decode cX3_add 92 = .ok (.idiv, 1) := by decide +kernel
theorem dX3_add_93 : decode cX3_add 93 = .ok (.istore 4, 2) := by decide +kernel
theorem dX3_add_95 : decode cX3_add 95 = .ok (.goto (-45), 3) := by decide +kernel
theorem dX3_add_98 : decode cX3_add 98 = .ok (.aload_n 0, 1) := by decide +kernel
theorem dX3_add_99 : decode cX3_add 99 = .ok (.iload_n 3, 1) := by decide +kernel
theorem dX3_add_100 : decode cX3_add 100 = .ok (.iload_n 1, 1) := by decide +kernel
theorem dX3_add_101 : decode cX3_add 101 = .ok (.iload_n 2, 1) := by decide +kernel
theorem dX3_add_102 : decode cX3_add 102 = .ok (.invokevirtual 43, 3) := by decide +kernel
theorem dX3_add_105 : decode cX3_add 105 = .ok (.return_, 1) := by decide +kernel
theorem dX3_takeFirst_0 : decode cX3_takeFirst 0 = .ok (.aload_n 0, 1) := by decide +kernel
theorem dX3_takeFirst_1 : decode cX3_takeFirst 1 = .ok (.getfield 32, 3) := by decide +kernel
theorem dX3_takeFirst_4 : decode cX3_takeFirst 4 = .ok (.iconst 1, 1) := by decide +kernel
theorem dX3_takeFirst_5 : decode cX3_takeFirst 5 = .ok (.if_icmp .lt 27, 3) := by decide +kernel
theorem dX3_takeFirst_8 : decode cX3_takeFirst 8 = .ok (.aload_n 0, 1) := by decide +kernel
theorem dX3_takeFirst_9 : decode cX3_takeFirst 9 = .ok (.getfield 32, 3) := by decide +kernel
theorem dX3_takeFirst_12 : decode cX3_takeFirst 12 = .ok (.aload_n 0, 1) := by decide +kernel
theorem dX3_takeFirst_13 : decode cX3_takeFirst 13 = .ok (.getfield 25, 3) := by decide +kernel
theorem dX3_takeFirst_16 : decode cX3_takeFirst 16 = .ok (.arraylength, 1) := by decide +kernel
theorem dX3_takeFirst_17 : decode cX3_takeFirst 17 = .ok (.if_icmp .gt 15, 3) := by decide +kernel
theorem dX3_takeFirst_20 : decode cX3_takeFirst 20 = .ok (.aload_n 0, 1) := by decide +kernel
theorem dX3_takeFirst_21 : decode cX3_takeFirst 21 = .ok (.getfield 32, 3) := by decide +kernel
theorem dX3_takeFirst_24 : decode cX3_takeFirst 24 = .ok (.aload_n 0, 1) := by decide +kernel
theorem dX3_takeFirst_25 : decode cX3_takeFirst 25 = .ok (.getfield 29, 3) := by decide +kernel
theorem dX3_takeFirst_28 : decode cX3_takeFirst 28 = .ok (.arraylength, 1) := by decide +kernel
theorem dX3_takeFirst_29 : decode cX3_takeFirst 29 = .ok (.if_icmp .le 5, 3) := by decide +kernel
theorem dX3_takeFirst_32 : decode cX3_takeFirst 32 = .ok (.iconst (-1), 1) := by decide +kernel
theorem dX3_takeFirst_33 : decode cX3_takeFirst 33 = .ok (.ireturn, 1) := by decide +kernel
theorem dX3_takeFirst_34 : decode cX3_takeFirst 34 = .ok (.aload_n 0, 1) := by decide +kernel
theorem dX3_takeFirst_35 : decode cX3_takeFirst 35 = .ok (.getfield 25, 3) := by decide +kernel
theorem dX3_takeFirst_38 : decode cX3_takeFirst 38 = .ok (.iconst 0, 1) := by decide +kernel
theorem dX3_takeFirst_39 : decode cX3_takeFirst 39 = .ok (.iaload, 1) := by decide +kernel
theorem dX3_takeFirst_40 : decode cX3_takeFirst 40 = .ok (.istore_n 1, 1) := by decide +kernel
theorem dX3_takeFirst_41 : decode cX3_takeFirst 41 = .ok (.aload_n 0, 1) := by decide +kernel
theorem dX3_takeFirst_42 : decode cX3_takeFirst 42 = .ok (.dup, 1) := by decide +kernel
theorem dX3_takeFirst_43 : decode cX3_takeFirst 43 = .ok (.getfield 32, 3) := by decide +kernel
theorem dX3_takeFirst_46 : decode cX3_takeFirst 46 = .ok (.iconst 1, 1) := by decide +kernel
theorem dX3_takeFirst_47 : decode cX3_takeFirst 47 = .ok (.isub, 1) := by decide +kernel
theorem dX3_takeFirst_48 : decode cX3_takeFirst 48 = .ok (.putfield 32, 3) := by decide +kernel
theorem dX3_takeFirst_51 : decode cX3_takeFirst 51 = .ok (.aload_n 0, 1) := by decide +kernel
theorem dX3_takeFirst_52 : decode cX3_takeFirst 52 = .ok (.getfield 25, 3) := by decide +kernel
theorem dX3_takeFirst_55 : decode cX3_takeFirst 55 = .ok (.aload_n 0, 1) := by decide +kernel
theorem dX3_takeFirst_56 : decode cX3_takeFirst 56 = .ok (.getfield 32, 3) := by decide +kernel
theorem dX3_takeFirst_59 : decode cX3_takeFirst 59 = .ok (.iaload, 1) := by decide +kernel
theorem dX3_takeFirst_60 : decode cX3_takeFirst 60 = .ok (.istore_n 2, 1) := by decide +kernel
theorem dX3_takeFirst_61 : decode cX3_takeFirst 61 = .ok (.aload_n 0, 1) := by decide +kernel
theorem dX3_takeFirst_62 : decode cX3_takeFirst 62 = .ok (.getfield 29, 3) := by decide +kernel
theorem dX3_takeFirst_65 : decode cX3_takeFirst 65 = .ok (.aload_n 0, 1) := by decide +kernel
theorem dX3_takeFirst_66 : decode cX3_takeFirst 66 = .ok (.getfield 32, 3) := by decide +kernel
theorem dX3_takeFirst_69 : decode cX3_takeFirst 69 = .ok (.iaload, 1) := by decide +kernel
theorem dX3_takeFirst_70 : decode cX3_takeFirst 70 = .ok (.istore_n 3, 1) := by decide +kernel
theorem dX3_takeFirst_71 : decode cX3_takeFirst 71 = .ok (.iconst 0, 1) := by decide +kernel
theorem dX3_takeFirst_72 : decode cX3_takeFirst 72 = .ok (.istore 4, 2) := by decide +kernel
theorem dX3_takeFirst_74 : decode cX3_takeFirst 74 = .ok (.iconst 1, 1) := by decide +kernel
theorem dX3_takeFirst_75 : decode cX3_takeFirst 75 = .ok (.istore 5, 2) := by decide +kernel
theorem dX3_takeFirst_77 : decode cX3_takeFirst 77 = .ok (.iload 5, 2) := by decide +kernel
theorem dX3_takeFirst_79 : decode cX3_takeFirst 79 = .ok (.aload_n 0, 1) := by decide +kernel
theorem dX3_takeFirst_80 : decode cX3_takeFirst 80 = .ok (.getfield 32, 3) := by decide +kernel
theorem dX3_takeFirst_83 : decode cX3_takeFirst 83 = .ok (.if_icmp .ge 89, 3) := by decide +kernel
theorem dX3_takeFirst_86 : decode cX3_takeFirst 86 = .ok (.iload 5, 2) := by decide +kernel
theorem dX3_takeFirst_88 : decode cX3_takeFirst 88 = .ok (.iconst 1, 1) := by decide +kernel
theorem dX3_takeFirst_89 : decode cX3_takeFirst 89 = .ok (.iadd, 1) := by decide +kernel
theorem dX3_takeFirst_90 : decode cX3_takeFirst 90 = .ok (.aload_n 0, 1) := by decide +kernel
theorem dX3_takeFirst_91 : decode cX3_takeFirst 91 = .ok (.getfield 32, 3) := by decide +kernel
theorem dX3_takeFirst_94 : decode cX3_takeFirst 94 = .ok (.if_icmp .ge 37, 3) := by decide +kernel
theorem dX3_takeFirst_97 : decode cX3_takeFirst 97 = .ok (.aload_n 0, 1) := by decide +kernel
theorem dX3_takeFirst_98 : decode cX3_takeFirst 98 = .ok (.aload_n 0, 1) := by decide +kernel
theorem dX3_takeFirst_99 : decode cX3_takeFirst 99 = .ok (.getfield 25, 3) := by decide +kernel
theorem dX3_takeFirst_102 : decode cX3_takeFirst 102 = .ok (.iload 5, 2) := by decide +kernel
theorem dX3_takeFirst_104 : decode cX3_takeFirst 104 = .ok (.iconst 1, 1) := by decide +kernel
theorem dX3_takeFirst_105 : decode cX3_takeFirst 105 = .ok (.iadd, 1) := by decide +kernel
theorem dX3_takeFirst_106 : decode cX3_takeFirst 106 = .ok (.iaload, 1) := by decide +kernel
theorem dX3_takeFirst_107 : decode cX3_takeFirst 107 = .ok (.aload_n 0, 1) := by decide +kernel
theorem dX3_takeFirst_108 : decode cX3_takeFirst 108 = .ok (.getfield 29, 3) := by decide +kernel
theorem dX3_takeFirst_111 : decode cX3_takeFirst 111 = .ok (.iload 5, 2) := by decide +kernel
theorem dX3_takeFirst_113 : decode cX3_takeFirst 113 = .ok (.iconst 1, 1) := by decide +kernel
theorem dX3_takeFirst_114 : decode cX3_takeFirst 114 = .ok (.iadd, 1) := by decide +kernel
theorem dX3_takeFirst_115 : decode cX3_takeFirst 115 = .ok (.iaload, 1) := by decide +kernel
theorem dX3_takeFirst_116 : decode cX3_takeFirst 116 = .ok (.iload 5, 2) := by decide +kernel
theorem dX3_takeFirst_118 : decode cX3_takeFirst 118 = .ok (.invokevirtual 35, 3) := by decide +kernel
theorem dX3_takeFirst_121 : decode cX3_takeFirst 121 = .ok (.ifCond .eq 10, 3) := by decide +kernel
theorem dX3_takeFirst_124 : decode cX3_takeFirst 124 = .ok (.iload 5, 2) := by decide +kernel
theorem dX3_takeFirst_126 : decode cX3_takeFirst 126 = .ok (.iconst 1, 1) := by decide +kernel
theorem dX3_takeFirst_127 : decode cX3_takeFirst 127 = .ok (.iadd, 1) := by decide +kernel
theorem dX3_takeFirst_128 : decode cX3_takeFirst 128 = .ok (.goto 5, 3) := by decide +kernel
theorem dX3_takeFirst_131 : decode cX3_takeFirst 131 = .ok (.iload 5, 2) := by decide +kernel
theorem dX3_takeFirst_133 : decode cX3_takeFirst 133 = .ok (.istore 6, 2) := by decide +kernel
theorem dX3_takeFirst_135 : decode cX3_takeFirst 135 = .ok (.aload_n 0, 1) := by decide +kernel
theorem dX3_takeFirst_136 : decode cX3_takeFirst 136 = .ok (.iload_n 2, 1) := by decide +kernel
theorem dX3_takeFirst_137 : decode cX3_takeFirst 137 = .ok (.iload_n 3, 1) := by decide +kernel
theorem dX3_takeFirst_138 : decode cX3_takeFirst 138 = .ok (.iload 6, 2) := by decide +kernel
theorem dX3_takeFirst_140 : decode cX3_takeFirst 140 = .ok (.invokevirtual 35, 3) := by decide +kernel
theorem dX3_takeFirst_143 : decode cX3_takeFirst 143 = .ok (.ifCond .eq 6, 3) := by decide +kernel
theorem dX3_takeFirst_146 : decode cX3_takeFirst 146 = .ok (.goto 26, 3) := by decide +kernel
theorem dX3_takeFirst_149 : decode cX3_takeFirst 149 = .ok (.aload_n 0, 1) := by decide +kernel
theorem dX3_takeFirst_150 : decode cX3_takeFirst 150 = .ok (.iload 4, 2) := by decide +kernel
theorem dX3_takeFirst_152 : decode cX3_takeFirst 152 = .ok (.iload 6, 2) := by decide +kernel
theorem dX3_takeFirst_154 : decode cX3_takeFirst 154 = .ok (.invokevirtual 39, 3) := by decide +kernel
theorem dX3_takeFirst_157 : decode cX3_takeFirst 157 = .ok (.iload 6, 2) := by decide +kernel
theorem dX3_takeFirst_159 : decode cX3_takeFirst 159 = .ok (.istore 4, 2) := by decide +kernel
theorem dX3_takeFirst_161 : decode cX3_takeFirst 161 = .ok (.iconst 2, 1) := by decide +kernel
theorem dX3_takeFirst_162 : decode cX3_takeFirst 162 = .ok (.iload 4, 2) := by decide +kernel
theorem dX3_takeFirst_164 : decode cX3_takeFirst 164 = .ok (.imul, 1) := by decide +kernel
theorem dX3_takeFirst_165 : decode cX3_takeFirst 165 = .ok (.iconst 1, 1) := by decide +kernel
theorem dX3_takeFirst_166 : decode cX3_takeFirst 166 = .ok (.iadd, 1) := by decide +kernel
theorem dX3_takeFirst_167 : decode cX3_takeFirst 167 = .ok (.istore 5, 2) := by decide +kernel
theorem dX3_takeFirst_169 : decode cX3_takeFirst 169 = .ok (.goto (-92), 3) := by decide +kernel
theorem dX3_takeFirst_172 : decode cX3_takeFirst 172 = .ok (.aload_n 0, 1) := by decide +kernel
theorem dX3_takeFirst_173 : decode cX3_takeFirst 173 = .ok (.iload 4, 2) := by decide +kernel
theorem dX3_takeFirst_175 : decode cX3_takeFirst 175 = .ok (.iload_n 2, 1) := by decide +kernel
theorem dX3_takeFirst_176 : decode cX3_takeFirst 176 = .ok (.iload_n 3, 1) := by decide +kernel
theorem dX3_takeFirst_177 : decode cX3_takeFirst 177 = .ok (.invokevirtual 43, 3) := by decide +kernel
theorem dX3_takeFirst_180 : decode cX3_takeFirst 180 = .ok (.iload_n 1, 1) := by decide +kernel
theorem dX3_takeFirst_181 : decode cX3_takeFirst 181 = .ok (.ireturn, 1) := by decide +kernel
theorem dX3_isAhead_0 : decode cX3_isAhead 0 = .ok (.iload_n 3, 1) := by decide +kernel
theorem dX3_isAhead_1 : decode cX3_isAhead 1 = .ok (.ifCond .lt 21, 3) := by decide +kernel
theorem dX3_isAhead_4 : decode cX3_isAhead 4 = .ok (.iload_n 3, 1) := by decide +kernel
theorem dX3_isAhead_5 : decode cX3_isAhead 5 = .ok (.aload_n 0, 1) := by decide +kernel
theorem dX3_isAhead_6 : decode cX3_isAhead 6 = .ok (.getfield 25, 3) := by decide +kernel
theorem dX3_isAhead_9 : decode cX3_isAhead 9 = .ok (.arraylength, 1) := by decide +kernel
theorem dX3_isAhead_10 : decode cX3_isAhead 10 = .ok (.if_icmp .ge 12, 3) := by decide +kernel
theorem dX3_isAhead_13 : decode cX3_isAhead 13 = .ok (.iload_n 3, 1) := by decide +kernel
theorem dX3_isAhead_14 : decode cX3_isAhead 14 = .ok (.aload_n 0, 1) := by decide +kernel
theorem dX3_isAhead_15 : decode cX3_isAhead 15 = .ok (.getfield 29, 3) := by decide +kernel
theorem dX3_isAhead_18 : decode cX3_isAhead 18 = .ok (.arraylength, 1) := by decide +kernel
theorem dX3_isAhead_19 : decode cX3_isAhead 19 = .ok (.if_icmp .lt 5, 3) := by decide +kernel
theorem dX3_isAhead_22 : decode cX3_isAhead 22 = .ok (.iconst 0, 1) := by decide +kernel
theorem dX3_isAhead_23 : decode cX3_isAhead 23 = .ok (.ireturn, 1) := by decide +kernel
theorem dX3_isAhead_24 : decode cX3_isAhead 24 = .ok (.iload_n 2, 1) := by decide +kernel
theorem dX3_isAhead_25 : decode cX3_isAhead 25 = .ok (.aload_n 0, 1) := by decide +kernel
theorem dX3_isAhead_26 : decode cX3_isAhead 26 = .ok (.getfield 29, 3) := by decide +kernel
theorem dX3_isAhead_29 : decode cX3_isAhead 29 = .ok (.iload_n 3, 1) := by decide +kernel
theorem dX3_isAhead_30 : decode cX3_isAhead 30 = .ok (.iaload, 1) := by decide +kernel
theorem dX3_isAhead_31 : decode cX3_isAhead 31 = .ok (.if_icmp .eq 21, 3) := by decide +kernel
theorem dX3_isAhead_34 : decode cX3_isAhead 34 = .ok (.iload_n 2, 1) := by decide +kernel
theorem dX3_isAhead_35 : decode cX3_isAhead 35 = .ok (.aload_n 0, 1) := by decide +kernel
theorem dX3_isAhead_36 : decode cX3_isAhead 36 = .ok (.getfield 29, 3) := by decide +kernel
theorem dX3_isAhead_39 : decode cX3_isAhead 39 = .ok (.iload_n 3, 1) := by decide +kernel
theorem dX3_isAhead_40 : decode cX3_isAhead 40 = .ok (.iaload, 1) := by decide +kernel
theorem dX3_isAhead_41 : decode cX3_isAhead 41 = .ok (.if_icmp .ge 7, 3) := by decide +kernel
theorem dX3_isAhead_44 : decode cX3_isAhead 44 = .ok (.iconst 1, 1) := by decide +kernel
theorem dX3_isAhead_45 : decode cX3_isAhead 45 = .ok (.goto 21, 3) := by decide +kernel
theorem dX3_isAhead_48 : decode cX3_isAhead 48 = .ok (.iconst 0, 1) := by decide +kernel
theorem dX3_isAhead_49 : decode cX3_isAhead 49 = .ok (.goto 17, 3) := by decide +kernel
theorem dX3_isAhead_52 : decode cX3_isAhead 52 = .ok (.aload_n 0, 1) := by decide +kernel
theorem dX3_isAhead_53 : decode cX3_isAhead 53 = .ok (.getfield 9, 3) := by decide +kernel
theorem dX3_isAhead_56 : decode cX3_isAhead 56 = .ok (.iload_n 1, 1) := by decide +kernel
theorem dX3_isAhead_57 : decode cX3_isAhead 57 = .ok (.aload_n 0, 1) := by decide +kernel
theorem dX3_isAhead_58 : decode cX3_isAhead 58 = .ok (.getfield 25, 3) := by decide +kernel
theorem dX3_isAhead_61 : decode cX3_isAhead 61 = .ok (.iload_n 3, 1) := by decide +kernel
theorem dX3_isAhead_62 : decode cX3_isAhead 62 = .ok (.iaload, 1) := by decide +kernel
theorem dX3_isAhead_63 : decode cX3_isAhead 63 = .ok (.invokevirtual 47, 3) := by decide +kernel
theorem dX3_isAhead_66 : decode cX3_isAhead 66 = .ok (.ireturn, 1) := by decide +kernel
theorem dX3_copyTo_0 : decode cX3_copyTo 0 = .ok (.iload_n 2, 1) := by decide +kernel
theorem dX3_copyTo_1 : decode cX3_copyTo 1 = .ok (.ifCond .lt 38, 3) := by decide +kernel
theorem dX3_copyTo_4 : decode cX3_copyTo 4 = .ok (.iload_n 2, 1) := by decide +kernel
theorem dX3_copyTo_5 : decode cX3_copyTo 5 = .ok (.aload_n 0, 1) := by decide +kernel
theorem dX3_copyTo_6 : decode cX3_copyTo 6 = .ok (.getfield 25, 3) := by decide +kernel
theorem dX3_copyTo_9 : decode cX3_copyTo 9 = .ok (.arraylength, 1) := by decide +kernel
theorem dX3_copyTo_10 : decode cX3_copyTo 10 = .ok (.if_icmp .ge 29, 3) := by decide +kernel
theorem dX3_copyTo_13 : decode cX3_copyTo 13 = .ok (.iload_n 2, 1) := by decide +kernel
theorem dX3_copyTo_14 : decode cX3_copyTo 14 = .ok (.aload_n 0, 1) := by decide +kernel
theorem dX3_copyTo_15 : decode cX3_copyTo 15 = .ok (.getfield 29, 3) := by decide +kernel
theorem dX3_copyTo_18 : decode cX3_copyTo 18 = .ok (.arraylength, 1) := by decide +kernel
theorem dX3_copyTo_19 : decode cX3_copyTo 19 = .ok (.if_icmp .ge 20, 3) := by decide +kernel
theorem dX3_copyTo_22 : decode cX3_copyTo 22 = .ok (.aload_n 0, 1) := by decide +kernel
theorem dX3_copyTo_23 : decode cX3_copyTo 23 = .ok (.iload_n 1, 1) := by decide +kernel
theorem dX3_copyTo_24 : decode cX3_copyTo 24 = .ok (.aload_n 0, 1) := by decide +kernel
theorem dX3_copyTo_25 : decode cX3_copyTo 25 = .ok (.getfield 25, 3) := by decide +kernel
theorem dX3_copyTo_28 : decode cX3_copyTo 28 = .ok (.iload_n 2, 1) := by decide +kernel
theorem dX3_copyTo_29 : decode cX3_copyTo 29 = .ok (.iaload, 1) := by decide +kernel
theorem dX3_copyTo_30 : decode cX3_copyTo 30 = .ok (.aload_n 0, 1) := by decide +kernel
theorem dX3_copyTo_31 : decode cX3_copyTo 31 = .ok (.getfield 29, 3) := by decide +kernel
theorem dX3_copyTo_34 : decode cX3_copyTo 34 = .ok (.iload_n 2, 1) := by decide +kernel
theorem dX3_copyTo_35 : decode cX3_copyTo 35 = .ok (.iaload, 1) := by decide +kernel
theorem dX3_copyTo_36 : decode cX3_copyTo 36 = .ok (.invokevirtual 43, 3) := by decide +kernel
theorem dX3_copyTo_39 : decode cX3_copyTo 39 = .ok (.return_, 1) := by decide +kernel
theorem dX3_put_0 : decode cX3_put 0 = .ok (.iload_n 1, 1) := by decide +kernel
theorem dX3_put_1 : decode cX3_put 1 = .ok (.ifCond .lt 35, 3) := by decide +kernel
theorem dX3_put_4 : decode cX3_put 4 = .ok (.iload_n 1, 1) := by decide +kernel
theorem dX3_put_5 : decode cX3_put 5 = .ok (.aload_n 0, 1) := by decide +kernel
theorem dX3_put_6 : decode cX3_put 6 = .ok (.getfield 25, 3) := by decide +kernel
theorem dX3_put_9 : decode cX3_put 9 = .ok (.arraylength, 1) := by decide +kernel
theorem dX3_put_10 : decode cX3_put 10 = .ok (.if_icmp .ge 26, 3) := by decide +kernel
theorem dX3_put_13 : decode cX3_put 13 = .ok (.iload_n 1, 1) := by decide +kernel
theorem dX3_put_14 : decode cX3_put 14 = .ok (.aload_n 0, 1) := by decide +kernel
theorem dX3_put_15 : decode cX3_put 15 = .ok (.getfield 29, 3) := by decide +kernel
theorem dX3_put_18 : decode cX3_put 18 = .ok (.arraylength, 1) := by decide +kernel
theorem dX3_put_19 : decode cX3_put 19 = .ok (.if_icmp .ge 17, 3) := by decide +kernel
theorem dX3_put_22 : decode cX3_put 22 = .ok (.aload_n 0, 1) := by decide +kernel
theorem dX3_put_23 : decode cX3_put 23 = .ok (.getfield 25, 3) := by decide +kernel
theorem dX3_put_26 : decode cX3_put 26 = .ok (.iload_n 1, 1) := by decide +kernel
theorem dX3_put_27 : decode cX3_put 27 = .ok (.iload_n 2, 1) := by decide +kernel
theorem dX3_put_28 : decode cX3_put 28 = .ok (.iastore, 1) := by decide +kernel
theorem dX3_put_29 : decode cX3_put 29 = .ok (.aload_n 0, 1) := by decide +kernel
theorem dX3_put_30 : decode cX3_put 30 = .ok (.getfield 29, 3) := by decide +kernel
theorem dX3_put_33 : decode cX3_put 33 = .ok (.iload_n 1, 1) := by decide +kernel
theorem dX3_put_34 : decode cX3_put 34 = .ok (.iload_n 3, 1) := by decide +kernel
theorem dX3_put_35 : decode cX3_put 35 = .ok (.iastore, 1) := by decide +kernel
theorem dX3_put_36 : decode cX3_put 36 = .ok (.return_, 1) := by decide +kernel
theorem dX4_init_0 : decode cX4_init 0 = .ok (.aload_n 0, 1) := by decide +kernel
theorem dX4_init_1 : decode cX4_init 1 = .ok (.invokespecial 3, 3) := by decide +kernel
theorem dX4_init_4 : decode cX4_init 4 = .ok (.aload_n 0, 1) := by decide +kernel
theorem dX4_init_5 : decode cX4_init 5 = .ok (.aload_n 1, 1) := by decide +kernel
theorem dX4_init_6 : decode cX4_init 6 = .ok (.putfield 9, 3) := by decide +kernel
theorem dX4_init_9 : decode cX4_init 9 = .ok (.aload_n 0, 1) := by decide +kernel
theorem dX4_init_10 : decode cX4_init 10 = .ok (.aload_n 2, 1) := by decide +kernel
theorem dX4_init_11 : decode cX4_init 11 = .ok (.putfield 15, 3) := by decide +kernel
theorem dX4_init_14 : decode cX4_init 14 = .ok (.aload_n 0, 1) := by decide +kernel
theorem dX4_init_15 : decode cX4_init 15 = .ok (.aload_n 3, 1) := by decide +kernel
theorem dX4_init_16 : decode cX4_init 16 = .ok (.putfield 19, 3) := by decide +kernel
theorem dX4_init_19 : decode cX4_init 19 = .ok (.aload_n 0, 1) := by decide +kernel
theorem dX4_init_20 : decode cX4_init 20 = .ok (.aload 4, 2) := by decide +kernel
theorem dX4_init_22 : decode cX4_init 22 = .ok (.putfield 23, 3) := by decide +kernel
theorem dX4_init_25 : decode cX4_init 25 = .ok (.aload_n 0, 1) := by decide +kernel
theorem dX4_init_26 : decode cX4_init 26 = .ok (.new 27, 3) := by decide +kernel
theorem dX4_init_29 : decode cX4_init 29 = .ok (.dup, 1) := by decide +kernel
theorem dX4_init_30 : decode cX4_init 30 = .ok (.bipush 8, 2) := by decide +kernel
theorem dX4_init_32 : decode cX4_init 32 = .ok (.invokespecial 29, 3) := by decide +kernel
theorem dX4_init_35 : decode cX4_init 35 = .ok (.putfield 32, 3) := by decide +kernel
theorem dX4_init_38 : decode cX4_init 38 = .ok (.aload_n 0, 1) := by decide +kernel
theorem dX4_init_39 : decode cX4_init 39 = .ok (.bipush 8, 2) := by decide +kernel
theorem dX4_init_41 : decode cX4_init 41 = .ok (.newarray .int, 2) := by decide +kernel
theorem dX4_init_43 : decode cX4_init 43 = .ok (.putfield 36, 3) := by decide +kernel
theorem dX4_init_46 : decode cX4_init 46 = .ok (.aload_n 0, 1) := by decide +kernel
theorem dX4_init_47 : decode cX4_init 47 = .ok (.bipush 8, 2) := by decide +kernel
theorem dX4_init_49 : decode cX4_init 49 = .ok (.newarray .int, 2) := by decide +kernel
theorem dX4_init_51 : decode cX4_init 51 = .ok (.putfield 40, 3) := by decide +kernel
theorem dX4_init_54 : decode cX4_init 54 = .ok (.aload_n 0, 1) := by decide +kernel
theorem dX4_init_55 : decode cX4_init 55 = .ok (.bipush 8, 2) := by decide +kernel
theorem dX4_init_57 : decode cX4_init 57 = .ok (.newarray .int, 2) := by decide +kernel
theorem dX4_init_59 : decode cX4_init 59 = .ok (.putfield 43, 3) := by decide +kernel
theorem dX4_init_62 : decode cX4_init 62 = .ok (.return_, 1) := by decide +kernel
theorem dX4_merge_0 : decode cX4_merge 0 = .ok (.aload_n 0, 1) := by decide +kernel
theorem dX4_merge_1 : decode cX4_merge 1 = .ok (.getfield 23, 3) := by decide +kernel
theorem dX4_merge_4 : decode cX4_merge 4 = .ok (.iload_n 1, 1) := by decide +kernel
theorem dX4_merge_5 : decode cX4_merge 5 = .ok (.invokevirtual 46, 3) := by decide +kernel
theorem dX4_merge_8 : decode cX4_merge 8 = .ok (.iconst 1, 1) := by decide +kernel
theorem dX4_merge_9 : decode cX4_merge 9 = .ok (.istore_n 2, 1) := by decide +kernel
theorem dX4_merge_10 : decode cX4_merge 10 = .ok (.aload_n 0, 1) := by decide +kernel
theorem dX4_merge_11 : decode cX4_merge 11 = .ok (.invokevirtual 51, 3) := by decide +kernel
theorem dX4_merge_14 : decode cX4_merge 14 = .ok (.istore_n 3, 1) := by decide +kernel
theorem dX4_merge_15 : decode cX4_merge 15 = .ok (.iload_n 3, 1) := by decide +kernel
theorem dX4_merge_16 : decode cX4_merge 16 = .ok (.ifCond .le 67, 3) := by decide +kernel
theorem dX4_merge_19 : decode cX4_merge 19 = .ok (.iload_n 2, 1) := by decide +kernel
theorem dX4_merge_20 : decode cX4_merge 20 = .ok (.ifCond .eq 63, 3) := by decide +kernel
theorem dX4_merge_23 : decode cX4_merge 23 = .ok (.aload_n 0, 1) := by decide +kernel
theorem dX4_merge_24 : decode cX4_merge 24 = .ok (.invokevirtual 55, 3) := by decide +kernel
theorem dX4_merge_27 : decode cX4_merge 27 = .ok (.istore 4, 2) := by decide +kernel
theorem dX4_merge_29 : decode cX4_merge 29 = .ok (.iload 4, 2) := by decide +kernel
theorem dX4_merge_31 : decode cX4_merge 31 = .ok (.ifCond .lt 34, 3) := by decide +kernel
theorem dX4_merge_34 : decode cX4_merge 34 = .ok (.iload 4, 2) := by decide +kernel
theorem dX4_merge_36 : decode cX4_merge 36 = .ok (.aload_n 0, 1) := by decide +kernel
theorem dX4_merge_37 : decode cX4_merge 37 = .ok (.getfield 43, 3) := by decide +kernel
theorem dX4_merge_40 : decode cX4_merge 40 = .ok (.arraylength, 1) := by decide +kernel
theorem dX4_merge_41 : decode cX4_merge 41 = .ok (.if_icmp .ge 24, 3) := by decide +kernel
theorem dX4_merge_44 : decode cX4_merge 44 = .ok (.aload_n 0, 1) := by decide +kernel
theorem dX4_merge_45 : decode cX4_merge 45 = .ok (.getfield 23, 3) := by decide +kernel
theorem dX4_merge_48 : decode cX4_merge 48 = .ok (.aload_n 0, 1) := by decide +kernel
theorem dX4_merge_49 : decode cX4_merge 49 = .ok (.getfield 43, 3) := by decide +kernel
theorem dX4_merge_52 : decode cX4_merge 52 = .ok (.iload 4, 2) := by decide +kernel
theorem dX4_merge_54 : decode cX4_merge 54 = .ok (.iaload, 1) := by decide +kernel
theorem dX4_merge_55 : decode cX4_merge 55 = .ok (.invokevirtual 58, 3) := by decide +kernel
theorem dX4_merge_58 : decode cX4_merge 58 = .ok (.ifCond .eq 7, 3) := by decide +kernel
theorem dX4_merge_61 : decode cX4_merge 61 = .ok (.iconst 1, 1) := by decide +kernel
theorem dX4_merge_62 : decode cX4_merge 62 = .ok (.goto 4, 3) := by decide +kernel
theorem dX4_merge_65 : decode cX4_merge 65 = .ok (.iconst 0, 1) := by decide +kernel
theorem dX4_merge_66 : decode cX4_merge 66 = .ok (.istore_n 2, 1) := by decide +kernel
theorem dX4_merge_67 : decode cX4_merge 67 = .ok (.iload_n 2, 1) := by decide +kernel
theorem dX4_merge_68 : decode cX4_merge 68 = .ok (.ifCond .eq 9, 3) := by decide +kernel
theorem dX4_merge_71 : decode cX4_merge 71 = .ok (.aload_n 0, 1) := by decide +kernel
theorem dX4_merge_72 : decode cX4_merge 72 = .ok (.iload 4, 2) := by decide +kernel
theorem dX4_merge_74 : decode cX4_merge 74 = .ok (.invokevirtual 62, 3) := by decide +kernel
theorem dX4_merge_77 : decode cX4_merge 77 = .ok (.iinc 3 (-1), 3) := by decide +kernel
theorem dX4_merge_80 : decode cX4_merge 80 = .ok (.goto (-65), 3) := by decide +kernel
theorem dX4_merge_83 : decode cX4_merge 83 = .ok (.iload_n 2, 1) := by decide +kernel
theorem dX4_merge_84 : decode cX4_merge 84 = .ok (.ifCond .eq 13, 3) := by decide +kernel
theorem dX4_merge_87 : decode cX4_merge 87 = .ok (.aload_n 0, 1) := by decide +kernel
theorem dX4_merge_88 : decode cX4_merge 88 = .ok (.getfield 23, 3) := by decide +kernel
theorem dX4_merge_91 : decode cX4_merge 91 = .ok (.invokevirtual 65, 3) := by decide +kernel
theorem dX4_merge_94 : decode cX4_merge 94 = .ok (.ifCond .ne 12, 3) := by decide +kernel
theorem dX4_merge_97 : decode cX4_merge 97 = .ok (.aload_n 0, 1) := by decide +kernel
theorem dX4_merge_98 : decode cX4_merge 98 = .ok (.getfield 23, 3) := by decide +kernel
theorem dX4_merge_101 : decode cX4_merge 101 = .ok (.invokevirtual 69, 3) := by decide +kernel
theorem dX4_merge_104 : decode cX4_merge 104 = .ok (.iconst (-1), 1) := by decide +kernel
theorem dX4_merge_105 : decode cX4_merge 105 = .ok (.ireturn, 1) := by decide +kernel
theorem dX4_merge_106 : decode cX4_merge 106 = .ok (.iconst 0, 1) := by decide +kernel
theorem dX4_merge_107 : decode cX4_merge 107 = .ok (.istore_n 3, 1) := by decide +kernel
theorem dX4_merge_108 : decode cX4_merge 108 = .ok (.iload_n 3, 1) := by decide +kernel
theorem dX4_merge_109 : decode cX4_merge 109 = .ok (.aload_n 0, 1) := by decide +kernel
theorem dX4_merge_110 : decode cX4_merge 110 = .ok (.getfield 32, 3) := by decide +kernel
theorem dX4_merge_113 : decode cX4_merge 113 = .ok (.invokevirtual 72, 3) := by decide +kernel
theorem dX4_merge_116 : decode cX4_merge 116 = .ok (.if_icmp .ge 24, 3) := by decide +kernel
theorem dX4_merge_119 : decode cX4_merge 119 = .ok (.aload_n 0, 1) := by decide +kernel
theorem dX4_merge_120 : decode cX4_merge 120 = .ok (.getfield 19, 3) := by decide +kernel
theorem dX4_merge_123 : decode cX4_merge 123 = .ok (.aload_n 0, 1) := by decide +kernel
theorem dX4_merge_124 : decode cX4_merge 124 = .ok (.getfield 32, 3) := by decide +kernel
theorem dX4_merge_127 : decode cX4_merge 127 = .ok (.iload_n 3, 1) := by decide +kernel
theorem dX4_merge_128 : decode cX4_merge 128 = .ok (.invokevirtual 75, 3) := by decide +kernel
theorem dX4_merge_131 : decode cX4_merge 131 = .ok (.invokevirtual 79, 3) := by decide +kernel
theorem dX4_merge_134 : decode cX4_merge 134 = .ok (.iinc 3 1, 3) := by decide +kernel
theorem dX4_merge_137 : decode cX4_merge 137 = .ok (.goto (-29), 3) := by decide +kernel
theorem dX4_merge_140 : decode cX4_merge 140 = .ok (.aload_n 0, 1) := by decide +kernel
theorem dX4_merge_141 : decode cX4_merge 141 = .ok (.getfield 23, 3) := by decide +kernel
theorem dX4_merge_144 : decode cX4_merge 144 = .ok (.getfield 84, 3) := by decide +kernel
theorem dX4_merge_147 : decode cX4_merge 147 = .ok (.iconst 0, 1) := by decide +kernel
theorem dX4_merge_148 : decode cX4_merge 148 = .ok (.invokevirtual 75, 3) := by decide +kernel
theorem dX4_merge_151 : decode cX4_merge 151 = .ok (.ireturn, 1) := by decide +kernel
theorem dX4_start_0 : decode cX4_start 0 = .ok (.iconst 0, 1) := by decide +kernel
theorem dX4_start_1 : decode cX4_start 1 = .ok (.istore_n 1, 1) := by decide +kernel
theorem dX4_start_2 : decode cX4_start 2 = .ok (.iconst 0, 1) := by decide +kernel
theorem dX4_start_3 : decode cX4_start 3 = .ok (.istore_n 2, 1) := by decide +kernel
theorem dX4_start_4 : decode cX4_start 4 = .ok (.iload_n 2, 1) := by decide +kernel
theorem dX4_start_5 : decode cX4_start 5 = .ok (.aload_n 0, 1) := by decide +kernel
theorem dX4_start_6 : decode cX4_start 6 = .ok (.getfield 32, 3) := by decide +kernel
theorem dX4_start_9 : decode cX4_start 9 = .ok (.invokevirtual 72, 3) := by decide +kernel
theorem dX4_start_12 : decode cX4_start 12 = .ok (.if_icmp .ge 72, 3) := by decide +kernel
theorem dX4_start_15 : decode cX4_start 15 = .ok (.iload_n 2, 1) := by decide +kernel
theorem dX4_start_16 : decode cX4_start 16 = .ok (.bipush 8, 2) := by decide +kernel
theorem dX4_start_18 : decode cX4_start 18 = .ok (.if_icmp .ge 66, 3) := by decide +kernel
theorem dX4_start_21 : decode cX4_start 21 = .ok (.aload_n 0, 1) := by decide +kernel
theorem dX4_start_22 : decode cX4_start 22 = .ok (.getfield 32, 3) := by decide +kernel
theorem dX4_start_25 : decode cX4_start 25 = .ok (.iload_n 2, 1) := by decide +kernel
theorem dX4_start_26 : decode cX4_start 26 = .ok (.invokevirtual 75, 3) := by decide +kernel
theorem dX4_start_29 : decode cX4_start 29 = .ok (.istore_n 3, 1) := by decide +kernel
theorem dX4_start_30 : decode cX4_start 30 = .ok (.aload_n 0, 1) := by decide +kernel
theorem dX4_start_31 : decode cX4_start 31 = .ok (.getfield 9, 3) := by decide +kernel
theorem dX4_start_34 : decode cX4_start 34 = .ok (.iload_n 3, 1) := by decide +kernel
theorem dX4_start_35 : decode cX4_start 35 = .ok (.invokevirtual 87, 3) := by decide +kernel
theorem dX4_start_38 : decode cX4_start 38 = .ok (.aload_n 0, 1) := by decide +kernel
theorem dX4_start_39 : decode cX4_start 39 = .ok (.getfield 36, 3) := by decide +kernel
theorem dX4_start_42 : decode cX4_start 42 = .ok (.iload_n 2, 1) := by decide +kernel
theorem dX4_start_43 : decode cX4_start 43 = .ok (.iload_n 3, 1) := by decide +kernel
theorem dX4_start_44 : decode cX4_start 44 = .ok (.iastore, 1) := by decide +kernel
theorem dX4_start_45 : decode cX4_start 45 = .ok (.aload_n 0, 1) := by decide +kernel
theorem dX4_start_46 : decode cX4_start 46 = .ok (.getfield 40, 3) := by decide +kernel
theorem dX4_start_49 : decode cX4_start 49 = .ok (.iload_n 2, 1) := by decide +kernel
theorem dX4_start_50 : decode cX4_start 50 = .ok (.iconst 0, 1) := by decide +kernel
theorem dX4_start_51 : decode cX4_start 51 = .ok (.iastore, 1) := by decide +kernel
theorem dX4_start_52 : decode cX4_start 52 = .ok (.aload_n 0, 1) := by decide +kernel
theorem dX4_start_53 : decode cX4_start 53 = .ok (.getfield 43, 3) := by decide +kernel
theorem dX4_start_56 : decode cX4_start 56 = .ok (.iload_n 2, 1) := by decide +kernel
theorem dX4_start_57 : decode cX4_start 57 = .ok (.iload_n 3, 1) := by decide +kernel
theorem dX4_start_58 : decode cX4_start 58 = .ok (.aload_n 0, 1) := by decide +kernel
theorem dX4_start_59 : decode cX4_start 59 = .ok (.getfield 9, 3) := by decide +kernel
theorem dX4_start_62 : decode cX4_start 62 = .ok (.getfield 92, 3) := by decide +kernel
theorem dX4_start_65 : decode cX4_start 65 = .ok (.imul, 1) := by decide +kernel
theorem dX4_start_66 : decode cX4_start 66 = .ok (.iastore, 1) := by decide +kernel
theorem dX4_start_67 : decode cX4_start 67 = .ok (.iload_n 1, 1) := by decide +kernel
theorem dX4_start_68 : decode cX4_start 68 = .ok (.aload_n 0, 1) := by decide +kernel
theorem dX4_start_69 : decode cX4_start 69 = .ok (.getfield 19, 3) := by decide +kernel
theorem dX4_start_72 : decode cX4_start 72 = .ok (.iload_n 3, 1) := by decide +kernel
theorem dX4_start_73 : decode cX4_start 73 = .ok (.invokevirtual 95, 3) := by decide +kernel
theorem dX4_start_76 : decode cX4_start 76 = .ok (.iadd, 1) := by decide +kernel
theorem dX4_start_77 : decode cX4_start 77 = .ok (.istore_n 1, 1) := by decide +kernel
theorem dX4_start_78 : decode cX4_start 78 = .ok (.iinc 2 1, 3) := by decide +kernel
theorem dX4_start_81 : decode cX4_start 81 = .ok (.goto (-77), 3) := by decide +kernel
theorem dX4_start_84 : decode cX4_start 84 = .ok (.iload_n 1, 1) := by decide +kernel
theorem dX4_start_85 : decode cX4_start 85 = .ok (.ireturn, 1) := by decide +kernel
theorem dX4_firstAtHand_0 : decode cX4_firstAtHand 0 = .ok (.iconst (-1), 1) := by decide +kernel
theorem dX4_firstAtHand_1 : decode cX4_firstAtHand 1 = .ok (.istore_n 1, 1) := by decide +kernel
theorem dX4_firstAtHand_2 : decode cX4_firstAtHand 2 = .ok (.iconst 0, 1) := by decide +kernel
theorem dX4_firstAtHand_3 : decode cX4_firstAtHand 3 = .ok (.istore_n 2, 1) := by decide +kernel
theorem dX4_firstAtHand_4 : decode cX4_firstAtHand 4 = .ok (.iload_n 2, 1) := by decide +kernel
theorem dX4_firstAtHand_5 : decode cX4_firstAtHand 5 = .ok (.aload_n 0, 1) := by decide +kernel
theorem dX4_firstAtHand_6 : decode cX4_firstAtHand 6 = .ok (.getfield 32, 3) := by decide +kernel
theorem dX4_firstAtHand_9 : decode cX4_firstAtHand 9 = .ok (.invokevirtual 72, 3) := by decide +kernel
theorem dX4_firstAtHand_12 : decode cX4_firstAtHand 12 = .ok (.if_icmp .ge 54, 3) := by decide +kernel
theorem dX4_firstAtHand_15 : decode cX4_firstAtHand 15 = .ok (.iload_n 2, 1) := by decide +kernel
theorem dX4_firstAtHand_16 : decode cX4_firstAtHand 16 = .ok (.bipush 8, 2) := by decide +kernel
theorem dX4_firstAtHand_18 : decode cX4_firstAtHand 18 = .ok (.if_icmp .ge 48, 3) := by decide +kernel
theorem dX4_firstAtHand_21 : decode cX4_firstAtHand 21 = .ok (.aload_n 0, 1) := by decide +kernel
theorem dX4_firstAtHand_22 : decode cX4_firstAtHand 22 = .ok (.getfield 43, 3) := by decide +kernel
theorem dX4_firstAtHand_25 : decode cX4_firstAtHand 25 = .ok (.iload_n 2, 1) := by decide +kernel
theorem dX4_firstAtHand_26 : decode cX4_firstAtHand 26 = .ok (.iaload, 1) := by decide +kernel
theorem dX4_firstAtHand_27 : decode cX4_firstAtHand 27 = .ok (.iconst (-1), 1) := by decide +kernel
theorem dX4_firstAtHand_28 : decode cX4_firstAtHand 28 = .ok (.if_icmp .eq 32, 3) := by decide +kernel
theorem dX4_firstAtHand_31 : decode cX4_firstAtHand 31 = .ok (.iload_n 1, 1) := by decide +kernel
theorem dX4_firstAtHand_32 : decode cX4_firstAtHand 32 = .ok (.iconst (-1), 1) := by decide +kernel
theorem dX4_firstAtHand_33 : decode cX4_firstAtHand 33 = .ok (.if_icmp .eq 25, 3) := by decide +kernel
theorem dX4_firstAtHand_36 : decode cX4_firstAtHand 36 = .ok (.aload_n 0, 1) := by decide +kernel
theorem dX4_firstAtHand_37 : decode cX4_firstAtHand 37 = .ok (.getfield 15, 3) := by decide +kernel
theorem dX4_firstAtHand_40 : decode cX4_firstAtHand 40 = .ok (.aload_n 0, 1) := by decide +kernel
theorem dX4_firstAtHand_41 : decode cX4_firstAtHand 41 = .ok (.getfield 43, 3) := by decide +kernel
theorem dX4_firstAtHand_44 : decode cX4_firstAtHand 44 = .ok (.iload_n 2, 1) := by decide +kernel
theorem dX4_firstAtHand_45 : decode cX4_firstAtHand 45 = .ok (.iaload, 1) := by decide +kernel
theorem dX4_firstAtHand_46 : decode cX4_firstAtHand 46 = .ok (.aload_n 0, 1) := by decide +kernel
theorem dX4_firstAtHand_47 : decode cX4_firstAtHand 47 = .ok (.getfield 43, 3) := by decide +kernel
theorem dX4_firstAtHand_50 : decode cX4_firstAtHand 50 = .ok (.iload_n 1, 1) := by decide +kernel
theorem dX4_firstAtHand_51 : decode cX4_firstAtHand 51 = .ok (.iaload, 1) := by decide +kernel
theorem dX4_firstAtHand_52 : decode cX4_firstAtHand 52 = .ok (.invokevirtual 98, 3) := by decide +kernel
theorem dX4_firstAtHand_55 : decode cX4_firstAtHand 55 = .ok (.ifCond .eq 5, 3) := by decide +kernel
theorem dX4_firstAtHand_58 : decode cX4_firstAtHand 58 = .ok (.iload_n 2, 1) := by decide +kernel
theorem dX4_firstAtHand_59 : decode cX4_firstAtHand 59 = .ok (.istore_n 1, 1) := by decide +kernel
theorem dX4_firstAtHand_60 : decode cX4_firstAtHand 60 = .ok (.iinc 2 1, 3) := by decide +kernel
theorem dX4_firstAtHand_63 : decode cX4_firstAtHand 63 = .ok (.goto (-59), 3) := by decide +kernel
theorem dX4_firstAtHand_66 : decode cX4_firstAtHand 66 = .ok (.iload_n 1, 1) := by decide +kernel
theorem dX4_firstAtHand_67 : decode cX4_firstAtHand 67 = .ok (.ireturn, 1) := by decide +kernel
theorem dX4_advance_0 : decode cX4_advance 0 = .ok (.iload_n 1, 1) := by decide +kernel
theorem dX4_advance_1 : decode cX4_advance 1 = .ok (.ifCond .lt 9, 3) := by decide +kernel
theorem dX4_advance_4 : decode cX4_advance 4 = .ok (.iload_n 1, 1) := by decide +kernel
theorem dX4_advance_5 : decode cX4_advance 5 = .ok (.bipush 8, 2) := by decide +kernel
theorem dX4_advance_7 : decode cX4_advance 7 = .ok (.if_icmp .lt 4, 3) := by decide +kernel
theorem dX4_advance_10 : decode cX4_advance 10 = .ok (.return_, 1) := by decide +kernel
theorem dX4_advance_11 : decode cX4_advance 11 = .ok (.aload_n 0, 1) := by decide +kernel
theorem dX4_advance_12 : decode cX4_advance 12 = .ok (.getfield 40, 3) := by decide +kernel
theorem dX4_advance_15 : decode cX4_advance 15 = .ok (.iload_n 1, 1) := by decide +kernel
theorem dX4_advance_16 : decode cX4_advance 16 = .ok (.dup2, 1) := by decide +kernel
theorem dX4_advance_17 : decode cX4_advance 17 = .ok (.iaload, 1) := by decide +kernel
theorem dX4_advance_18 : decode cX4_advance 18 = .ok (.iconst 1, 1) := by decide +kernel
theorem dX4_advance_19 : decode cX4_advance 19 = .ok (.iadd, 1) := by decide +kernel
theorem dX4_advance_20 : decode cX4_advance 20 = .ok (.iastore, 1) := by decide +kernel
theorem dX4_advance_21 : decode cX4_advance 21 = .ok (.aload_n 0, 1) := by decide +kernel
theorem dX4_advance_22 : decode cX4_advance 22 = .ok (.getfield 40, 3) := by decide +kernel
theorem dX4_advance_25 : decode cX4_advance 25 = .ok (.iload_n 1, 1) := by decide +kernel
theorem dX4_advance_26 : decode cX4_advance 26 = .ok (.iaload, 1) := by decide +kernel
theorem dX4_advance_27 : decode cX4_advance 27 = .ok (.aload_n 0, 1) := by decide +kernel
theorem dX4_advance_28 : decode cX4_advance 28 = .ok (.getfield 19, 3) := by decide +kernel
theorem dX4_advance_31 : decode cX4_advance 31 = .ok (.aload_n 0, 1) := by decide +kernel
theorem dX4_advance_32 : decode cX4_advance 32 = .ok (.getfield 32, 3) := by decide +kernel
theorem dX4_advance_35 : decode cX4_advance 35 = .ok (.iload_n 1, 1) := by decide +kernel
theorem dX4_advance_36 : decode cX4_advance 36 = .ok (.invokevirtual 75, 3) := by decide +kernel
theorem dX4_advance_39 : decode cX4_advance 39 = .ok (.invokevirtual 95, 3) := by decide +kernel
theorem dX4_advance_42 : decode cX4_advance 42 = .ok (.if_icmp .lt 13, 3) := by decide +kernel
theorem dX4_advance_45 : decode cX4_advance 45 = .ok (.aload_n 0, 1) := by decide +kernel
theorem dX4_advance_46 : decode cX4_advance 46 = .ok (.getfield 43, 3) := by decide +kernel
theorem dX4_advance_49 : decode cX4_advance 49 = .ok (.iload_n 1, 1) := by decide +kernel
theorem dX4_advance_50 : decode cX4_advance 50 = .ok (.iconst (-1), 1) := by decide +kernel
theorem dX4_advance_51 : decode cX4_advance 51 = .ok (.iastore, 1) := by decide +kernel
theorem dX4_advance_52 : decode cX4_advance 52 = .ok (.goto 95, 3) := by decide +kernel
theorem dX4_advance_55 : decode cX4_advance 55 = .ok (.aload_n 0, 1) := by decide +kernel
theorem dX4_advance_56 : decode cX4_advance 56 = .ok (.getfield 40, 3) := by decide +kernel
theorem dX4_advance_59 : decode cX4_advance 59 = .ok (.iload_n 1, 1) := by decide +kernel
theorem dX4_advance_60 : decode cX4_advance 60 = .ok (.iaload, 1) := by decide +kernel
theorem dX4_advance_61 : decode cX4_advance 61 = .ok (.iconst 1, 1) := by decide +kernel
theorem dX4_advance_62 : decode cX4_advance 62 = .ok (.aload_n 0, 1) := by decide +kernel
theorem dX4_advance_63 : decode cX4_advance 63 = .ok (.getfield 15, 3) := by decide +kernel
theorem dX4_advance_66 : decode cX4_advance 66 = .ok (.getfield 104, 3) := by decide +kernel
theorem dX4_advance_69 : decode cX4_advance 69 = .ok (.invokestatic 107, 3) := by decide +kernel
theorem dX4_advance_72 : decode cX4_advance 72 = .ok (.irem, 1) := by decide +kernel
theorem dX4_advance_73 : decode cX4_advance 73 = .ok (.ifCond .ne 58, 3) := by decide +kernel
theorem dX4_advance_76 : decode cX4_advance 76 = .ok (.aload_n 0, 1) := by decide +kernel
theorem dX4_advance_77 : decode cX4_advance 77 = .ok (.getfield 36, 3) := by decide +kernel
theorem dX4_advance_80 : decode cX4_advance 80 = .ok (.iload_n 1, 1) := by decide +kernel
theorem dX4_advance_81 : decode cX4_advance 81 = .ok (.aload_n 0, 1) := by decide +kernel
theorem dX4_advance_82 : decode cX4_advance 82 = .ok (.getfield 19, 3) := by decide +kernel
theorem dX4_advance_85 : decode cX4_advance 85 = .ok (.aload_n 0, 1) := by decide +kernel
theorem dX4_advance_86 : decode cX4_advance 86 = .ok (.getfield 36, 3) := by decide +kernel
theorem dX4_advance_89 : decode cX4_advance 89 = .ok (.iload_n 1, 1) := by decide +kernel
theorem dX4_advance_90 : decode cX4_advance 90 = .ok (.iaload, 1) := by decide +kernel
theorem dX4_advance_91 : decode cX4_advance 91 = .ok (.invokevirtual 113, 3) := by decide +kernel
theorem dX4_advance_94 : decode cX4_advance 94 = .ok (.iastore, 1) := by decide +kernel
theorem dX4_advance_95 : decode cX4_advance 95 = .ok (.aload_n 0, 1) := by decide +kernel
theorem dX4_advance_96 : decode cX4_advance 96 = .ok (.getfield 9, 3) := by decide +kernel
theorem dX4_advance_99 : decode cX4_advance 99 = .ok (.aload_n 0, 1) := by decide +kernel
theorem dX4_advance_100 : decode cX4_advance 100 = .ok (.getfield 36, 3) := by decide +kernel
theorem dX4_advance_103 : decode cX4_advance 103 = .ok (.iload_n 1, 1) := by decide +kernel
theorem dX4_advance_104 : decode cX4_advance 104 = .ok (.iaload, 1) := by decide +kernel
theorem dX4_advance_105 : decode cX4_advance 105 = .ok (.invokevirtual 87, 3) := by decide +kernel
theorem dX4_advance_108 : decode cX4_advance 108 = .ok (.aload_n 0, 1) := by decide +kernel
theorem dX4_advance_109 : decode cX4_advance 109 = .ok (.getfield 43, 3) := by decide +kernel
theorem dX4_advance_112 : decode cX4_advance 112 = .ok (.iload_n 1, 1) := by decide +kernel
theorem dX4_advance_113 : decode cX4_advance 113 = .ok (.aload_n 0, 1) := by decide +kernel
theorem dX4_advance_114 : decode cX4_advance 114 = .ok (.getfield 36, 3) := by decide +kernel
theorem dX4_advance_117 : decode cX4_advance 117 = .ok (.iload_n 1, 1) := by decide +kernel
theorem dX4_advance_118 : decode cX4_advance 118 = .ok (.iaload, 1) := by decide +kernel
theorem dX4_advance_119 : decode cX4_advance 119 = .ok (.aload_n 0, 1) := by decide +kernel
theorem dX4_advance_120 : decode cX4_advance 120 = .ok (.getfield 9, 3) := by decide +kernel
theorem dX4_advance_123 : decode cX4_advance 123 = .ok (.getfield 92, 3) := by decide +kernel
theorem dX4_advance_126 : decode cX4_advance 126 = .ok (.imul, 1) := by decide +kernel
theorem dX4_advance_127 : decode cX4_advance 127 = .ok (.iastore, 1) := by decide +kernel
theorem dX4_advance_128 : decode cX4_advance 128 = .ok (.goto 19, 3) := by decide +kernel
theorem dX4_advance_131 : decode cX4_advance 131 = .ok (.aload_n 0, 1) := by decide +kernel
theorem dX4_advance_132 : decode cX4_advance 132 = .ok (.getfield 43, 3) := by decide +kernel
theorem dX4_advance_135 : decode cX4_advance 135 = .ok (.iload_n 1, 1) := by decide +kernel
theorem dX4_advance_136 : decode cX4_advance 136 = .ok (.dup2, 1) := by decide +kernel
theorem dX4_advance_137 : decode cX4_advance 137 = .ok (.iaload, 1) := by decide +kernel
theorem dX4_advance_138 : decode cX4_advance 138 = .ok (.aload_n 0, 1) := by decide +kernel
theorem dX4_advance_139 : decode cX4_advance 139 = .ok (.getfield 15, 3) := by decide +kernel
theorem dX4_advance_142 : decode cX4_advance 142 = .ok (.getfield 116, 3) := by decide +kernel
theorem dX4_advance_145 : decode cX4_advance 145 = .ok (.iadd, 1) := by decide +kernel
theorem dX4_advance_146 : decode cX4_advance 146 = .ok (.iastore, 1) := by decide +kernel
theorem dX4_advance_147 : decode cX4_advance 147 = .ok (.return_, 1) := by decide +kernel
theorem dX5_init_0 : decode cX5_init 0 = .ok (.aload_n 0, 1) := by decide +kernel
theorem dX5_init_1 : decode cX5_init 1 = .ok (.invokespecial 3, 3) := by decide +kernel
theorem dX5_init_4 : decode cX5_init 4 = .ok (.aload_n 0, 1) := by decide +kernel
theorem dX5_init_5 : decode cX5_init 5 = .ok (.aload_n 1, 1) := by decide +kernel
theorem dX5_init_6 : decode cX5_init 6 = .ok (.putfield 9, 3) := by decide +kernel
theorem dX5_init_9 : decode cX5_init 9 = .ok (.aload_n 0, 1) := by decide +kernel
theorem dX5_init_10 : decode cX5_init 10 = .ok (.iconst 4, 1) := by decide +kernel
theorem dX5_init_11 : decode cX5_init 11 = .ok (.newarray .int, 2) := by decide +kernel
theorem dX5_init_13 : decode cX5_init 13 = .ok (.putfield 15, 3) := by decide +kernel
theorem dX5_init_16 : decode cX5_init 16 = .ok (.aload_n 0, 1) := by decide +kernel
theorem dX5_init_17 : decode cX5_init 17 = .ok (.iconst 4, 1) := by decide +kernel
theorem dX5_init_18 : decode cX5_init 18 = .ok (.newarray .boolean, 2) := by decide +kernel
theorem dX5_init_20 : decode cX5_init 20 = .ok (.putfield 19, 3) := by decide +kernel
theorem dX5_init_23 : decode cX5_init 23 = .ok (.aload_n 0, 1) := by decide +kernel
theorem dX5_init_24 : decode cX5_init 24 = .ok (.iconst 1, 1) := by decide +kernel
theorem dX5_init_25 : decode cX5_init 25 = .ok (.putfield 23, 3) := by decide +kernel
theorem dX5_init_28 : decode cX5_init 28 = .ok (.aload_n 0, 1) := by decide +kernel
theorem dX5_init_29 : decode cX5_init 29 = .ok (.iconst 2, 1) := by decide +kernel
theorem dX5_init_30 : decode cX5_init 30 = .ok (.putfield 27, 3) := by decide +kernel
theorem dX5_init_33 : decode cX5_init 33 = .ok (.aload_n 0, 1) := by decide +kernel
theorem dX5_init_34 : decode cX5_init 34 = .ok (.iconst 1, 1) := by decide +kernel
theorem dX5_init_35 : decode cX5_init 35 = .ok (.aload_n 1, 1) := by decide +kernel
theorem dX5_init_36 : decode cX5_init 36 = .ok (.getfield 30, 3) := by decide +kernel
theorem dX5_init_39 : decode cX5_init 39 = .ok (.iconst 2, 1) := by decide +kernel
theorem dX5_init_40 : decode cX5_init 40 = .ok (.idiv, 1) := by decide +kernel
theorem dX5_init_41 : decode cX5_init 41 = .ok (.invokestatic 35, 3) := by decide +kernel
theorem dX5_init_44 : decode cX5_init 44 = .ok (.putfield 41, 3) := by decide +kernel
theorem dX5_init_47 : decode cX5_init 47 = .ok (.return_, 1) := by decide +kernel
theorem dX5_restart_0 : decode cX5_restart 0 = .ok (.aload_n 0, 1) := by decide +kernel
theorem dX5_restart_1 : decode cX5_restart 1 = .ok (.iload_n 1, 1) := by decide +kernel
theorem dX5_restart_2 : decode cX5_restart 2 = .ok (.iconst 1, 1) := by decide +kernel
theorem dX5_restart_3 : decode cX5_restart 3 = .ok (.iconst 4, 1) := by decide +kernel
theorem dX5_restart_4 : decode cX5_restart 4 = .ok (.invokestatic 44, 3) := by decide +kernel
theorem dX5_restart_7 : decode cX5_restart 7 = .ok (.putfield 23, 3) := by decide +kernel
theorem dX5_restart_10 : decode cX5_restart 10 = .ok (.aload_n 0, 1) := by decide +kernel
theorem dX5_restart_11 : decode cX5_restart 11 = .ok (.aload_n 0, 1) := by decide +kernel
theorem dX5_restart_12 : decode cX5_restart 12 = .ok (.getfield 23, 3) := by decide +kernel
theorem dX5_restart_15 : decode cX5_restart 15 = .ok (.iconst 1, 1) := by decide +kernel
theorem dX5_restart_16 : decode cX5_restart 16 = .ok (.iadd, 1) := by decide +kernel
theorem dX5_restart_17 : decode cX5_restart 17 = .ok (.putfield 27, 3) := by decide +kernel
theorem dX5_restart_20 : decode cX5_restart 20 = .ok (.aload_n 0, 1) := by decide +kernel
theorem dX5_restart_21 : decode cX5_restart 21 = .ok (.iconst 1, 1) := by decide +kernel
theorem dX5_restart_22 : decode cX5_restart 22 = .ok (.aload_n 0, 1) := by decide +kernel
theorem dX5_restart_23 : decode cX5_restart 23 = .ok (.getfield 9, 3) := by decide +kernel
theorem dX5_restart_26 : decode cX5_restart 26 = .ok (.getfield 30, 3) := by decide +kernel
theorem dX5_restart_29 : decode cX5_restart 29 = .ok (.iconst 1, 1) := by decide +kernel
theorem dX5_restart_30 : decode cX5_restart 30 = .ok (.aload_n 0, 1) := by decide +kernel
theorem dX5_restart_31 : decode cX5_restart 31 = .ok (.getfield 27, 3) := by decide +kernel
theorem dX5_restart_34 : decode cX5_restart 34 = .ok (.invokestatic 35, 3) := by decide +kernel
theorem dX5_restart_37 : decode cX5_restart 37 = .ok (.idiv, 1) := by decide +kernel
theorem dX5_restart_38 : decode cX5_restart 38 = .ok (.invokestatic 35, 3) := by decide +kernel
theorem dX5_restart_41 : decode cX5_restart 41 = .ok (.putfield 41, 3) := by decide +kernel
theorem dX5_restart_44 : decode cX5_restart 44 = .ok (.aload_n 0, 1) := by decide +kernel
theorem dX5_restart_45 : decode cX5_restart 45 = .ok (.iconst 0, 1) := by decide +kernel
theorem dX5_restart_46 : decode cX5_restart 46 = .ok (.putfield 48, 3) := by decide +kernel
theorem dX5_restart_49 : decode cX5_restart 49 = .ok (.return_, 1) := by decide +kernel
theorem dX5_hasKey_0 : decode cX5_hasKey 0 = .ok (.iconst 0, 1) := by decide +kernel
theorem dX5_hasKey_1 : decode cX5_hasKey 1 = .ok (.istore_n 2, 1) := by decide +kernel
theorem dX5_hasKey_2 : decode cX5_hasKey 2 = .ok (.iload_n 2, 1) := by decide +kernel
theorem dX5_hasKey_3 : decode cX5_hasKey 3 = .ok (.aload_n 0, 1) := by decide +kernel
theorem dX5_hasKey_4 : decode cX5_hasKey 4 = .ok (.getfield 48, 3) := by decide +kernel
theorem dX5_hasKey_7 : decode cX5_hasKey 7 = .ok (.if_icmp .ge 30, 3) := by decide +kernel
theorem dX5_hasKey_10 : decode cX5_hasKey 10 = .ok (.iload_n 2, 1) := by decide +kernel
theorem dX5_hasKey_11 : decode cX5_hasKey 11 = .ok (.aload_n 0, 1) := by decide +kernel
theorem dX5_hasKey_12 : decode cX5_hasKey 12 = .ok (.getfield 15, 3) := by decide +kernel
theorem dX5_hasKey_15 : decode cX5_hasKey 15 = .ok (.arraylength, 1) := by decide +kernel
theorem dX5_hasKey_16 : decode cX5_hasKey 16 = .ok (.if_icmp .ge 21, 3) := by decide +kernel
theorem dX5_hasKey_19 : decode cX5_hasKey 19 = .ok (.aload_n 0, 1) := by decide +kernel
theorem dX5_hasKey_20 : decode cX5_hasKey 20 = .ok (.getfield 15, 3) := by decide +kernel
theorem dX5_hasKey_23 : decode cX5_hasKey 23 = .ok (.iload_n 2, 1) := by decide +kernel
theorem dX5_hasKey_24 : decode cX5_hasKey 24 = .ok (.iaload, 1) := by decide +kernel
theorem dX5_hasKey_25 : decode cX5_hasKey 25 = .ok (.iload_n 1, 1) := by decide +kernel
theorem dX5_hasKey_26 : decode cX5_hasKey 26 = .ok (.if_icmp .ne 5, 3) := by decide +kernel
theorem dX5_hasKey_29 : decode cX5_hasKey 29 = .ok (.iconst 1, 1) := by decide +kernel
theorem dX5_hasKey_30 : decode cX5_hasKey 30 = .ok (.ireturn, 1) := by decide +kernel
theorem dX5_hasKey_31 : decode cX5_hasKey 31 = .ok (.iinc 2 1, 3) := by decide +kernel
theorem dX5_hasKey_34 : decode cX5_hasKey 34 = .ok (.goto (-32), 3) := by decide +kernel
theorem dX5_hasKey_37 : decode cX5_hasKey 37 = .ok (.iconst 0, 1) := by decide +kernel
theorem dX5_hasKey_38 : decode cX5_hasKey 38 = .ok (.ireturn, 1) := by decide +kernel
theorem dX5_addKey_0 : decode cX5_addKey 0 = .ok (.aload_n 0, 1) := by decide +kernel
theorem dX5_addKey_1 : decode cX5_addKey 1 = .ok (.getfield 48, 3) := by decide +kernel
theorem dX5_addKey_4 : decode cX5_addKey 4 = .ok (.ifCond .lt 57, 3) := by decide +kernel
theorem dX5_addKey_7 : decode cX5_addKey 7 = .ok (.aload_n 0, 1) := by decide +kernel
theorem dX5_addKey_8 : decode cX5_addKey 8 = .ok (.getfield 48, 3) := by decide +kernel
theorem dX5_addKey_11 : decode cX5_addKey 11 = .ok (.aload_n 0, 1) := by decide +kernel
theorem dX5_addKey_12 : decode cX5_addKey 12 = .ok (.getfield 15, 3) := by decide +kernel
theorem dX5_addKey_15 : decode cX5_addKey 15 = .ok (.arraylength, 1) := by decide +kernel
theorem dX5_addKey_16 : decode cX5_addKey 16 = .ok (.if_icmp .ge 45, 3) := by decide +kernel
theorem dX5_addKey_19 : decode cX5_addKey 19 = .ok (.aload_n 0, 1) := by decide +kernel
theorem dX5_addKey_20 : decode cX5_addKey 20 = .ok (.getfield 48, 3) := by decide +kernel
theorem dX5_addKey_23 : decode cX5_addKey 23 = .ok (.aload_n 0, 1) := by decide +kernel
theorem dX5_addKey_24 : decode cX5_addKey 24 = .ok (.getfield 19, 3) := by decide +kernel
theorem dX5_addKey_27 : decode cX5_addKey 27 = .ok (.arraylength, 1) := by decide +kernel
theorem dX5_addKey_28 : decode cX5_addKey 28 = .ok (.if_icmp .ge 33, 3) := by decide +kernel
theorem dX5_addKey_31 : decode cX5_addKey 31 = .ok (.aload_n 0, 1) := by decide +kernel
theorem dX5_addKey_32 : decode cX5_addKey 32 = .ok (.getfield 15, 3) := by decide +kernel
theorem dX5_addKey_35 : decode cX5_addKey 35 = .ok (.aload_n 0, 1) := by decide +kernel
theorem dX5_addKey_36 : decode cX5_addKey 36 = .ok (.getfield 48, 3) := by decide +kernel
theorem dX5_addKey_39 : decode cX5_addKey 39 = .ok (.iload_n 1, 1) := by decide +kernel
theorem dX5_addKey_40 : decode cX5_addKey 40 = .ok (.iastore, 1) := by decide +kernel
theorem dX5_addKey_41 : decode cX5_addKey 41 = .ok (.aload_n 0, 1) := by decide +kernel
theorem dX5_addKey_42 : decode cX5_addKey 42 = .ok (.getfield 19, 3) := by decide +kernel
theorem dX5_addKey_45 : decode cX5_addKey 45 = .ok (.aload_n 0, 1) := by decide +kernel
theorem dX5_addKey_46 : decode cX5_addKey 46 = .ok (.getfield 48, 3) := by decide +kernel
theorem dX5_addKey_49 : decode cX5_addKey 49 = .ok (.iload_n 2, 1) := by decide +kernel
theorem dX5_addKey_50 : decode cX5_addKey 50 = .ok (.bastore, 1) := by decide +kernel
theorem dX5_addKey_51 : decode cX5_addKey 51 = .ok (.aload_n 0, 1) := by decide +kernel
theorem dX5_addKey_52 : decode cX5_addKey 52 = .ok (.dup, 1) := by decide +kernel
theorem dX5_addKey_53 : decode cX5_addKey 53 = .ok (.getfield 48, 3) := by decide +kernel
theorem dX5_addKey_56 : decode cX5_addKey 56 = .ok (.iconst 1, 1) := by decide +kernel
theorem dX5_addKey_57 : decode cX5_addKey 57 = .ok (.iadd, 1) := by decide +kernel
theorem dX5_addKey_58 : decode cX5_addKey 58 = .ok (.putfield 48, 3) := by decide +kernel
theorem dX5_addKey_61 : decode cX5_addKey 61 = .ok (.aload_n 0, 1) := by decide +kernel
theorem dX5_addKey_62 : decode cX5_addKey 62 = .ok (.getfield 48, 3) := by decide +kernel
theorem dX5_addKey_65 : decode cX5_addKey 65 = .ok (.ireturn, 1) := by decide +kernel
theorem dX5_canSum_0 : decode cX5_canSum 0 = .ok (.aload_n 0, 1) := by decide +kernel
theorem dX5_canSum_1 : decode cX5_canSum 1 = .ok (.getfield 48, 3) := by decide +kernel
theorem dX5_canSum_4 : decode cX5_canSum 4 = .ok (.ifCond .le 20, 3) := by decide +kernel
theorem dX5_canSum_7 : decode cX5_canSum 7 = .ok (.aload_n 0, 1) := by decide +kernel
theorem dX5_canSum_8 : decode cX5_canSum 8 = .ok (.aload_n 0, 1) := by decide +kernel
theorem dX5_canSum_9 : decode cX5_canSum 9 = .ok (.getfield 23, 3) := by decide +kernel
theorem dX5_canSum_12 : decode cX5_canSum 12 = .ok (.iconst 1, 1) := by decide +kernel
theorem dX5_canSum_13 : decode cX5_canSum 13 = .ok (.isub, 1) := by decide +kernel
theorem dX5_canSum_14 : decode cX5_canSum 14 = .ok (.invokevirtual 51, 3) := by decide +kernel
theorem dX5_canSum_17 : decode cX5_canSum 17 = .ok (.ifCond .ne 7, 3) := by decide +kernel
theorem dX5_canSum_20 : decode cX5_canSum 20 = .ok (.iconst 1, 1) := by decide +kernel
theorem dX5_canSum_21 : decode cX5_canSum 21 = .ok (.goto 4, 3) := by decide +kernel
theorem dX5_canSum_24 : decode cX5_canSum 24 = .ok (.iconst 0, 1) := by decide +kernel
theorem dX5_canSum_25 : decode cX5_canSum 25 = .ok (.ireturn, 1) := by decide +kernel
theorem dX5_blocksFor_0 : decode cX5_blocksFor 0 = .ok (.iload_n 1, 1) := by decide +kernel
theorem dX5_blocksFor_1 : decode cX5_blocksFor 1 = .ok (.aload_n 0, 1) := by decide +kernel
theorem dX5_blocksFor_2 : decode cX5_blocksFor 2 = .ok (.getfield 41, 3) := by decide +kernel
theorem dX5_blocksFor_5 : decode cX5_blocksFor 5 = .ok (.iadd, 1) := by decide +kernel
theorem dX5_blocksFor_6 : decode cX5_blocksFor 6 = .ok (.iconst 1, 1) := by decide +kernel
theorem dX5_blocksFor_7 : decode cX5_blocksFor 7 = .ok (.isub, 1) := by decide +kernel
theorem dX5_blocksFor_8 : decode cX5_blocksFor 8 = .ok (.iconst 1, 1) := by decide +kernel
theorem dX5_blocksFor_9 : decode cX5_blocksFor 9 = .ok (.aload_n 0, 1) := by decide +kernel
theorem dX5_blocksFor_10 : decode cX5_blocksFor 10 = .ok (.getfield 41, 3) := by decide +kernel
theorem dX5_blocksFor_13 : decode cX5_blocksFor 13 = .ok (.invokestatic 35, 3) := by decide +kernel
theorem dX5_blocksFor_16 : decode cX5_blocksFor 16 = .ok (.idiv, 1) := by decide +kernel
theorem dX5_blocksFor_17 : decode cX5_blocksFor 17 = .ok (.ireturn, 1) := by decide +kernel
theorem dX5_firstColumn_0 : decode cX5_firstColumn 0 = .ok (.aload_n 0, 1) := by decide +kernel
theorem dX5_firstColumn_1 : decode cX5_firstColumn 1 = .ok (.getfield 48, 3) := by decide +kernel
theorem dX5_firstColumn_4 : decode cX5_firstColumn 4 = .ok (.ifCond .le 20, 3) := by decide +kernel
theorem dX5_firstColumn_7 : decode cX5_firstColumn 7 = .ok (.aload_n 0, 1) := by decide +kernel
theorem dX5_firstColumn_8 : decode cX5_firstColumn 8 = .ok (.getfield 15, 3) := by decide +kernel
theorem dX5_firstColumn_11 : decode cX5_firstColumn 11 = .ok (.arraylength, 1) := by decide +kernel
theorem dX5_firstColumn_12 : decode cX5_firstColumn 12 = .ok (.ifCond .le 12, 3) := by decide +kernel
theorem dX5_firstColumn_15 : decode cX5_firstColumn 15 = .ok (.aload_n 0, 1) := by decide +kernel
theorem dX5_firstColumn_16 : decode cX5_firstColumn 16 = .ok (.getfield 15, 3) := by decide +kernel
theorem dX5_firstColumn_19 : decode cX5_firstColumn 19 = .ok (.iconst 0, 1) := by decide +kernel
theorem dX5_firstColumn_20 : decode cX5_firstColumn 20 = .ok (.iaload, 1) := by decide +kernel
theorem dX5_firstColumn_21 : decode cX5_firstColumn 21 = .ok (.goto 4, 3) := by decide +kernel
theorem dX5_firstColumn_24 : decode cX5_firstColumn 24 = .ok (.iconst 0, 1) := by decide +kernel
theorem dX5_firstColumn_25 : decode cX5_firstColumn 25 = .ok (.ireturn, 1) := by decide +kernel
theorem dX5_isBeforeInFirstKey_0 : decode cX5_isBeforeInFirstKey 0 = .ok (.aload_n 0, 1) := by decide +kernel
theorem dX5_isBeforeInFirstKey_1 : decode cX5_isBeforeInFirstKey 1 = .ok (.getfield 48, 3) := by decide +kernel
theorem dX5_isBeforeInFirstKey_4 : decode cX5_isBeforeInFirstKey 4 = .ok (.ifCond .le 34, 3) := by decide +kernel
theorem dX5_isBeforeInFirstKey_7 : decode cX5_isBeforeInFirstKey 7 = .ok (.aload_n 0, 1) := by decide +kernel
theorem dX5_isBeforeInFirstKey_8 : decode cX5_isBeforeInFirstKey 8 = .ok (.getfield 19, 3) := by decide +kernel
theorem dX5_isBeforeInFirstKey_11 : decode cX5_isBeforeInFirstKey 11 = .ok (.arraylength, 1) := by decide +kernel
theorem dX5_isBeforeInFirstKey_12 : decode cX5_isBeforeInFirstKey 12 = .ok (.ifCond .le 26, 3) := by decide +kernel
theorem dX5_isBeforeInFirstKey_15 : decode cX5_isBeforeInFirstKey 15 = .ok (.aload_n 0, 1) := by decide +kernel
theorem dX5_isBeforeInFirstKey_16 : decode cX5_isBeforeInFirstKey 16 = .ok (.getfield 19, 3) := by decide +kernel
theorem dX5_isBeforeInFirstKey_19 : decode cX5_isBeforeInFirstKey 19 = .ok (.iconst 0, 1) := by decide +kernel
theorem dX5_isBeforeInFirstKey_20 : decode cX5_isBeforeInFirstKey 20 = .ok (.baload, 1) := by decide +kernel
theorem dX5_isBeforeInFirstKey_21 : decode cX5_isBeforeInFirstKey 21 = .ok (.ifCond .eq 17, 3) := by decide +kernel
theorem dX5_isBeforeInFirstKey_24 : decode cX5_isBeforeInFirstKey 24 = .ok (.lload_n 1, 1) := by decide +kernel
theorem dX5_isBeforeInFirstKey_25 : decode cX5_isBeforeInFirstKey 25 = .ok (.lload_n 3, 1) := by decide +kernel
theorem dX5_isBeforeInFirstKey_26 : decode cX5_isBeforeInFirstKey 26 = .ok (.lcmp, 1) := by decide +kernel
theorem dX5_isBeforeInFirstKey_27 : decode cX5_isBeforeInFirstKey 27 = .ok (.ifCond .le 7, 3) := by decide +kernel
theorem dX5_isBeforeInFirstKey_30 : decode cX5_isBeforeInFirstKey 30 = .ok (.iconst 1, 1) := by decide +kernel
theorem dX5_isBeforeInFirstKey_31 : decode cX5_isBeforeInFirstKey 31 = .ok (.goto 18, 3) := by decide +kernel
theorem dX5_isBeforeInFirstKey_34 : decode cX5_isBeforeInFirstKey 34 = .ok (.iconst 0, 1) := by decide +kernel
theorem dX5_isBeforeInFirstKey_35 : decode cX5_isBeforeInFirstKey 35 = .ok (.goto 14, 3) := by decide +kernel
theorem dX5_isBeforeInFirstKey_38 : decode cX5_isBeforeInFirstKey 38 = .ok (.lload_n 1, 1) := by decide +kernel
theorem dX5_isBeforeInFirstKey_39 : decode cX5_isBeforeInFirstKey 39 = .ok (.lload_n 3, 1) := by decide +kernel
theorem dX5_isBeforeInFirstKey_40 : decode cX5_isBeforeInFirstKey 40 = .ok (.lcmp, 1) := by decide +kernel
theorem dX5_isBeforeInFirstKey_41 : decode cX5_isBeforeInFirstKey 41 = .ok (.ifCond .ge 7, 3) := by decide +kernel
theorem dX5_isBeforeInFirstKey_44 : decode cX5_isBeforeInFirstKey 44 = .ok (.iconst 1, 1) := by decide +kernel
theorem dX5_isBeforeInFirstKey_45 : decode cX5_isBeforeInFirstKey 45 = .ok (.goto 4, 3) := by decide +kernel
theorem dX5_isBeforeInFirstKey_48 : decode cX5_isBeforeInFirstKey 48 = .ok (.iconst 0, 1) := by decide +kernel
theorem dX5_isBeforeInFirstKey_49 : decode cX5_isBeforeInFirstKey 49 = .ok (.ireturn, 1) := by decide +kernel
theorem dX5_isBefore_0 : decode cX5_isBefore 0 = .ok (.aload_n 0, 1) := by decide +kernel
theorem dX5_isBefore_1 : decode cX5_isBefore 1 = .ok (.iload_n 1, 1) := by decide +kernel
theorem dX5_isBefore_2 : decode cX5_isBefore 2 = .ok (.iload_n 2, 1) := by decide +kernel
theorem dX5_isBefore_3 : decode cX5_isBefore 3 = .ok (.invokevirtual 55, 3) := by decide +kernel
theorem dX5_isBefore_6 : decode cX5_isBefore 6 = .ok (.istore_n 3, 1) := by decide +kernel
theorem dX5_isBefore_7 : decode cX5_isBefore 7 = .ok (.iload_n 3, 1) := by decide +kernel
theorem dX5_isBefore_8 : decode cX5_isBefore 8 = .ok (.ifCond .lt 37, 3) := by decide +kernel
theorem dX5_isBefore_11 : decode cX5_isBefore 11 = .ok (.iload_n 3, 1) := by decide +kernel
theorem dX5_isBefore_12 : decode cX5_isBefore 12 = .ok (.ifCond .ne 37, 3) := by decide +kernel
theorem dX5_isBefore_15 : decode cX5_isBefore 15 = .ok (.aload_n 0, 1) := by decide +kernel
theorem dX5_isBefore_16 : decode cX5_isBefore 16 = .ok (.getfield 9, 3) := by decide +kernel
theorem dX5_isBefore_19 : decode cX5_isBefore 19 = .ok (.iload_n 1, 1) := by decide +kernel
theorem dX5_isBefore_20 : decode cX5_isBefore 20 = .ok (.aload_n 0, 1) := by decide +kernel
theorem dX5_isBefore_21 : decode cX5_isBefore 21 = .ok (.getfield 23, 3) := by decide +kernel
theorem dX5_isBefore_24 : decode cX5_isBefore 24 = .ok (.iadd, 1) := by decide +kernel
theorem dX5_isBefore_25 : decode cX5_isBefore 25 = .ok (.invokevirtual 58, 3) := by decide +kernel
theorem dX5_isBefore_28 : decode cX5_isBefore 28 = .ok (.aload_n 0, 1) := by decide +kernel
theorem dX5_isBefore_29 : decode cX5_isBefore 29 = .ok (.getfield 9, 3) := by decide +kernel
theorem dX5_isBefore_32 : decode cX5_isBefore 32 = .ok (.iload_n 2, 1) := by decide +kernel
theorem dX5_isBefore_33 : decode cX5_isBefore 33 = .ok (.aload_n 0, 1) := by decide +kernel
theorem dX5_isBefore_34 : decode cX5_isBefore 34 = .ok (.getfield 23, 3) := by decide +kernel
theorem dX5_isBefore_37 : decode cX5_isBefore 37 = .ok (.iadd, 1) := by decide +kernel
theorem dX5_isBefore_38 : decode cX5_isBefore 38 = .ok (.invokevirtual 58, 3) := by decide +kernel
theorem dX5_isBefore_41 : decode cX5_isBefore 41 = .ok (.lcmp, 1) := by decide +kernel
theorem dX5_isBefore_42 : decode cX5_isBefore 42 = .ok (.ifCond .ge 7, 3) := by decide +kernel
theorem dX5_isBefore_45 : decode cX5_isBefore 45 = .ok (.iconst 1, 1) := by decide +kernel
theorem dX5_isBefore_46 : decode cX5_isBefore 46 = .ok (.goto 4, 3) := by decide +kernel
theorem dX5_isBefore_49 : decode cX5_isBefore 49 = .ok (.iconst 0, 1) := by decide +kernel
theorem dX5_isBefore_50 : decode cX5_isBefore 50 = .ok (.ireturn, 1) := by decide +kernel
theorem dX5_isAlike_0 : decode cX5_isAlike 0 = .ok (.aload_n 0, 1) := by decide +kernel
theorem dX5_isAlike_1 : decode cX5_isAlike 1 = .ok (.iload_n 1, 1) := by decide +kernel
theorem dX5_isAlike_2 : decode cX5_isAlike 2 = .ok (.iload_n 2, 1) := by decide +kernel
theorem dX5_isAlike_3 : decode cX5_isAlike 3 = .ok (.invokevirtual 55, 3) := by decide +kernel
theorem dX5_isAlike_6 : decode cX5_isAlike 6 = .ok (.ifCond .ne 7, 3) := by decide +kernel
theorem dX5_isAlike_9 : decode cX5_isAlike 9 = .ok (.iconst 1, 1) := by decide +kernel
theorem dX5_isAlike_10 : decode cX5_isAlike 10 = .ok (.goto 4, 3) := by decide +kernel
theorem dX5_isAlike_13 : decode cX5_isAlike 13 = .ok (.iconst 0, 1) := by decide +kernel
theorem dX5_isAlike_14 : decode cX5_isAlike 14 = .ok (.ireturn, 1) := by decide +kernel
theorem dX5_compareKeys_0 : decode cX5_compareKeys 0 = .ok (.aload_n 0, 1) := by decide +kernel
theorem dX5_compareKeys_1 : decode cX5_compareKeys 1 = .ok (.getfield 48, 3) := by decide +kernel
theorem dX5_compareKeys_4 : decode cX5_compareKeys 4 = .ok (.ifCond .ne 10, 3) := by decide +kernel
theorem dX5_compareKeys_7 : decode cX5_compareKeys 7 = .ok (.aload_n 0, 1) := by decide +kernel
theorem dX5_compareKeys_8 : decode cX5_compareKeys 8 = .ok (.getfield 23, 3) := by decide +kernel
theorem dX5_compareKeys_11 : decode cX5_compareKeys 11 = .ok (.goto 7, 3) := by decide +kernel
theorem dX5_compareKeys_14 : decode cX5_compareKeys 14 = .ok (.aload_n 0, 1) := by decide +kernel
theorem dX5_compareKeys_15 : decode cX5_compareKeys 15 = .ok (.getfield 48, 3) := by decide +kernel
theorem dX5_compareKeys_18 : decode cX5_compareKeys 18 = .ok (.istore_n 3, 1) := by decide +kernel
theorem dX5_compareKeys_19 : decode cX5_compareKeys 19 = .ok (.iconst 0, 1) := by decide +kernel
theorem dX5_compareKeys_20 : decode cX5_compareKeys 20 = .ok (.istore 4, 2) := by decide +kernel
theorem dX5_compareKeys_22 : decode cX5_compareKeys 22 = .ok (.iload 4, 2) := by decide +kernel
theorem dX5_compareKeys_24 : decode cX5_compareKeys 24 = .ok (.iload_n 3, 1) := by decide +kernel
theorem dX5_compareKeys_25 : decode cX5_compareKeys 25 = .ok (.if_icmp .ge 132, 3) := by decide +kernel
theorem dX5_compareKeys_28 : decode cX5_compareKeys 28 = .ok (.iload 4, 2) := by decide +kernel
theorem dX5_compareKeys_30 : decode cX5_compareKeys 30 = .ok (.aload_n 0, 1) := by decide +kernel
theorem dX5_compareKeys_31 : decode cX5_compareKeys 31 = .ok (.getfield 15, 3) := by decide +kernel
theorem dX5_compareKeys_34 : decode cX5_compareKeys 34 = .ok (.arraylength, 1) := by decide +kernel
theorem dX5_compareKeys_35 : decode cX5_compareKeys 35 = .ok (.if_icmp .ge 122, 3) := by decide +kernel
theorem dX5_compareKeys_38 : decode cX5_compareKeys 38 = .ok (.iload 4, 2) := by decide +kernel
theorem dX5_compareKeys_40 : decode cX5_compareKeys 40 = .ok (.aload_n 0, 1) := by decide +kernel
theorem dX5_compareKeys_41 : decode cX5_compareKeys 41 = .ok (.getfield 19, 3) := by decide +kernel
theorem dX5_compareKeys_44 : decode cX5_compareKeys 44 = .ok (.arraylength, 1) := by decide +kernel
theorem dX5_compareKeys_45 : decode cX5_compareKeys 45 = .ok (.if_icmp .ge 112, 3) := by decide +kernel
theorem dX5_compareKeys_48 : decode cX5_compareKeys 48 = .ok (.aload_n 0, 1) := by decide +kernel
theorem dX5_compareKeys_49 : decode cX5_compareKeys 49 = .ok (.getfield 48, 3) := by decide +kernel
theorem dX5_compareKeys_52 : decode cX5_compareKeys 52 = .ok (.ifCond .ne 8, 3) := by decide +kernel
theorem dX5_compareKeys_55 : decode cX5_compareKeys 55 = .ok (.iload 4, 2) := by decide +kernel
theorem dX5_compareKeys_57 : decode cX5_compareKeys 57 = .ok (.goto 10, 3) := by decide +kernel
theorem dX5_compareKeys_60 : decode cX5_compareKeys 60 = .ok (.aload_n 0, 1) := by decide +kernel
theorem dX5_compareKeys_61 : decode cX5_compareKeys 61 = .ok (.getfield 15, 3) := by decide +kernel
theorem dX5_compareKeys_64 : decode cX5_compareKeys 64 = .ok (.iload 4, 2) := by decide +kernel
theorem dX5_compareKeys_66 : decode cX5_compareKeys 66 = .ok (.iaload, 1) := by decide +kernel
theorem dX5_compareKeys_67 : decode cX5_compareKeys 67 = .ok (.istore 5, 2) := by decide +kernel
theorem dX5_compareKeys_69 : decode cX5_compareKeys 69 = .ok (.aload_n 0, 1) := by decide +kernel
theorem dX5_compareKeys_70 : decode cX5_compareKeys 70 = .ok (.getfield 48, 3) := by decide +kernel
theorem dX5_compareKeys_73 : decode cX5_compareKeys 73 = .ok (.ifCond .le 17, 3) := by decide +kernel
theorem dX5_compareKeys_76 : decode cX5_compareKeys 76 = .ok (.aload_n 0, 1) := by decide +kernel
theorem dX5_compareKeys_77 : decode cX5_compareKeys 77 = .ok (.getfield 19, 3) := by decide +kernel
theorem dX5_compareKeys_80 : decode cX5_compareKeys 80 = .ok (.iload 4, 2) := by decide +kernel
theorem dX5_compareKeys_82 : decode cX5_compareKeys 82 = .ok (.baload, 1) := by decide +kernel
theorem dX5_compareKeys_83 : decode cX5_compareKeys 83 = .ok (.ifCond .eq 7, 3) := by decide +kernel
theorem dX5_compareKeys_86 : decode cX5_compareKeys 86 = .ok (.iconst 1, 1) := by decide +kernel
theorem dX5_compareKeys_87 : decode cX5_compareKeys 87 = .ok (.goto 4, 3) := by decide +kernel
theorem dX5_compareKeys_90 : decode cX5_compareKeys 90 = .ok (.iconst 0, 1) := by decide +kernel
theorem dX5_compareKeys_91 : decode cX5_compareKeys 91 = .ok (.istore 6, 2) := by decide +kernel
theorem dX5_compareKeys_93 : decode cX5_compareKeys 93 = .ok (.aload_n 0, 1) := by decide +kernel
theorem dX5_compareKeys_94 : decode cX5_compareKeys 94 = .ok (.getfield 9, 3) := by decide +kernel
theorem dX5_compareKeys_97 : decode cX5_compareKeys 97 = .ok (.iload_n 1, 1) := by decide +kernel
theorem dX5_compareKeys_98 : decode cX5_compareKeys 98 = .ok (.iload 5, 2) := by decide +kernel
theorem dX5_compareKeys_100 : decode cX5_compareKeys 100 = .ok (.iadd, 1) := by decide +kernel
theorem dX5_compareKeys_101 : decode cX5_compareKeys 101 = .ok (.invokevirtual 58, 3) := by decide +kernel
theorem dX5_compareKeys_104 : decode cX5_compareKeys 104 = .ok (.lstore 7, 2) := by decide +kernel
theorem dX5_compareKeys_106 : decode cX5_compareKeys 106 = .ok (.aload_n 0, 1) := by decide +kernel
theorem dX5_compareKeys_107 : decode cX5_compareKeys 107 = .ok (.getfield 9, 3) := by decide +kernel
theorem dX5_compareKeys_110 : decode cX5_compareKeys 110 = .ok (.iload_n 2, 1) := by decide +kernel
theorem dX5_compareKeys_111 : decode cX5_compareKeys 111 = .ok (.iload 5, 2) := by decide +kernel
theorem dX5_compareKeys_113 : decode cX5_compareKeys 113 = .ok (.iadd, 1) := by decide +kernel
theorem dX5_compareKeys_114 : decode cX5_compareKeys 114 = .ok (.invokevirtual 58, 3) := by decide +kernel
theorem dX5_compareKeys_117 : decode cX5_compareKeys 117 = .ok (.lstore 9, 2) := by decide +kernel
theorem dX5_compareKeys_119 : decode cX5_compareKeys 119 = .ok (.lload 7, 2) := by decide +kernel
theorem dX5_compareKeys_121 : decode cX5_compareKeys 121 = .ok (.lload 9, 2) := by decide +kernel
theorem dX5_compareKeys_123 : decode cX5_compareKeys 123 = .ok (.lcmp, 1) := by decide +kernel
theorem dX5_compareKeys_124 : decode cX5_compareKeys 124 = .ok (.ifCond .eq 27, 3) := by decide +kernel
theorem dX5_compareKeys_127 : decode cX5_compareKeys 127 = .ok (.lload 7, 2) := by decide +kernel
theorem dX5_compareKeys_129 : decode cX5_compareKeys 129 = .ok (.lload 9, 2) := by decide +kernel
theorem dX5_compareKeys_131 : decode cX5_compareKeys 131 = .ok (.lcmp, 1) := by decide +kernel
theorem dX5_compareKeys_132 : decode cX5_compareKeys 132 = .ok (.ifCond .ge 7, 3) := by decide +kernel
theorem dX5_compareKeys_135 : decode cX5_compareKeys 135 = .ok (.iconst 1, 1) := by decide +kernel
theorem dX5_compareKeys_136 : decode cX5_compareKeys 136 = .ok (.goto 4, 3) := by decide +kernel
theorem dX5_compareKeys_139 : decode cX5_compareKeys 139 = .ok (.iconst 0, 1) := by decide +kernel
theorem dX5_compareKeys_140 : decode cX5_compareKeys 140 = .ok (.iload 6, 2) := by decide +kernel
theorem dX5_compareKeys_142 : decode cX5_compareKeys 142 = .ok (.if_icmp .eq 7, 3) := by decide +kernel
theorem dX5_compareKeys_145 : decode cX5_compareKeys 145 = .ok (.iconst (-1), 1) := by decide +kernel
theorem dX5_compareKeys_146 : decode cX5_compareKeys 146 = .ok (.goto 4, 3) := by decide +kernel
theorem dX5_compareKeys_149 : decode cX5_compareKeys 149 = .ok (.iconst 1, 1) := by decide +kernel
theorem dX5_compareKeys_150 : decode cX5_compareKeys 150 = .ok (.ireturn, 1) := by decide +kernel
theorem dX5_compareKeys_151 : decode cX5_compareKeys 151 = .ok (.iinc 4 1, 3) := by decide +kernel
theorem dX5_compareKeys_154 : decode cX5_compareKeys 154 = .ok (.goto (-132), 3) := by decide +kernel
theorem dX5_compareKeys_157 : decode cX5_compareKeys 157 = .ok (.iconst 0, 1) := by decide +kernel
theorem dX5_compareKeys_158 : decode cX5_compareKeys 158 = .ok (.ireturn, 1) := by decide +kernel
theorem dX6_init_0 : decode cX6_init 0 = .ok (.aload_n 0, 1) := by decide +kernel
theorem dX6_init_1 : decode cX6_init 1 = .ok (.invokespecial 3, 3) := by decide +kernel
theorem dX6_init_4 : decode cX6_init 4 = .ok (.aload_n 0, 1) := by decide +kernel
theorem dX6_init_5 : decode cX6_init 5 = .ok (.iconst 0, 1) := by decide +kernel
theorem dX6_init_6 : decode cX6_init 6 = .ok (.iload_n 1, 1) := by decide +kernel
theorem dX6_init_7 : decode cX6_init 7 = .ok (.invokestatic 9, 3) := by decide +kernel
theorem dX6_init_10 : decode cX6_init 10 = .ok (.newarray .int, 2) := by decide +kernel
theorem dX6_init_12 : decode cX6_init 12 = .ok (.putfield 15, 3) := by decide +kernel
theorem dX6_init_15 : decode cX6_init 15 = .ok (.return_, 1) := by decide +kernel
theorem dX6_size_0 : decode cX6_size 0 = .ok (.aload_n 0, 1) := by decide +kernel
theorem dX6_size_1 : decode cX6_size 1 = .ok (.getfield 21, 3) := by decide +kernel
theorem dX6_size_4 : decode cX6_size 4 = .ok (.ireturn, 1) := by decide +kernel
theorem dX6_clear_0 : decode cX6_clear 0 = .ok (.aload_n 0, 1) := by decide +kernel
theorem dX6_clear_1 : decode cX6_clear 1 = .ok (.iconst 0, 1) := by decide +kernel
theorem dX6_clear_2 : decode cX6_clear 2 = .ok (.putfield 21, 3) := by decide +kernel
theorem dX6_clear_5 : decode cX6_clear 5 = .ok (.return_, 1) := by decide +kernel
theorem dX6_get_0 : decode cX6_get 0 = .ok (.iload_n 1, 1) := by decide +kernel
theorem dX6_get_1 : decode cX6_get 1 = .ok (.ifCond .lt 29, 3) := by decide +kernel
theorem dX6_get_4 : decode cX6_get 4 = .ok (.iload_n 1, 1) := by decide +kernel
theorem dX6_get_5 : decode cX6_get 5 = .ok (.aload_n 0, 1) := by decide +kernel
theorem dX6_get_6 : decode cX6_get 6 = .ok (.getfield 21, 3) := by decide +kernel
theorem dX6_get_9 : decode cX6_get 9 = .ok (.if_icmp .ge 21, 3) := by decide +kernel
theorem dX6_get_12 : decode cX6_get 12 = .ok (.iload_n 1, 1) := by decide +kernel
theorem dX6_get_13 : decode cX6_get 13 = .ok (.aload_n 0, 1) := by decide +kernel
theorem dX6_get_14 : decode cX6_get 14 = .ok (.getfield 15, 3) := by decide +kernel
theorem dX6_get_17 : decode cX6_get 17 = .ok (.arraylength, 1) := by decide +kernel
theorem dX6_get_18 : decode cX6_get 18 = .ok (.if_icmp .ge 12, 3) := by decide +kernel
theorem dX6_get_21 : decode cX6_get 21 = .ok (.aload_n 0, 1) := by decide +kernel
theorem dX6_get_22 : decode cX6_get 22 = .ok (.getfield 15, 3) := by decide +kernel
theorem dX6_get_25 : decode cX6_get 25 = .ok (.iload_n 1, 1) := by decide +kernel
theorem dX6_get_26 : decode cX6_get 26 = .ok (.iaload, 1) := by decide +kernel
theorem dX6_get_27 : decode cX6_get 27 = .ok (.goto 4, 3) := by decide +kernel
theorem dX6_get_30 : decode cX6_get 30 = .ok (.iconst (-1), 1) := by decide +kernel
theorem dX6_get_31 : decode cX6_get 31 = .ok (.ireturn, 1) := by decide +kernel
theorem dX6_set_0 : decode cX6_set 0 = .ok (.iload_n 1, 1) := by decide +kernel
theorem dX6_set_1 : decode cX6_set 1 = .ok (.ifCond .lt 27, 3) := by decide +kernel
theorem dX6_set_4 : decode cX6_set 4 = .ok (.iload_n 1, 1) := by decide +kernel
theorem dX6_set_5 : decode cX6_set 5 = .ok (.aload_n 0, 1) := by decide +kernel
theorem dX6_set_6 : decode cX6_set 6 = .ok (.getfield 21, 3) := by decide +kernel
theorem dX6_set_9 : decode cX6_set 9 = .ok (.if_icmp .ge 19, 3) := by decide +kernel
theorem dX6_set_12 : decode cX6_set 12 = .ok (.iload_n 1, 1) := by decide +kernel
theorem dX6_set_13 : decode cX6_set 13 = .ok (.aload_n 0, 1) := by decide +kernel
theorem dX6_set_14 : decode cX6_set 14 = .ok (.getfield 15, 3) := by decide +kernel
theorem dX6_set_17 : decode cX6_set 17 = .ok (.arraylength, 1) := by decide +kernel
theorem dX6_set_18 : decode cX6_set 18 = .ok (.if_icmp .ge 10, 3) := by decide +kernel
theorem dX6_set_21 : decode cX6_set 21 = .ok (.aload_n 0, 1) := by decide +kernel
theorem dX6_set_22 : decode cX6_set 22 = .ok (.getfield 15, 3) := by decide +kernel
theorem dX6_set_25 : decode cX6_set 25 = .ok (.iload_n 1, 1) := by decide +kernel
theorem dX6_set_26 : decode cX6_set 26 = .ok (.iload_n 2, 1) := by decide +kernel
theorem dX6_set_27 : decode cX6_set 27 = .ok (.iastore, 1) := by decide +kernel
theorem dX6_set_28 : decode cX6_set 28 = .ok (.return_, 1) := by decide +kernel
theorem dX6_add_0 : decode cX6_add 0 = .ok (.aload_n 0, 1) := by decide +kernel
theorem dX6_add_1 : decode cX6_add 1 = .ok (.getfield 21, 3) := by decide +kernel
theorem dX6_add_4 : decode cX6_add 4 = .ok (.ifCond .lt 35, 3) := by decide +kernel
theorem dX6_add_7 : decode cX6_add 7 = .ok (.aload_n 0, 1) := by decide +kernel
theorem dX6_add_8 : decode cX6_add 8 = .ok (.getfield 21, 3) := by decide +kernel
theorem dX6_add_11 : decode cX6_add 11 = .ok (.aload_n 0, 1) := by decide +kernel
theorem dX6_add_12 : decode cX6_add 12 = .ok (.getfield 15, 3) := by decide +kernel
theorem dX6_add_15 : decode cX6_add 15 = .ok (.arraylength, 1) := by decide +kernel
theorem dX6_add_16 : decode cX6_add 16 = .ok (.if_icmp .ge 23, 3) := by decide +kernel
theorem dX6_add_19 : decode cX6_add 19 = .ok (.aload_n 0, 1) := by decide +kernel
theorem dX6_add_20 : decode cX6_add 20 = .ok (.getfield 15, 3) := by decide +kernel
theorem dX6_add_23 : decode cX6_add 23 = .ok (.aload_n 0, 1) := by decide +kernel
theorem dX6_add_24 : decode cX6_add 24 = .ok (.getfield 21, 3) := by decide +kernel
theorem dX6_add_27 : decode cX6_add 27 = .ok (.iload_n 1, 1) := by decide +kernel
theorem dX6_add_28 : decode cX6_add 28 = .ok (.iastore, 1) := by decide +kernel
theorem dX6_add_29 : decode cX6_add 29 = .ok (.aload_n 0, 1) := by decide +kernel
theorem dX6_add_30 : decode cX6_add 30 = .ok (.dup, 1) := by decide +kernel
theorem dX6_add_31 : decode cX6_add 31 = .ok (.getfield 21, 3) := by decide +kernel
theorem dX6_add_34 : decode cX6_add 34 = .ok (.iconst 1, 1) := by decide +kernel
theorem dX6_add_35 : decode cX6_add 35 = .ok (.iadd, 1) := by decide +kernel
theorem dX6_add_36 : decode cX6_add 36 = .ok (.putfield 21, 3) := by decide +kernel
theorem dX6_add_39 : decode cX6_add 39 = .ok (.return_, 1) := by decide +kernel
theorem dX6_removeAt_0 : decode cX6_removeAt 0 = .ok (.iload_n 1, 1) := by decide +kernel
theorem dX6_removeAt_1 : decode cX6_removeAt 1 = .ok (.ifCond .lt 11, 3) := by decide +kernel
theorem dX6_removeAt_4 : decode cX6_removeAt 4 = .ok (.iload_n 1, 1) := by decide +kernel
theorem dX6_removeAt_5 : decode cX6_removeAt 5 = .ok (.aload_n 0, 1) := by decide +kernel
theorem dX6_removeAt_6 : decode cX6_removeAt 6 = .ok (.getfield 21, 3) := by decide +kernel
theorem dX6_removeAt_9 : decode cX6_removeAt 9 = .ok (.if_icmp .lt 4, 3) := by decide +kernel
theorem dX6_removeAt_12 : decode cX6_removeAt 12 = .ok (.return_, 1) := by decide +kernel
theorem dX6_removeAt_13 : decode cX6_removeAt 13 = .ok (.iload_n 1, 1) := by decide +kernel
theorem dX6_removeAt_14 : decode cX6_removeAt 14 = .ok (.istore_n 2, 1) := by decide +kernel
theorem dX6_removeAt_15 : decode cX6_removeAt 15 = .ok (.iload_n 2, 1) := by decide +kernel
theorem dX6_removeAt_16 : decode cX6_removeAt 16 = .ok (.iconst 1, 1) := by decide +kernel
theorem dX6_removeAt_17 : decode cX6_removeAt 17 = .ok (.iadd, 1) := by decide +kernel
theorem dX6_removeAt_18 : decode cX6_removeAt 18 = .ok (.aload_n 0, 1) := by decide +kernel
theorem dX6_removeAt_19 : decode cX6_removeAt 19 = .ok (.getfield 21, 3) := by decide +kernel
theorem dX6_removeAt_22 : decode cX6_removeAt 22 = .ok (.if_icmp .ge 34, 3) := by decide +kernel
theorem dX6_removeAt_25 : decode cX6_removeAt 25 = .ok (.iload_n 2, 1) := by decide +kernel
theorem dX6_removeAt_26 : decode cX6_removeAt 26 = .ok (.iconst 1, 1) := by decide +kernel
theorem dX6_removeAt_27 : decode cX6_removeAt 27 = .ok (.iadd, 1) := by decide +kernel
theorem dX6_removeAt_28 : decode cX6_removeAt 28 = .ok (.aload_n 0, 1) := by decide +kernel
theorem dX6_removeAt_29 : decode cX6_removeAt 29 = .ok (.getfield 15, 3) := by decide +kernel
theorem dX6_removeAt_32 : decode cX6_removeAt 32 = .ok (.arraylength, 1) := by decide +kernel
theorem dX6_removeAt_33 : decode cX6_removeAt 33 = .ok (.if_icmp .ge 23, 3) := by decide +kernel
theorem dX6_removeAt_36 : decode cX6_removeAt 36 = .ok (.aload_n 0, 1) := by decide +kernel
theorem dX6_removeAt_37 : decode cX6_removeAt 37 = .ok (.getfield 15, 3) := by decide +kernel
theorem dX6_removeAt_40 : decode cX6_removeAt 40 = .ok (.iload_n 2, 1) := by decide +kernel
theorem dX6_removeAt_41 : decode cX6_removeAt 41 = .ok (.aload_n 0, 1) := by decide +kernel
theorem dX6_removeAt_42 : decode cX6_removeAt 42 = .ok (.getfield 15, 3) := by decide +kernel
theorem dX6_removeAt_45 : decode cX6_removeAt 45 = .ok (.iload_n 2, 1) := by decide +kernel
theorem dX6_removeAt_46 : decode cX6_removeAt 46 = .ok (.iconst 1, 1) := by decide +kernel
theorem dX6_removeAt_47 : decode cX6_removeAt 47 = .ok (.iadd, 1) := by decide +kernel
theorem dX6_removeAt_48 : decode cX6_removeAt 48 = .ok (.iaload, 1) := by decide +kernel
theorem dX6_removeAt_49 : decode cX6_removeAt 49 = .ok (.iastore, 1) := by decide +kernel
theorem dX6_removeAt_50 : decode cX6_removeAt 50 = .ok (.iinc 2 1, 3) := by decide +kernel
theorem dX6_removeAt_53 : decode cX6_removeAt 53 = .ok (.goto (-38), 3) := by decide +kernel
theorem dX6_removeAt_56 : decode cX6_removeAt 56 = .ok (.aload_n 0, 1) := by decide +kernel
theorem dX6_removeAt_57 : decode cX6_removeAt 57 = .ok (.dup, 1) := by decide +kernel
theorem dX6_removeAt_58 : decode cX6_removeAt 58 = .ok (.getfield 21, 3) := by decide +kernel
theorem dX6_removeAt_61 : decode cX6_removeAt 61 = .ok (.iconst 1, 1) := by decide +kernel
theorem dX6_removeAt_62 : decode cX6_removeAt 62 = .ok (.isub, 1) := by decide +kernel
theorem dX6_removeAt_63 : decode cX6_removeAt 63 = .ok (.putfield 21, 3) := by decide +kernel
theorem dX6_removeAt_66 : decode cX6_removeAt 66 = .ok (.return_, 1) := by decide +kernel
theorem dX7_init_0 : decode cX7_init 0 = .ok (.aload_n 0, 1) := by decide +kernel
theorem dX7_init_1 : decode cX7_init 1 = .ok (.invokespecial 3, 3) := by decide +kernel
theorem dX7_init_4 : decode cX7_init 4 = .ok (.aload_n 0, 1) := by decide +kernel
theorem dX7_init_5 : decode cX7_init 5 = .ok (.aload_n 1, 1) := by decide +kernel
theorem dX7_init_6 : decode cX7_init 6 = .ok (.putfield 9, 3) := by decide +kernel
theorem dX7_init_9 : decode cX7_init 9 = .ok (.aload_n 0, 1) := by decide +kernel
theorem dX7_init_10 : decode cX7_init 10 = .ok (.aload_n 2, 1) := by decide +kernel
theorem dX7_init_11 : decode cX7_init 11 = .ok (.putfield 15, 3) := by decide +kernel
theorem dX7_init_14 : decode cX7_init 14 = .ok (.aload_n 0, 1) := by decide +kernel
theorem dX7_init_15 : decode cX7_init 15 = .ok (.aload_n 3, 1) := by decide +kernel
theorem dX7_init_16 : decode cX7_init 16 = .ok (.putfield 19, 3) := by decide +kernel
theorem dX7_init_19 : decode cX7_init 19 = .ok (.aload_n 0, 1) := by decide +kernel
theorem dX7_init_20 : decode cX7_init 20 = .ok (.iconst 0, 1) := by decide +kernel
theorem dX7_init_21 : decode cX7_init 21 = .ok (.aload_n 1, 1) := by decide +kernel
theorem dX7_init_22 : decode cX7_init 22 = .ok (.getfield 23, 3) := by decide +kernel
theorem dX7_init_25 : decode cX7_init 25 = .ok (.invokestatic 29, 3) := by decide +kernel
theorem dX7_init_28 : decode cX7_init 28 = .ok (.newarray .long, 2) := by decide +kernel
theorem dX7_init_30 : decode cX7_init 30 = .ok (.putfield 35, 3) := by decide +kernel
theorem dX7_init_33 : decode cX7_init 33 = .ok (.aload_n 0, 1) := by decide +kernel
theorem dX7_init_34 : decode cX7_init 34 = .ok (.new 39, 3) := by decide +kernel
theorem dX7_init_37 : decode cX7_init 37 = .ok (.dup, 1) := by decide +kernel
theorem dX7_init_38 : decode cX7_init 38 = .ok (.iload 4, 2) := by decide +kernel
theorem dX7_init_40 : decode cX7_init 40 = .ok (.invokespecial 41, 3) := by decide +kernel
theorem dX7_init_43 : decode cX7_init 43 = .ok (.putfield 44, 3) := by decide +kernel
theorem dX7_init_46 : decode cX7_init 46 = .ok (.aload_n 0, 1) := by decide +kernel
theorem dX7_init_47 : decode cX7_init 47 = .ok (.new 39, 3) := by decide +kernel
theorem dX7_init_50 : decode cX7_init 50 = .ok (.dup, 1) := by decide +kernel
theorem dX7_init_51 : decode cX7_init 51 = .ok (.iload 4, 2) := by decide +kernel
theorem dX7_init_53 : decode cX7_init 53 = .ok (.invokespecial 41, 3) := by decide +kernel
theorem dX7_init_56 : decode cX7_init 56 = .ok (.putfield 48, 3) := by decide +kernel
theorem dX7_init_59 : decode cX7_init 59 = .ok (.return_, 1) := by decide +kernel
theorem dX7_beginStep_0 : decode cX7_beginStep 0 = .ok (.aload_n 0, 1) := by decide +kernel
theorem dX7_beginStep_1 : decode cX7_beginStep 1 = .ok (.iload_n 1, 1) := by decide +kernel
theorem dX7_beginStep_2 : decode cX7_beginStep 2 = .ok (.ifCond .eq 7, 3) := by decide +kernel
theorem dX7_beginStep_5 : decode cX7_beginStep 5 = .ok (.iconst 1, 1) := by decide +kernel
theorem dX7_beginStep_6 : decode cX7_beginStep 6 = .ok (.goto 4, 3) := by decide +kernel
theorem dX7_beginStep_9 : decode cX7_beginStep 9 = .ok (.iconst 0, 1) := by decide +kernel
theorem dX7_beginStep_10 : decode cX7_beginStep 10 = .ok (.putfield 51, 3) := by decide +kernel
theorem dX7_beginStep_13 : decode cX7_beginStep 13 = .ok (.aload_n 0, 1) := by decide +kernel
theorem dX7_beginStep_14 : decode cX7_beginStep 14 = .ok (.iload_n 1, 1) := by decide +kernel
theorem dX7_beginStep_15 : decode cX7_beginStep 15 = .ok (.iconst 2, 1) := by decide +kernel
theorem dX7_beginStep_16 : decode cX7_beginStep 16 = .ok (.if_icmp .ne 17, 3) := by decide +kernel
theorem dX7_beginStep_19 : decode cX7_beginStep 19 = .ok (.aload_n 0, 1) := by decide +kernel
theorem dX7_beginStep_20 : decode cX7_beginStep 20 = .ok (.getfield 15, 3) := by decide +kernel
theorem dX7_beginStep_23 : decode cX7_beginStep 23 = .ok (.invokevirtual 55, 3) := by decide +kernel
theorem dX7_beginStep_26 : decode cX7_beginStep 26 = .ok (.ifCond .eq 7, 3) := by decide +kernel
theorem dX7_beginStep_29 : decode cX7_beginStep 29 = .ok (.iconst 1, 1) := by decide +kernel
theorem dX7_beginStep_30 : decode cX7_beginStep 30 = .ok (.goto 4, 3) := by decide +kernel
theorem dX7_beginStep_33 : decode cX7_beginStep 33 = .ok (.iconst 0, 1) := by decide +kernel
theorem dX7_beginStep_34 : decode cX7_beginStep 34 = .ok (.putfield 61, 3) := by decide +kernel
theorem dX7_beginStep_37 : decode cX7_beginStep 37 = .ok (.aload_n 0, 1) := by decide +kernel
theorem dX7_beginStep_38 : decode cX7_beginStep 38 = .ok (.getfield 44, 3) := by decide +kernel
theorem dX7_beginStep_41 : decode cX7_beginStep 41 = .ok (.invokevirtual 64, 3) := by decide +kernel
theorem dX7_beginStep_44 : decode cX7_beginStep 44 = .ok (.aload_n 0, 1) := by decide +kernel
theorem dX7_beginStep_45 : decode cX7_beginStep 45 = .ok (.getfield 48, 3) := by decide +kernel
theorem dX7_beginStep_48 : decode cX7_beginStep 48 = .ok (.invokevirtual 64, 3) := by decide +kernel
theorem dX7_beginStep_51 : decode cX7_beginStep 51 = .ok (.aload_n 0, 1) := by decide +kernel
theorem dX7_beginStep_52 : decode cX7_beginStep 52 = .ok (.invokevirtual 67, 3) := by decide +kernel
theorem dX7_beginStep_55 : decode cX7_beginStep 55 = .ok (.return_, 1) := by decide +kernel
theorem dX7_undoStep_0 : decode cX7_undoStep 0 = .ok (.iconst 0, 1) := by decide +kernel
theorem dX7_undoStep_1 : decode cX7_undoStep 1 = .ok (.istore_n 1, 1) := by decide +kernel
theorem dX7_undoStep_2 : decode cX7_undoStep 2 = .ok (.iload_n 1, 1) := by decide +kernel
theorem dX7_undoStep_3 : decode cX7_undoStep 3 = .ok (.aload_n 0, 1) := by decide +kernel
theorem dX7_undoStep_4 : decode cX7_undoStep 4 = .ok (.getfield 44, 3) := by decide +kernel
theorem dX7_undoStep_7 : decode cX7_undoStep 7 = .ok (.invokevirtual 70, 3) := by decide +kernel
theorem dX7_undoStep_10 : decode cX7_undoStep 10 = .ok (.if_icmp .ge 24, 3) := by decide +kernel
theorem dX7_undoStep_13 : decode cX7_undoStep 13 = .ok (.aload_n 0, 1) := by decide +kernel
theorem dX7_undoStep_14 : decode cX7_undoStep 14 = .ok (.getfield 9, 3) := by decide +kernel
theorem dX7_undoStep_17 : decode cX7_undoStep 17 = .ok (.aload_n 0, 1) := by decide +kernel
theorem dX7_undoStep_18 : decode cX7_undoStep 18 = .ok (.getfield 44, 3) := by decide +kernel
theorem dX7_undoStep_21 : decode cX7_undoStep 21 = .ok (.iload_n 1, 1) := by decide +kernel
theorem dX7_undoStep_22 : decode cX7_undoStep 22 = .ok (.invokevirtual 73, 3) := by decide +kernel
theorem dX7_undoStep_25 : decode cX7_undoStep 25 = .ok (.invokevirtual 77, 3) := by decide +kernel
theorem dX7_undoStep_28 : decode cX7_undoStep 28 = .ok (.iinc 1 1, 3) := by decide +kernel
theorem dX7_undoStep_31 : decode cX7_undoStep 31 = .ok (.goto (-29), 3) := by decide +kernel
theorem dX7_undoStep_34 : decode cX7_undoStep 34 = .ok (.aload_n 0, 1) := by decide +kernel
theorem dX7_undoStep_35 : decode cX7_undoStep 35 = .ok (.getfield 44, 3) := by decide +kernel
theorem dX7_undoStep_38 : decode cX7_undoStep 38 = .ok (.invokevirtual 64, 3) := by decide +kernel
theorem dX7_undoStep_41 : decode cX7_undoStep 41 = .ok (.aload_n 0, 1) := by decide +kernel
theorem dX7_undoStep_42 : decode cX7_undoStep 42 = .ok (.getfield 48, 3) := by decide +kernel
theorem dX7_undoStep_45 : decode cX7_undoStep 45 = .ok (.invokevirtual 64, 3) := by decide +kernel
theorem dX7_undoStep_48 : decode cX7_undoStep 48 = .ok (.return_, 1) := by decide +kernel
theorem dX7_addNewRuns_0 : decode cX7_addNewRuns 0 = .ok (.iconst 0, 1) := by decide +kernel
theorem dX7_addNewRuns_1 : decode cX7_addNewRuns 1 = .ok (.istore_n 2, 1) := by decide +kernel
theorem dX7_addNewRuns_2 : decode cX7_addNewRuns 2 = .ok (.iload_n 2, 1) := by decide +kernel
theorem dX7_addNewRuns_3 : decode cX7_addNewRuns 3 = .ok (.aload_n 0, 1) := by decide +kernel
theorem dX7_addNewRuns_4 : decode cX7_addNewRuns 4 = .ok (.getfield 48, 3) := by decide +kernel
theorem dX7_addNewRuns_7 : decode cX7_addNewRuns 7 = .ok (.invokevirtual 70, 3) := by decide +kernel
theorem dX7_addNewRuns_10 : decode cX7_addNewRuns 10 = .ok (.if_icmp .ge 21, 3) := by decide +kernel
theorem dX7_addNewRuns_13 : decode cX7_addNewRuns 13 = .ok (.aload_n 1, 1) := by decide +kernel
theorem dX7_addNewRuns_14 : decode cX7_addNewRuns 14 = .ok (.aload_n 0, 1) := by decide +kernel
theorem dX7_addNewRuns_15 : decode cX7_addNewRuns 15 = .ok (.getfield 48, 3) := by decide +kernel
theorem dX7_addNewRuns_18 : decode cX7_addNewRuns 18 = .ok (.iload_n 2, 1) := by decide +kernel
theorem dX7_addNewRuns_19 : decode cX7_addNewRuns 19 = .ok (.invokevirtual 73, 3) := by decide +kernel
theorem dX7_addNewRuns_22 : decode cX7_addNewRuns 22 = .ok (.invokevirtual 80, 3) := by decide +kernel
theorem dX7_addNewRuns_25 : decode cX7_addNewRuns 25 = .ok (.iinc 2 1, 3) := by decide +kernel
theorem dX7_addNewRuns_28 : decode cX7_addNewRuns 28 = .ok (.goto (-26), 3) := by decide +kernel
theorem dX7_addNewRuns_31 : decode cX7_addNewRuns 31 = .ok (.return_, 1) := by decide +kernel
theorem dX7_goOut_0 : decode cX7_goOut 0 = .ok (.aload_n 0, 1) := by decide +kernel
theorem dX7_goOut_1 : decode cX7_goOut 1 = .ok (.getfield 51, 3) := by decide +kernel
theorem dX7_goOut_4 : decode cX7_goOut 4 = .ok (.ifCond .eq 57, 3) := by decide +kernel
theorem dX7_goOut_7 : decode cX7_goOut 7 = .ok (.aload_n 0, 1) := by decide +kernel
theorem dX7_goOut_8 : decode cX7_goOut 8 = .ok (.getfield 83, 3) := by decide +kernel
theorem dX7_goOut_11 : decode cX7_goOut 11 = .ok (.iconst (-1), 1) := by decide +kernel
theorem dX7_goOut_12 : decode cX7_goOut 12 = .ok (.if_icmp .eq 49, 3) := by decide +kernel
theorem dX7_goOut_15 : decode cX7_goOut 15 = .ok (.aload_n 0, 1) := by decide +kernel
theorem dX7_goOut_16 : decode cX7_goOut 16 = .ok (.getfield 15, 3) := by decide +kernel
theorem dX7_goOut_19 : decode cX7_goOut 19 = .ok (.aload_n 0, 1) := by decide +kernel
theorem dX7_goOut_20 : decode cX7_goOut 20 = .ok (.getfield 83, 3) := by decide +kernel
theorem dX7_goOut_23 : decode cX7_goOut 23 = .ok (.iload_n 1, 1) := by decide +kernel
theorem dX7_goOut_24 : decode cX7_goOut 24 = .ok (.invokevirtual 86, 3) := by decide +kernel
theorem dX7_goOut_27 : decode cX7_goOut 27 = .ok (.ifCond .eq 34, 3) := by decide +kernel
theorem dX7_goOut_30 : decode cX7_goOut 30 = .ok (.aload_n 0, 1) := by decide +kernel
theorem dX7_goOut_31 : decode cX7_goOut 31 = .ok (.getfield 61, 3) := by decide +kernel
theorem dX7_goOut_34 : decode cX7_goOut 34 = .ok (.ifCond .eq 25, 3) := by decide +kernel
theorem dX7_goOut_37 : decode cX7_goOut 37 = .ok (.aload_n 0, 1) := by decide +kernel
theorem dX7_goOut_38 : decode cX7_goOut 38 = .ok (.aload_n 0, 1) := by decide +kernel
theorem dX7_goOut_39 : decode cX7_goOut 39 = .ok (.getfield 9, 3) := by decide +kernel
theorem dX7_goOut_42 : decode cX7_goOut 42 = .ok (.iload_n 1, 1) := by decide +kernel
theorem dX7_goOut_43 : decode cX7_goOut 43 = .ok (.aload_n 0, 1) := by decide +kernel
theorem dX7_goOut_44 : decode cX7_goOut 44 = .ok (.getfield 15, 3) := by decide +kernel
theorem dX7_goOut_47 : decode cX7_goOut 47 = .ok (.getfield 90, 3) := by decide +kernel
theorem dX7_goOut_50 : decode cX7_goOut 50 = .ok (.iadd, 1) := by decide +kernel
theorem dX7_goOut_51 : decode cX7_goOut 51 = .ok (.iconst 1, 1) := by decide +kernel
theorem dX7_goOut_52 : decode cX7_goOut 52 = .ok (.isub, 1) := by decide +kernel
theorem dX7_goOut_53 : decode cX7_goOut 53 = .ok (.invokevirtual 93, 3) := by decide +kernel
theorem dX7_goOut_56 : decode cX7_goOut 56 = .ok (.invokevirtual 97, 3) := by decide +kernel
theorem dX7_goOut_59 : decode cX7_goOut 59 = .ok (.iconst 1, 1) := by decide +kernel
theorem dX7_goOut_60 : decode cX7_goOut 60 = .ok (.ireturn, 1) := by decide +kernel
theorem dX7_goOut_61 : decode cX7_goOut 61 = .ok (.aload_n 0, 1) := by decide +kernel
theorem dX7_goOut_62 : decode cX7_goOut 62 = .ok (.invokevirtual 101, 3) := by decide +kernel
theorem dX7_goOut_65 : decode cX7_goOut 65 = .ok (.ifCond .ne 5, 3) := by decide +kernel
theorem dX7_goOut_68 : decode cX7_goOut 68 = .ok (.iconst 0, 1) := by decide +kernel
theorem dX7_goOut_69 : decode cX7_goOut 69 = .ok (.ireturn, 1) := by decide +kernel
theorem dX7_goOut_70 : decode cX7_goOut 70 = .ok (.aload_n 0, 1) := by decide +kernel
theorem dX7_goOut_71 : decode cX7_goOut 71 = .ok (.getfield 104, 3) := by decide +kernel
theorem dX7_goOut_74 : decode cX7_goOut 74 = .ok (.aload_n 0, 1) := by decide +kernel
theorem dX7_goOut_75 : decode cX7_goOut 75 = .ok (.getfield 15, 3) := by decide +kernel
theorem dX7_goOut_78 : decode cX7_goOut 78 = .ok (.getfield 107, 3) := by decide +kernel
theorem dX7_goOut_81 : decode cX7_goOut 81 = .ok (.imul, 1) := by decide +kernel
theorem dX7_goOut_82 : decode cX7_goOut 82 = .ok (.istore_n 2, 1) := by decide +kernel
theorem dX7_goOut_83 : decode cX7_goOut 83 = .ok (.iconst 0, 1) := by decide +kernel
theorem dX7_goOut_84 : decode cX7_goOut 84 = .ok (.istore_n 3, 1) := by decide +kernel
theorem dX7_goOut_85 : decode cX7_goOut 85 = .ok (.iload_n 3, 1) := by decide +kernel
theorem dX7_goOut_86 : decode cX7_goOut 86 = .ok (.aload_n 0, 1) := by decide +kernel
theorem dX7_goOut_87 : decode cX7_goOut 87 = .ok (.getfield 15, 3) := by decide +kernel
theorem dX7_goOut_90 : decode cX7_goOut 90 = .ok (.getfield 107, 3) := by decide +kernel
theorem dX7_goOut_93 : decode cX7_goOut 93 = .ok (.if_icmp .ge 42, 3) := by decide +kernel
theorem dX7_goOut_96 : decode cX7_goOut 96 = .ok (.iload_n 2, 1) := by decide +kernel
theorem dX7_goOut_97 : decode cX7_goOut 97 = .ok (.ifCond .lt 38, 3) := by decide +kernel
theorem dX7_goOut_100 : decode cX7_goOut 100 = .ok (.iload_n 2, 1) := by decide +kernel
theorem dX7_goOut_101 : decode cX7_goOut 101 = .ok (.iload_n 3, 1) := by decide +kernel
theorem dX7_goOut_102 : decode cX7_goOut 102 = .ok (.iadd, 1) := by decide +kernel
theorem dX7_goOut_103 : decode cX7_goOut 103 = .ok (.aload_n 0, 1) := by decide +kernel
theorem dX7_goOut_104 : decode cX7_goOut 104 = .ok (.getfield 35, 3) := by decide +kernel
theorem dX7_goOut_107 : decode cX7_goOut 107 = .ok (.arraylength, 1) := by decide +kernel
theorem dX7_goOut_108 : decode cX7_goOut 108 = .ok (.if_icmp .ge 27, 3) := by decide +kernel
theorem dX7_goOut_111 : decode cX7_goOut 111 = .ok (.aload_n 0, 1) := by decide +kernel
theorem dX7_goOut_112 : decode cX7_goOut 112 = .ok (.getfield 35, 3) := by decide +kernel
theorem dX7_goOut_115 : decode cX7_goOut 115 = .ok (.iload_n 2, 1) := by decide +kernel
theorem dX7_goOut_116 : decode cX7_goOut 116 = .ok (.iload_n 3, 1) := by decide +kernel
theorem dX7_goOut_117 : decode cX7_goOut 117 = .ok (.iadd, 1) := by decide +kernel
theorem dX7_goOut_118 : decode cX7_goOut 118 = .ok (.aload_n 0, 1) := by decide +kernel
theorem dX7_goOut_119 : decode cX7_goOut 119 = .ok (.getfield 9, 3) := by decide +kernel
theorem dX7_goOut_122 : decode cX7_goOut 122 = .ok (.iload_n 1, 1) := by decide +kernel
theorem dX7_goOut_123 : decode cX7_goOut 123 = .ok (.iload_n 3, 1) := by decide +kernel
theorem dX7_goOut_124 : decode cX7_goOut 124 = .ok (.iadd, 1) := by decide +kernel
theorem dX7_goOut_125 : decode cX7_goOut 125 = .ok (.invokevirtual 93, 3) := by decide +kernel
theorem dX7_goOut_128 : decode cX7_goOut 128 = .ok (.lastore, 1) := by decide +kernel
theorem dX7_goOut_129 : decode cX7_goOut 129 = .ok (.iinc 3 1, 3) := by decide +kernel
theorem dX7_goOut_132 : decode cX7_goOut 132 = .ok (.goto (-47), 3) := by decide +kernel
theorem dX7_goOut_135 : decode cX7_goOut 135 = .ok (.aload_n 0, 1) := by decide +kernel
theorem dX7_goOut_136 : decode cX7_goOut 136 = .ok (.iload_n 1, 1) := by decide +kernel
theorem dX7_goOut_137 : decode cX7_goOut 137 = .ok (.putfield 83, 3) := by decide +kernel
theorem dX7_goOut_140 : decode cX7_goOut 140 = .ok (.aload_n 0, 1) := by decide +kernel
theorem dX7_goOut_141 : decode cX7_goOut 141 = .ok (.getfield 51, 3) := by decide +kernel
theorem dX7_goOut_144 : decode cX7_goOut 144 = .ok (.ifCond .ne 10, 3) := by decide +kernel
theorem dX7_goOut_147 : decode cX7_goOut 147 = .ok (.aload_n 0, 1) := by decide +kernel
theorem dX7_goOut_148 : decode cX7_goOut 148 = .ok (.invokevirtual 101, 3) := by decide +kernel
theorem dX7_goOut_151 : decode cX7_goOut 151 = .ok (.ifCond .eq 7, 3) := by decide +kernel
theorem dX7_goOut_154 : decode cX7_goOut 154 = .ok (.iconst 1, 1) := by decide +kernel
theorem dX7_goOut_155 : decode cX7_goOut 155 = .ok (.goto 4, 3) := by decide +kernel
theorem dX7_goOut_158 : decode cX7_goOut 158 = .ok (.iconst 0, 1) := by decide +kernel
theorem dX7_goOut_159 : decode cX7_goOut 159 = .ok (.ireturn, 1) := by decide +kernel
theorem dX7_endRun_0 : decode cX7_endRun 0 = .ok (.aload_n 0, 1) := by decide +kernel
theorem dX7_endRun_1 : decode cX7_endRun 1 = .ok (.invokevirtual 101, 3) := by decide +kernel
theorem dX7_endRun_4 : decode cX7_endRun 4 = .ok (.ifCond .eq 17, 3) := by decide +kernel
theorem dX7_endRun_7 : decode cX7_endRun 7 = .ok (.aload_n 0, 1) := by decide +kernel
theorem dX7_endRun_8 : decode cX7_endRun 8 = .ok (.getfield 104, 3) := by decide +kernel
theorem dX7_endRun_11 : decode cX7_endRun 11 = .ok (.ifCond .le 12, 3) := by decide +kernel
theorem dX7_endRun_14 : decode cX7_endRun 14 = .ok (.aload_n 0, 1) := by decide +kernel
theorem dX7_endRun_15 : decode cX7_endRun 15 = .ok (.invokevirtual 110, 3) := by decide +kernel
theorem dX7_endRun_18 : decode cX7_endRun 18 = .ok (.ifCond .ne 5, 3) := by decide +kernel
theorem dX7_endRun_21 : decode cX7_endRun 21 = .ok (.iconst 0, 1) := by decide +kernel
theorem dX7_endRun_22 : decode cX7_endRun 22 = .ok (.ireturn, 1) := by decide +kernel
theorem dX7_endRun_23 : decode cX7_endRun 23 = .ok (.aload_n 0, 1) := by decide +kernel
theorem dX7_endRun_24 : decode cX7_endRun 24 = .ok (.getfield 113, 3) := by decide +kernel
theorem dX7_endRun_27 : decode cX7_endRun 27 = .ok (.iconst (-1), 1) := by decide +kernel
theorem dX7_endRun_28 : decode cX7_endRun 28 = .ok (.if_icmp .eq 29, 3) := by decide +kernel
theorem dX7_endRun_31 : decode cX7_endRun 31 = .ok (.aload_n 0, 1) := by decide +kernel
theorem dX7_endRun_32 : decode cX7_endRun 32 = .ok (.getfield 19, 3) := by decide +kernel
theorem dX7_endRun_35 : decode cX7_endRun 35 = .ok (.aload_n 0, 1) := by decide +kernel
theorem dX7_endRun_36 : decode cX7_endRun 36 = .ok (.getfield 113, 3) := by decide +kernel
theorem dX7_endRun_39 : decode cX7_endRun 39 = .ok (.aload_n 0, 1) := by decide +kernel
theorem dX7_endRun_40 : decode cX7_endRun 40 = .ok (.getfield 116, 3) := by decide +kernel
theorem dX7_endRun_43 : decode cX7_endRun 43 = .ok (.invokevirtual 119, 3) := by decide +kernel
theorem dX7_endRun_46 : decode cX7_endRun 46 = .ok (.aload_n 0, 1) := by decide +kernel
theorem dX7_endRun_47 : decode cX7_endRun 47 = .ok (.getfield 48, 3) := by decide +kernel
theorem dX7_endRun_50 : decode cX7_endRun 50 = .ok (.aload_n 0, 1) := by decide +kernel
theorem dX7_endRun_51 : decode cX7_endRun 51 = .ok (.getfield 113, 3) := by decide +kernel
theorem dX7_endRun_54 : decode cX7_endRun 54 = .ok (.invokevirtual 80, 3) := by decide +kernel
theorem dX7_endRun_57 : decode cX7_endRun 57 = .ok (.aload_n 0, 1) := by decide +kernel
theorem dX7_endRun_58 : decode cX7_endRun 58 = .ok (.invokevirtual 67, 3) := by decide +kernel
theorem dX7_endRun_61 : decode cX7_endRun 61 = .ok (.iconst 1, 1) := by decide +kernel
theorem dX7_endRun_62 : decode cX7_endRun 62 = .ok (.ireturn, 1) := by decide +kernel
theorem dX7_beginRun_0 : decode cX7_beginRun 0 = .ok (.aload_n 0, 1) := by decide +kernel
theorem dX7_beginRun_1 : decode cX7_beginRun 1 = .ok (.iconst 0, 1) := by decide +kernel
theorem dX7_beginRun_2 : decode cX7_beginRun 2 = .ok (.putfield 104, 3) := by decide +kernel
theorem dX7_beginRun_5 : decode cX7_beginRun 5 = .ok (.aload_n 0, 1) := by decide +kernel
theorem dX7_beginRun_6 : decode cX7_beginRun 6 = .ok (.iconst (-1), 1) := by decide +kernel
theorem dX7_beginRun_7 : decode cX7_beginRun 7 = .ok (.putfield 83, 3) := by decide +kernel
theorem dX7_beginRun_10 : decode cX7_beginRun 10 = .ok (.aload_n 0, 1) := by decide +kernel
theorem dX7_beginRun_11 : decode cX7_beginRun 11 = .ok (.iconst (-1), 1) := by decide +kernel
theorem dX7_beginRun_12 : decode cX7_beginRun 12 = .ok (.putfield 113, 3) := by decide +kernel
theorem dX7_beginRun_15 : decode cX7_beginRun 15 = .ok (.aload_n 0, 1) := by decide +kernel
theorem dX7_beginRun_16 : decode cX7_beginRun 16 = .ok (.iconst (-1), 1) := by decide +kernel
theorem dX7_beginRun_17 : decode cX7_beginRun 17 = .ok (.putfield 125, 3) := by decide +kernel
theorem dX7_beginRun_20 : decode cX7_beginRun 20 = .ok (.aload_n 0, 1) := by decide +kernel
theorem dX7_beginRun_21 : decode cX7_beginRun 21 = .ok (.iconst 0, 1) := by decide +kernel
theorem dX7_beginRun_22 : decode cX7_beginRun 22 = .ok (.putfield 116, 3) := by decide +kernel
theorem dX7_beginRun_25 : decode cX7_beginRun 25 = .ok (.return_, 1) := by decide +kernel
theorem dX7_addToWaiting_0 : decode cX7_addToWaiting 0 = .ok (.aload_n 0, 1) := by decide +kernel
theorem dX7_addToWaiting_1 : decode cX7_addToWaiting 1 = .ok (.getfield 104, 3) := by decide +kernel
theorem dX7_addToWaiting_4 : decode cX7_addToWaiting 4 = .ok (.aload_n 0, 1) := by decide +kernel
theorem dX7_addToWaiting_5 : decode cX7_addToWaiting 5 = .ok (.getfield 15, 3) := by decide +kernel
theorem dX7_addToWaiting_8 : decode cX7_addToWaiting 8 = .ok (.getfield 107, 3) := by decide +kernel
theorem dX7_addToWaiting_11 : decode cX7_addToWaiting 11 = .ok (.imul, 1) := by decide +kernel
theorem dX7_addToWaiting_12 : decode cX7_addToWaiting 12 = .ok (.aload_n 0, 1) := by decide +kernel
theorem dX7_addToWaiting_13 : decode cX7_addToWaiting 13 = .ok (.getfield 15, 3) := by decide +kernel
theorem dX7_addToWaiting_16 : decode cX7_addToWaiting 16 = .ok (.getfield 90, 3) := by decide +kernel
theorem dX7_addToWaiting_19 : decode cX7_addToWaiting 19 = .ok (.iadd, 1) := by decide +kernel
theorem dX7_addToWaiting_20 : decode cX7_addToWaiting 20 = .ok (.iconst 1, 1) := by decide +kernel
theorem dX7_addToWaiting_21 : decode cX7_addToWaiting 21 = .ok (.isub, 1) := by decide +kernel
theorem dX7_addToWaiting_22 : decode cX7_addToWaiting 22 = .ok (.istore_n 3, 1) := by decide +kernel
theorem dX7_addToWaiting_23 : decode cX7_addToWaiting 23 = .ok (.iload_n 3, 1) := by decide +kernel
theorem dX7_addToWaiting_24 : decode cX7_addToWaiting 24 = .ok (.ifCond .lt 22, 3) := by decide +kernel
theorem dX7_addToWaiting_27 : decode cX7_addToWaiting 27 = .ok (.iload_n 3, 1) := by decide +kernel
theorem dX7_addToWaiting_28 : decode cX7_addToWaiting 28 = .ok (.aload_n 0, 1) := by decide +kernel
theorem dX7_addToWaiting_29 : decode cX7_addToWaiting 29 = .ok (.getfield 35, 3) := by decide +kernel
theorem dX7_addToWaiting_32 : decode cX7_addToWaiting 32 = .ok (.arraylength, 1) := by decide +kernel
theorem dX7_addToWaiting_33 : decode cX7_addToWaiting 33 = .ok (.if_icmp .ge 13, 3) := by decide +kernel
theorem dX7_addToWaiting_36 : decode cX7_addToWaiting 36 = .ok (.aload_n 0, 1) := by decide +kernel
theorem dX7_addToWaiting_37 : decode cX7_addToWaiting 37 = .ok (.getfield 35, 3) := by decide +kernel
theorem dX7_addToWaiting_40 : decode cX7_addToWaiting 40 = .ok (.iload_n 3, 1) := by decide +kernel
theorem dX7_addToWaiting_41 : decode cX7_addToWaiting 41 = .ok (.dup2, 1) := by decide +kernel
theorem dX7_addToWaiting_42 : decode cX7_addToWaiting 42 = .ok (.laload, 1) := by decide +kernel
theorem dX7_addToWaiting_43 : decode cX7_addToWaiting 43 = .ok (.lload_n 1, 1) := by decide +kernel
theorem dX7_addToWaiting_44 : decode cX7_addToWaiting 44 = .ok (.ladd, 1) := by decide +kernel
theorem dX7_addToWaiting_45 : decode cX7_addToWaiting 45 = .ok (.lastore, 1) := by decide +kernel
theorem dX7_addToWaiting_46 : decode cX7_addToWaiting 46 = .ok (.return_, 1) := by decide +kernel
theorem dX7_settleWaiting_0 : decode cX7_settleWaiting 0 = .ok (.aload_n 0, 1) := by decide +kernel
theorem dX7_settleWaiting_1 : decode cX7_settleWaiting 1 = .ok (.getfield 83, 3) := by decide +kernel
theorem dX7_settleWaiting_4 : decode cX7_settleWaiting 4 = .ok (.iconst (-1), 1) := by decide +kernel
theorem dX7_settleWaiting_5 : decode cX7_settleWaiting 5 = .ok (.if_icmp .ne 5, 3) := by decide +kernel
theorem dX7_settleWaiting_8 : decode cX7_settleWaiting 8 = .ok (.iconst 1, 1) := by decide +kernel
theorem dX7_settleWaiting_9 : decode cX7_settleWaiting 9 = .ok (.ireturn, 1) := by decide +kernel
theorem dX7_settleWaiting_10 : decode cX7_settleWaiting 10 = .ok (.aload_n 0, 1) := by decide +kernel
theorem dX7_settleWaiting_11 : decode cX7_settleWaiting 11 = .ok (.iconst (-1), 1) := by decide +kernel
theorem dX7_settleWaiting_12 : decode cX7_settleWaiting 12 = .ok (.putfield 83, 3) := by decide +kernel
theorem dX7_settleWaiting_15 : decode cX7_settleWaiting 15 = .ok (.aload_n 0, 1) := by decide +kernel
theorem dX7_settleWaiting_16 : decode cX7_settleWaiting 16 = .ok (.dup, 1) := by decide +kernel
theorem dX7_settleWaiting_17 : decode cX7_settleWaiting 17 = .ok (.getfield 104, 3) := by decide +kernel
theorem dX7_settleWaiting_20 : decode cX7_settleWaiting 20 = .ok (.iconst 1, 1) := by decide +kernel
theorem dX7_settleWaiting_21 : decode cX7_settleWaiting 21 = .ok (.iadd, 1) := by decide +kernel
theorem dX7_settleWaiting_22 : decode cX7_settleWaiting 22 = .ok (.putfield 104, 3) := by decide +kernel
theorem dX7_settleWaiting_25 : decode cX7_settleWaiting 25 = .ok (.aload_n 0, 1) := by decide +kernel
theorem dX7_settleWaiting_26 : decode cX7_settleWaiting 26 = .ok (.dup, 1) := by decide +kernel
theorem dX7_settleWaiting_27 : decode cX7_settleWaiting 27 = .ok (.getfield 116, 3) := by decide +kernel
theorem dX7_settleWaiting_30 : decode cX7_settleWaiting 30 = .ok (.iconst 1, 1) := by decide +kernel
theorem dX7_settleWaiting_31 : decode cX7_settleWaiting 31 = .ok (.iadd, 1) := by decide +kernel
theorem dX7_settleWaiting_32 : decode cX7_settleWaiting 32 = .ok (.putfield 116, 3) := by decide +kernel
theorem dX7_settleWaiting_35 : decode cX7_settleWaiting 35 = .ok (.aload_n 0, 1) := by decide +kernel
theorem dX7_settleWaiting_36 : decode cX7_settleWaiting 36 = .ok (.getfield 104, 3) := by decide +kernel
theorem dX7_settleWaiting_39 : decode cX7_settleWaiting 39 = .ok (.aload_n 0, 1) := by decide +kernel
theorem dX7_settleWaiting_40 : decode cX7_settleWaiting 40 = .ok (.getfield 15, 3) := by decide +kernel
theorem dX7_settleWaiting_43 : decode cX7_settleWaiting 43 = .ok (.getfield 128, 3) := by decide +kernel
theorem dX7_settleWaiting_46 : decode cX7_settleWaiting 46 = .ok (.if_icmp .lt 10, 3) := by decide +kernel
theorem dX7_settleWaiting_49 : decode cX7_settleWaiting 49 = .ok (.aload_n 0, 1) := by decide +kernel
theorem dX7_settleWaiting_50 : decode cX7_settleWaiting 50 = .ok (.invokevirtual 110, 3) := by decide +kernel
theorem dX7_settleWaiting_53 : decode cX7_settleWaiting 53 = .ok (.ifCond .eq 7, 3) := by decide +kernel
theorem dX7_settleWaiting_56 : decode cX7_settleWaiting 56 = .ok (.iconst 1, 1) := by decide +kernel
theorem dX7_settleWaiting_57 : decode cX7_settleWaiting 57 = .ok (.goto 4, 3) := by decide +kernel
theorem dX7_settleWaiting_60 : decode cX7_settleWaiting 60 = .ok (.iconst 0, 1) := by decide +kernel
theorem dX7_settleWaiting_61 : decode cX7_settleWaiting 61 = .ok (.ireturn, 1) := by decide +kernel
theorem dX7_writePage_0 : decode cX7_writePage 0 = .ok (.aload_n 0, 1) := by decide +kernel
theorem dX7_writePage_1 : decode cX7_writePage 1 = .ok (.getfield 9, 3) := by decide +kernel
theorem dX7_writePage_4 : decode cX7_writePage 4 = .ok (.aload_n 0, 1) := by decide +kernel
theorem dX7_writePage_5 : decode cX7_writePage 5 = .ok (.getfield 35, 3) := by decide +kernel
theorem dX7_writePage_8 : decode cX7_writePage 8 = .ok (.aload_n 0, 1) := by decide +kernel
theorem dX7_writePage_9 : decode cX7_writePage 9 = .ok (.getfield 104, 3) := by decide +kernel
theorem dX7_writePage_12 : decode cX7_writePage 12 = .ok (.aload_n 0, 1) := by decide +kernel
theorem dX7_writePage_13 : decode cX7_writePage 13 = .ok (.getfield 15, 3) := by decide +kernel
theorem dX7_writePage_16 : decode cX7_writePage 16 = .ok (.getfield 107, 3) := by decide +kernel
theorem dX7_writePage_19 : decode cX7_writePage 19 = .ok (.imul, 1) := by decide +kernel
theorem dX7_writePage_20 : decode cX7_writePage 20 = .ok (.invokevirtual 131, 3) := by decide +kernel
theorem dX7_writePage_23 : decode cX7_writePage 23 = .ok (.istore_n 1, 1) := by decide +kernel
theorem dX7_writePage_24 : decode cX7_writePage 24 = .ok (.iload_n 1, 1) := by decide +kernel
theorem dX7_writePage_25 : decode cX7_writePage 25 = .ok (.iconst (-1), 1) := by decide +kernel
theorem dX7_writePage_26 : decode cX7_writePage 26 = .ok (.if_icmp .ne 5, 3) := by decide +kernel
theorem dX7_writePage_29 : decode cX7_writePage 29 = .ok (.iconst 0, 1) := by decide +kernel
theorem dX7_writePage_30 : decode cX7_writePage 30 = .ok (.ireturn, 1) := by decide +kernel
theorem dX7_writePage_31 : decode cX7_writePage 31 = .ok (.aload_n 0, 1) := by decide +kernel
theorem dX7_writePage_32 : decode cX7_writePage 32 = .ok (.getfield 44, 3) := by decide +kernel
theorem dX7_writePage_35 : decode cX7_writePage 35 = .ok (.iload_n 1, 1) := by decide +kernel
theorem dX7_writePage_36 : decode cX7_writePage 36 = .ok (.invokevirtual 80, 3) := by decide +kernel
theorem dX7_writePage_39 : decode cX7_writePage 39 = .ok (.aload_n 0, 1) := by decide +kernel
theorem dX7_writePage_40 : decode cX7_writePage 40 = .ok (.getfield 19, 3) := by decide +kernel
theorem dX7_writePage_43 : decode cX7_writePage 43 = .ok (.aload_n 0, 1) := by decide +kernel
theorem dX7_writePage_44 : decode cX7_writePage 44 = .ok (.getfield 125, 3) := by decide +kernel
theorem dX7_writePage_47 : decode cX7_writePage 47 = .ok (.iload_n 1, 1) := by decide +kernel
theorem dX7_writePage_48 : decode cX7_writePage 48 = .ok (.invokevirtual 135, 3) := by decide +kernel
theorem dX7_writePage_51 : decode cX7_writePage 51 = .ok (.aload_n 0, 1) := by decide +kernel
theorem dX7_writePage_52 : decode cX7_writePage 52 = .ok (.aload_n 0, 1) := by decide +kernel
theorem dX7_writePage_53 : decode cX7_writePage 53 = .ok (.getfield 113, 3) := by decide +kernel
theorem dX7_writePage_56 : decode cX7_writePage 56 = .ok (.iconst (-1), 1) := by decide +kernel
theorem dX7_writePage_57 : decode cX7_writePage 57 = .ok (.if_icmp .ne 7, 3) := by decide +kernel
theorem dX7_writePage_60 : decode cX7_writePage 60 = .ok (.iload_n 1, 1) := by decide +kernel
theorem dX7_writePage_61 : decode cX7_writePage 61 = .ok (.goto 7, 3) := by decide +kernel
theorem dX7_writePage_64 : decode cX7_writePage 64 = .ok (.aload_n 0, 1) := by decide +kernel
theorem dX7_writePage_65 : decode cX7_writePage 65 = .ok (.getfield 113, 3) := by decide +kernel
theorem dX7_writePage_68 : decode cX7_writePage 68 = .ok (.putfield 113, 3) := by decide +kernel
theorem dX7_writePage_71 : decode cX7_writePage 71 = .ok (.aload_n 0, 1) := by decide +kernel
theorem dX7_writePage_72 : decode cX7_writePage 72 = .ok (.iload_n 1, 1) := by decide +kernel
theorem dX7_writePage_73 : decode cX7_writePage 73 = .ok (.putfield 125, 3) := by decide +kernel
theorem dX7_writePage_76 : decode cX7_writePage 76 = .ok (.aload_n 0, 1) := by decide +kernel
theorem dX7_writePage_77 : decode cX7_writePage 77 = .ok (.iconst 0, 1) := by decide +kernel
theorem dX7_writePage_78 : decode cX7_writePage 78 = .ok (.putfield 104, 3) := by decide +kernel
theorem dX7_writePage_81 : decode cX7_writePage 81 = .ok (.iconst 1, 1) := by decide +kernel
theorem dX7_writePage_82 : decode cX7_writePage 82 = .ok (.ireturn, 1) := by decide +kernel
theorem dX8_init_0 : decode cX8_init 0 = .ok (.aload_n 0, 1) := by decide +kernel
theorem dX8_init_1 : decode cX8_init 1 = .ok (.invokespecial 3, 3) := by decide +kernel
theorem dX8_init_4 : decode cX8_init 4 = .ok (.aload_n 0, 1) := by decide +kernel
theorem dX8_init_5 : decode cX8_init 5 = .ok (.bipush 7, 2) := by decide +kernel
theorem dX8_init_7 : decode cX8_init 7 = .ok (.anewarray 9, 3) := by decide +kernel
theorem dX8_init_10 : decode cX8_init 10 = .ok (.putfield 11, 3) := by decide +kernel
theorem dX8_init_13 : decode cX8_init 13 = .ok (.iconst 0, 1) := by decide +kernel
theorem dX8_init_14 : decode cX8_init 14 = .ok (.istore_n 2, 1) := by decide +kernel
theorem dX8_init_15 : decode cX8_init 15 = .ok (.iload_n 2, 1) := by decide +kernel
theorem dX8_init_16 : decode cX8_init 16 = .ok (.aload_n 0, 1) := by decide +kernel
theorem dX8_init_17 : decode cX8_init 17 = .ok (.getfield 11, 3) := by decide +kernel
theorem dX8_init_20 : decode cX8_init 20 = .ok (.arraylength, 1) := by decide +kernel
theorem dX8_init_21 : decode cX8_init 21 = .ok (.if_icmp .ge 23, 3) := by decide +kernel
theorem dX8_init_24 : decode cX8_init 24 = .ok (.aload_n 0, 1) := by decide +kernel
theorem dX8_init_25 : decode cX8_init 25 = .ok (.getfield 11, 3) := by decide +kernel
theorem dX8_init_28 : decode cX8_init 28 = .ok (.iload_n 2, 1) := by decide +kernel
theorem dX8_init_29 : decode cX8_init 29 = .ok (.new 9, 3) := by decide +kernel
theorem dX8_init_32 : decode cX8_init 32 = .ok (.dup, 1) := by decide +kernel
theorem dX8_init_33 : decode cX8_init 33 = .ok (.iload_n 1, 1) := by decide +kernel
theorem dX8_init_34 : decode cX8_init 34 = .ok (.invokespecial 17, 3) := by decide +kernel
theorem dX8_init_37 : decode cX8_init 37 = .ok (.aastore, 1) := by decide +kernel
theorem dX8_init_38 : decode cX8_init 38 = .ok (.iinc 2 1, 3) := by decide +kernel
theorem dX8_init_41 : decode cX8_init 41 = .ok (.goto (-26), 3) := by decide +kernel
theorem dX8_init_44 : decode cX8_init 44 = .ok (.aload_n 0, 1) := by decide +kernel
theorem dX8_init_45 : decode cX8_init 45 = .ok (.bipush 7, 2) := by decide +kernel
theorem dX8_init_47 : decode cX8_init 47 = .ok (.newarray .int, 2) := by decide +kernel
theorem dX8_init_49 : decode cX8_init 49 = .ok (.putfield 20, 3) := by decide +kernel
theorem dX8_init_52 : decode cX8_init 52 = .ok (.aload_n 0, 1) := by decide +kernel
theorem dX8_init_53 : decode cX8_init 53 = .ok (.bipush 7, 2) := by decide +kernel
theorem dX8_init_55 : decode cX8_init 55 = .ok (.newarray .int, 2) := by decide +kernel
theorem dX8_init_57 : decode cX8_init 57 = .ok (.putfield 24, 3) := by decide +kernel
theorem dX8_init_60 : decode cX8_init 60 = .ok (.return_, 1) := by decide +kernel
theorem dX8_lay_0 : decode cX8_lay 0 = .ok (.aload_n 0, 1) := by decide +kernel
theorem dX8_lay_1 : decode cX8_lay 1 = .ok (.iload_n 2, 1) := by decide +kernel
theorem dX8_lay_2 : decode cX8_lay 2 = .ok (.iconst 3, 1) := by decide +kernel
theorem dX8_lay_3 : decode cX8_lay 3 = .ok (.bipush 6, 2) := by decide +kernel
theorem dX8_lay_5 : decode cX8_lay 5 = .ok (.invokestatic 27, 3) := by decide +kernel
theorem dX8_lay_8 : decode cX8_lay 8 = .ok (.putfield 31, 3) := by decide +kernel
theorem dX8_lay_11 : decode cX8_lay 11 = .ok (.aload_n 0, 1) := by decide +kernel
theorem dX8_lay_12 : decode cX8_lay 12 = .ok (.iconst 1, 1) := by decide +kernel
theorem dX8_lay_13 : decode cX8_lay 13 = .ok (.putfield 35, 3) := by decide +kernel
theorem dX8_lay_16 : decode cX8_lay 16 = .ok (.iconst 0, 1) := by decide +kernel
theorem dX8_lay_17 : decode cX8_lay 17 = .ok (.istore_n 3, 1) := by decide +kernel
theorem dX8_lay_18 : decode cX8_lay 18 = .ok (.iload_n 3, 1) := by decide +kernel
theorem dX8_lay_19 : decode cX8_lay 19 = .ok (.bipush 6, 2) := by decide +kernel
theorem dX8_lay_21 : decode cX8_lay 21 = .ok (.if_icmp .gt 53, 3) := by decide +kernel
theorem dX8_lay_24 : decode cX8_lay 24 = .ok (.aload_n 0, 1) := by decide +kernel
theorem dX8_lay_25 : decode cX8_lay 25 = .ok (.getfield 11, 3) := by decide +kernel
theorem dX8_lay_28 : decode cX8_lay 28 = .ok (.iload_n 3, 1) := by decide +kernel
theorem dX8_lay_29 : decode cX8_lay 29 = .ok (.aaload, 1) := by decide +kernel
theorem dX8_lay_30 : decode cX8_lay 30 = .ok (.invokevirtual 38, 3) := by decide +kernel
theorem dX8_lay_33 : decode cX8_lay 33 = .ok (.aload_n 0, 1) := by decide +kernel
theorem dX8_lay_34 : decode cX8_lay 34 = .ok (.getfield 20, 3) := by decide +kernel
theorem dX8_lay_37 : decode cX8_lay 37 = .ok (.iload_n 3, 1) := by decide +kernel
theorem dX8_lay_38 : decode cX8_lay 38 = .ok (.iload_n 3, 1) := by decide +kernel
theorem dX8_lay_39 : decode cX8_lay 39 = .ok (.ifCond .le 15, 3) := by decide +kernel
theorem dX8_lay_42 : decode cX8_lay 42 = .ok (.iload_n 3, 1) := by decide +kernel
theorem dX8_lay_43 : decode cX8_lay 43 = .ok (.aload_n 0, 1) := by decide +kernel
theorem dX8_lay_44 : decode cX8_lay 44 = .ok (.getfield 31, 3) := by decide +kernel
theorem dX8_lay_47 : decode cX8_lay 47 = .ok (.if_icmp .ge 7, 3) := by decide +kernel
theorem dX8_lay_50 : decode cX8_lay 50 = .ok (.iconst 1, 1) := by decide +kernel
theorem dX8_lay_51 : decode cX8_lay 51 = .ok (.goto 4, 3) := by decide +kernel
theorem dX8_lay_54 : decode cX8_lay 54 = .ok (.iconst 0, 1) := by decide +kernel
theorem dX8_lay_55 : decode cX8_lay 55 = .ok (.iastore, 1) := by decide +kernel
theorem dX8_lay_56 : decode cX8_lay 56 = .ok (.aload_n 0, 1) := by decide +kernel
theorem dX8_lay_57 : decode cX8_lay 57 = .ok (.getfield 24, 3) := by decide +kernel
theorem dX8_lay_60 : decode cX8_lay 60 = .ok (.iload_n 3, 1) := by decide +kernel
theorem dX8_lay_61 : decode cX8_lay 61 = .ok (.aload_n 0, 1) := by decide +kernel
theorem dX8_lay_62 : decode cX8_lay 62 = .ok (.getfield 20, 3) := by decide +kernel
theorem dX8_lay_65 : decode cX8_lay 65 = .ok (.iload_n 3, 1) := by decide +kernel
theorem dX8_lay_66 : decode cX8_lay 66 = .ok (.iaload, 1) := by decide +kernel
theorem dX8_lay_67 : decode cX8_lay 67 = .ok (.iastore, 1) := by decide +kernel
theorem dX8_lay_68 : decode cX8_lay 68 = .ok (.iinc 3 1, 3) := by decide +kernel
theorem dX8_lay_71 : decode cX8_lay 71 = .ok (.goto (-53), 3) := by decide +kernel
theorem dX8_lay_74 : decode cX8_lay 74 = .ok (.iconst 1, 1) := by decide +kernel
theorem dX8_lay_75 : decode cX8_lay 75 = .ok (.istore_n 3, 1) := by decide +kernel
theorem dX8_lay_76 : decode cX8_lay 76 = .ok (.iconst 0, 1) := by decide +kernel
theorem dX8_lay_77 : decode cX8_lay 77 = .ok (.istore 4, 2) := by decide +kernel
theorem dX8_lay_79 : decode cX8_lay 79 = .ok (.iload 4, 2) := by decide +kernel
theorem dX8_lay_81 : decode cX8_lay 81 = .ok (.aload_n 1, 1) := by decide +kernel
theorem dX8_lay_82 : decode cX8_lay 82 = .ok (.invokevirtual 41, 3) := by decide +kernel
theorem dX8_lay_85 : decode cX8_lay 85 = .ok (.if_icmp .ge 61, 3) := by decide +kernel
theorem dX8_lay_88 : decode cX8_lay 88 = .ok (.iload_n 3, 1) := by decide +kernel
theorem dX8_lay_89 : decode cX8_lay 89 = .ok (.ifCond .le 57, 3) := by decide +kernel
theorem dX8_lay_92 : decode cX8_lay 92 = .ok (.iload_n 3, 1) := by decide +kernel
theorem dX8_lay_93 : decode cX8_lay 93 = .ok (.bipush 6, 2) := by decide +kernel
theorem dX8_lay_95 : decode cX8_lay 95 = .ok (.if_icmp .ge 51, 3) := by decide +kernel
theorem dX8_lay_98 : decode cX8_lay 98 = .ok (.aload_n 0, 1) := by decide +kernel
theorem dX8_lay_99 : decode cX8_lay 99 = .ok (.getfield 11, 3) := by decide +kernel
theorem dX8_lay_102 : decode cX8_lay 102 = .ok (.iload_n 3, 1) := by decide +kernel
theorem dX8_lay_103 : decode cX8_lay 103 = .ok (.aaload, 1) := by decide +kernel
theorem dX8_lay_104 : decode cX8_lay 104 = .ok (.aload_n 1, 1) := by decide +kernel
theorem dX8_lay_105 : decode cX8_lay 105 = .ok (.iload 4, 2) := by decide +kernel
theorem dX8_lay_107 : decode cX8_lay 107 = .ok (.invokevirtual 45, 3) := by decide +kernel
theorem dX8_lay_110 : decode cX8_lay 110 = .ok (.invokevirtual 49, 3) := by decide +kernel
theorem dX8_lay_113 : decode cX8_lay 113 = .ok (.aload_n 0, 1) := by decide +kernel
theorem dX8_lay_114 : decode cX8_lay 114 = .ok (.getfield 24, 3) := by decide +kernel
theorem dX8_lay_117 : decode cX8_lay 117 = .ok (.iload_n 3, 1) := by decide +kernel
theorem dX8_lay_118 : decode cX8_lay 118 = .ok (.dup2, 1) := by decide +kernel
theorem dX8_lay_119 : decode cX8_lay 119 = .ok (.iaload, 1) := by decide +kernel
theorem dX8_lay_120 : decode cX8_lay 120 = .ok (.iconst 1, 1) := by decide +kernel
theorem dX8_lay_121 : decode cX8_lay 121 = .ok (.isub, 1) := by decide +kernel
theorem dX8_lay_122 : decode cX8_lay 122 = .ok (.iastore, 1) := by decide +kernel
theorem dX8_lay_123 : decode cX8_lay 123 = .ok (.iload 4, 2) := by decide +kernel
theorem dX8_lay_125 : decode cX8_lay 125 = .ok (.iconst 1, 1) := by decide +kernel
theorem dX8_lay_126 : decode cX8_lay 126 = .ok (.iadd, 1) := by decide +kernel
theorem dX8_lay_127 : decode cX8_lay 127 = .ok (.aload_n 1, 1) := by decide +kernel
theorem dX8_lay_128 : decode cX8_lay 128 = .ok (.invokevirtual 41, 3) := by decide +kernel
theorem dX8_lay_131 : decode cX8_lay 131 = .ok (.if_icmp .ge 9, 3) := by decide +kernel
theorem dX8_lay_134 : decode cX8_lay 134 = .ok (.aload_n 0, 1) := by decide +kernel
theorem dX8_lay_135 : decode cX8_lay 135 = .ok (.iload_n 3, 1) := by decide +kernel
theorem dX8_lay_136 : decode cX8_lay 136 = .ok (.invokevirtual 52, 3) := by decide +kernel
theorem dX8_lay_139 : decode cX8_lay 139 = .ok (.istore_n 3, 1) := by decide +kernel
theorem dX8_lay_140 : decode cX8_lay 140 = .ok (.iinc 4 1, 3) := by decide +kernel
theorem dX8_lay_143 : decode cX8_lay 143 = .ok (.goto (-64), 3) := by decide +kernel
theorem dX8_lay_146 : decode cX8_lay 146 = .ok (.return_, 1) := by decide +kernel
theorem dX8_tapeBehind_0 : decode cX8_tapeBehind 0 = .ok (.iload_n 1, 1) := by decide +kernel
theorem dX8_tapeBehind_1 : decode cX8_tapeBehind 1 = .ok (.iconst 1, 1) := by decide +kernel
theorem dX8_tapeBehind_2 : decode cX8_tapeBehind 2 = .ok (.if_icmp .lt 9, 3) := by decide +kernel
theorem dX8_tapeBehind_5 : decode cX8_tapeBehind 5 = .ok (.iload_n 1, 1) := by decide +kernel
theorem dX8_tapeBehind_6 : decode cX8_tapeBehind 6 = .ok (.bipush 6, 2) := by decide +kernel
theorem dX8_tapeBehind_8 : decode cX8_tapeBehind 8 = .ok (.if_icmp .lt 5, 3) := by decide +kernel
theorem dX8_tapeBehind_11 : decode cX8_tapeBehind 11 = .ok (.iconst 1, 1) := by decide +kernel
theorem dX8_tapeBehind_12 : decode cX8_tapeBehind 12 = .ok (.ireturn, 1) := by decide +kernel
theorem dX8_tapeBehind_13 : decode cX8_tapeBehind 13 = .ok (.aload_n 0, 1) := by decide +kernel
theorem dX8_tapeBehind_14 : decode cX8_tapeBehind 14 = .ok (.getfield 24, 3) := by decide +kernel
theorem dX8_tapeBehind_17 : decode cX8_tapeBehind 17 = .ok (.iload_n 1, 1) := by decide +kernel
theorem dX8_tapeBehind_18 : decode cX8_tapeBehind 18 = .ok (.iaload, 1) := by decide +kernel
theorem dX8_tapeBehind_19 : decode cX8_tapeBehind 19 = .ok (.aload_n 0, 1) := by decide +kernel
theorem dX8_tapeBehind_20 : decode cX8_tapeBehind 20 = .ok (.getfield 24, 3) := by decide +kernel
theorem dX8_tapeBehind_23 : decode cX8_tapeBehind 23 = .ok (.iload_n 1, 1) := by decide +kernel
theorem dX8_tapeBehind_24 : decode cX8_tapeBehind 24 = .ok (.iconst 1, 1) := by decide +kernel
theorem dX8_tapeBehind_25 : decode cX8_tapeBehind 25 = .ok (.iadd, 1) := by decide +kernel
theorem dX8_tapeBehind_26 : decode cX8_tapeBehind 26 = .ok (.iaload, 1) := by decide +kernel
theorem dX8_tapeBehind_27 : decode cX8_tapeBehind 27 = .ok (.if_icmp .ge 7, 3) := by decide +kernel
theorem dX8_tapeBehind_30 : decode cX8_tapeBehind 30 = .ok (.iload_n 1, 1) := by decide +kernel
theorem dX8_tapeBehind_31 : decode cX8_tapeBehind 31 = .ok (.iconst 1, 1) := by decide +kernel
theorem dX8_tapeBehind_32 : decode cX8_tapeBehind 32 = .ok (.iadd, 1) := by decide +kernel
theorem dX8_tapeBehind_33 : decode cX8_tapeBehind 33 = .ok (.ireturn, 1) := by decide +kernel
theorem dX8_tapeBehind_34 : decode cX8_tapeBehind 34 = .ok (.aload_n 0, 1) := by decide +kernel
theorem dX8_tapeBehind_35 : decode cX8_tapeBehind 35 = .ok (.getfield 24, 3) := by decide +kernel
theorem dX8_tapeBehind_38 : decode cX8_tapeBehind 38 = .ok (.iload_n 1, 1) := by decide +kernel
theorem dX8_tapeBehind_39 : decode cX8_tapeBehind 39 = .ok (.iaload, 1) := by decide +kernel
theorem dX8_tapeBehind_40 : decode cX8_tapeBehind 40 = .ok (.ifCond .ne 7, 3) := by decide +kernel
theorem dX8_tapeBehind_43 : decode cX8_tapeBehind 43 = .ok (.aload_n 0, 1) := by decide +kernel
theorem dX8_tapeBehind_44 : decode cX8_tapeBehind 44 = .ok (.invokevirtual 55, 3) := by decide +kernel
theorem dX8_tapeBehind_47 : decode cX8_tapeBehind 47 = .ok (.iconst 1, 1) := by decide +kernel
theorem dX8_tapeBehind_48 : decode cX8_tapeBehind 48 = .ok (.ireturn, 1) := by decide +kernel
theorem dX8_goUp_0 : decode cX8_goUp 0 = .ok (.aload_n 0, 1) := by decide +kernel
theorem dX8_goUp_1 : decode cX8_goUp 1 = .ok (.dup, 1) := by decide +kernel
theorem dX8_goUp_2 : decode cX8_goUp 2 = .ok (.getfield 35, 3) := by decide +kernel
theorem dX8_goUp_5 : decode cX8_goUp 5 = .ok (.iconst 1, 1) := by decide +kernel
theorem dX8_goUp_6 : decode cX8_goUp 6 = .ok (.iadd, 1) := by decide +kernel
theorem dX8_goUp_7 : decode cX8_goUp 7 = .ok (.putfield 35, 3) := by decide +kernel
theorem dX8_goUp_10 : decode cX8_goUp 10 = .ok (.aload_n 0, 1) := by decide +kernel
theorem dX8_goUp_11 : decode cX8_goUp 11 = .ok (.getfield 20, 3) := by decide +kernel
theorem dX8_goUp_14 : decode cX8_goUp 14 = .ok (.iconst 1, 1) := by decide +kernel
theorem dX8_goUp_15 : decode cX8_goUp 15 = .ok (.iaload, 1) := by decide +kernel
theorem dX8_goUp_16 : decode cX8_goUp 16 = .ok (.istore_n 1, 1) := by decide +kernel
theorem dX8_goUp_17 : decode cX8_goUp 17 = .ok (.iconst 1, 1) := by decide +kernel
theorem dX8_goUp_18 : decode cX8_goUp 18 = .ok (.istore_n 2, 1) := by decide +kernel
theorem dX8_goUp_19 : decode cX8_goUp 19 = .ok (.iload_n 2, 1) := by decide +kernel
theorem dX8_goUp_20 : decode cX8_goUp 20 = .ok (.aload_n 0, 1) := by decide +kernel
theorem dX8_goUp_21 : decode cX8_goUp 21 = .ok (.getfield 31, 3) := by decide +kernel
theorem dX8_goUp_24 : decode cX8_goUp 24 = .ok (.if_icmp .ge 54, 3) := by decide +kernel
theorem dX8_goUp_27 : decode cX8_goUp 27 = .ok (.iload_n 2, 1) := by decide +kernel
theorem dX8_goUp_28 : decode cX8_goUp 28 = .ok (.bipush 6, 2) := by decide +kernel
theorem dX8_goUp_30 : decode cX8_goUp 30 = .ok (.if_icmp .ge 48, 3) := by decide +kernel
theorem dX8_goUp_33 : decode cX8_goUp 33 = .ok (.aload_n 0, 1) := by decide +kernel
theorem dX8_goUp_34 : decode cX8_goUp 34 = .ok (.getfield 24, 3) := by decide +kernel
theorem dX8_goUp_37 : decode cX8_goUp 37 = .ok (.iload_n 2, 1) := by decide +kernel
theorem dX8_goUp_38 : decode cX8_goUp 38 = .ok (.iload_n 1, 1) := by decide +kernel
theorem dX8_goUp_39 : decode cX8_goUp 39 = .ok (.aload_n 0, 1) := by decide +kernel
theorem dX8_goUp_40 : decode cX8_goUp 40 = .ok (.getfield 20, 3) := by decide +kernel
theorem dX8_goUp_43 : decode cX8_goUp 43 = .ok (.iload_n 2, 1) := by decide +kernel
theorem dX8_goUp_44 : decode cX8_goUp 44 = .ok (.iconst 1, 1) := by decide +kernel
theorem dX8_goUp_45 : decode cX8_goUp 45 = .ok (.iadd, 1) := by decide +kernel
theorem dX8_goUp_46 : decode cX8_goUp 46 = .ok (.iaload, 1) := by decide +kernel
theorem dX8_goUp_47 : decode cX8_goUp 47 = .ok (.iadd, 1) := by decide +kernel
theorem dX8_goUp_48 : decode cX8_goUp 48 = .ok (.aload_n 0, 1) := by decide +kernel
theorem dX8_goUp_49 : decode cX8_goUp 49 = .ok (.getfield 20, 3) := by decide +kernel
theorem dX8_goUp_52 : decode cX8_goUp 52 = .ok (.iload_n 2, 1) := by decide +kernel
theorem dX8_goUp_53 : decode cX8_goUp 53 = .ok (.iaload, 1) := by decide +kernel
theorem dX8_goUp_54 : decode cX8_goUp 54 = .ok (.isub, 1) := by decide +kernel
theorem dX8_goUp_55 : decode cX8_goUp 55 = .ok (.iastore, 1) := by decide +kernel
theorem dX8_goUp_56 : decode cX8_goUp 56 = .ok (.aload_n 0, 1) := by decide +kernel
theorem dX8_goUp_57 : decode cX8_goUp 57 = .ok (.getfield 20, 3) := by decide +kernel
theorem dX8_goUp_60 : decode cX8_goUp 60 = .ok (.iload_n 2, 1) := by decide +kernel
theorem dX8_goUp_61 : decode cX8_goUp 61 = .ok (.iload_n 1, 1) := by decide +kernel
theorem dX8_goUp_62 : decode cX8_goUp 62 = .ok (.aload_n 0, 1) := by decide +kernel
theorem dX8_goUp_63 : decode cX8_goUp 63 = .ok (.getfield 20, 3) := by decide +kernel
theorem dX8_goUp_66 : decode cX8_goUp 66 = .ok (.iload_n 2, 1) := by decide +kernel
theorem dX8_goUp_67 : decode cX8_goUp 67 = .ok (.iconst 1, 1) := by decide +kernel
theorem dX8_goUp_68 : decode cX8_goUp 68 = .ok (.iadd, 1) := by decide +kernel
theorem dX8_goUp_69 : decode cX8_goUp 69 = .ok (.iaload, 1) := by decide +kernel
theorem dX8_goUp_70 : decode cX8_goUp 70 = .ok (.iadd, 1) := by decide +kernel
theorem dX8_goUp_71 : decode cX8_goUp 71 = .ok (.iastore, 1) := by decide +kernel
theorem dX8_goUp_72 : decode cX8_goUp 72 = .ok (.iinc 2 1, 3) := by decide +kernel
theorem dX8_goUp_75 : decode cX8_goUp 75 = .ok (.goto (-56), 3) := by decide +kernel
theorem dX8_goUp_78 : decode cX8_goUp 78 = .ok (.return_, 1) := by decide +kernel
theorem dX8_stepsOfLevel_0 : decode cX8_stepsOfLevel 0 = .ok (.aload_n 0, 1) := by decide +kernel
theorem dX8_stepsOfLevel_1 : decode cX8_stepsOfLevel 1 = .ok (.getfield 31, 3) := by decide +kernel
theorem dX8_stepsOfLevel_4 : decode cX8_stepsOfLevel 4 = .ok (.ifCond .le 26, 3) := by decide +kernel
theorem dX8_stepsOfLevel_7 : decode cX8_stepsOfLevel 7 = .ok (.aload_n 0, 1) := by decide +kernel
theorem dX8_stepsOfLevel_8 : decode cX8_stepsOfLevel 8 = .ok (.getfield 31, 3) := by decide +kernel
theorem dX8_stepsOfLevel_11 : decode cX8_stepsOfLevel 11 = .ok (.bipush 6, 2) := by decide +kernel
theorem dX8_stepsOfLevel_13 : decode cX8_stepsOfLevel 13 = .ok (.if_icmp .gt 17, 3) := by decide +kernel
theorem dX8_stepsOfLevel_16 : decode cX8_stepsOfLevel 16 = .ok (.aload_n 0, 1) := by decide +kernel
theorem dX8_stepsOfLevel_17 : decode cX8_stepsOfLevel 17 = .ok (.getfield 20, 3) := by decide +kernel
theorem dX8_stepsOfLevel_20 : decode cX8_stepsOfLevel 20 = .ok (.aload_n 0, 1) := by decide +kernel
theorem dX8_stepsOfLevel_21 : decode cX8_stepsOfLevel 21 = .ok (.getfield 31, 3) := by decide +kernel
theorem dX8_stepsOfLevel_24 : decode cX8_stepsOfLevel 24 = .ok (.iconst 1, 1) := by decide +kernel
theorem dX8_stepsOfLevel_25 : decode cX8_stepsOfLevel 25 = .ok (.isub, 1) := by decide +kernel
theorem dX8_stepsOfLevel_26 : decode cX8_stepsOfLevel 26 = .ok (.iaload, 1) := by decide +kernel
theorem dX8_stepsOfLevel_27 : decode cX8_stepsOfLevel 27 = .ok (.goto 4, 3) := by decide +kernel
theorem dX8_stepsOfLevel_30 : decode cX8_stepsOfLevel 30 = .ok (.iconst 0, 1) := by decide +kernel
theorem dX8_stepsOfLevel_31 : decode cX8_stepsOfLevel 31 = .ok (.ireturn, 1) := by decide +kernel
theorem dX8_gatherFronts_0 : decode cX8_gatherFronts 0 = .ok (.aload_n 1, 1) := by decide +kernel
theorem dX8_gatherFronts_1 : decode cX8_gatherFronts 1 = .ok (.invokevirtual 38, 3) := by decide +kernel
theorem dX8_gatherFronts_4 : decode cX8_gatherFronts 4 = .ok (.iconst 1, 1) := by decide +kernel
theorem dX8_gatherFronts_5 : decode cX8_gatherFronts 5 = .ok (.istore_n 2, 1) := by decide +kernel
theorem dX8_gatherFronts_6 : decode cX8_gatherFronts 6 = .ok (.iload_n 2, 1) := by decide +kernel
theorem dX8_gatherFronts_7 : decode cX8_gatherFronts 7 = .ok (.aload_n 0, 1) := by decide +kernel
theorem dX8_gatherFronts_8 : decode cX8_gatherFronts 8 = .ok (.getfield 31, 3) := by decide +kernel
theorem dX8_gatherFronts_11 : decode cX8_gatherFronts 11 = .ok (.if_icmp .ge 38, 3) := by decide +kernel
theorem dX8_gatherFronts_14 : decode cX8_gatherFronts 14 = .ok (.iload_n 2, 1) := by decide +kernel
theorem dX8_gatherFronts_15 : decode cX8_gatherFronts 15 = .ok (.bipush 6, 2) := by decide +kernel
theorem dX8_gatherFronts_17 : decode cX8_gatherFronts 17 = .ok (.if_icmp .ge 32, 3) := by decide +kernel
theorem dX8_gatherFronts_20 : decode cX8_gatherFronts 20 = .ok (.aload_n 0, 1) := by decide +kernel
theorem dX8_gatherFronts_21 : decode cX8_gatherFronts 21 = .ok (.getfield 24, 3) := by decide +kernel
theorem dX8_gatherFronts_24 : decode cX8_gatherFronts 24 = .ok (.iload_n 2, 1) := by decide +kernel
theorem dX8_gatherFronts_25 : decode cX8_gatherFronts 25 = .ok (.iaload, 1) := by decide +kernel
theorem dX8_gatherFronts_26 : decode cX8_gatherFronts 26 = .ok (.ifCond .ne 17, 3) := by decide +kernel
theorem dX8_gatherFronts_29 : decode cX8_gatherFronts 29 = .ok (.aload_n 1, 1) := by decide +kernel
theorem dX8_gatherFronts_30 : decode cX8_gatherFronts 30 = .ok (.aload_n 0, 1) := by decide +kernel
theorem dX8_gatherFronts_31 : decode cX8_gatherFronts 31 = .ok (.getfield 11, 3) := by decide +kernel
theorem dX8_gatherFronts_34 : decode cX8_gatherFronts 34 = .ok (.iload_n 2, 1) := by decide +kernel
theorem dX8_gatherFronts_35 : decode cX8_gatherFronts 35 = .ok (.aaload, 1) := by decide +kernel
theorem dX8_gatherFronts_36 : decode cX8_gatherFronts 36 = .ok (.iconst 0, 1) := by decide +kernel
theorem dX8_gatherFronts_37 : decode cX8_gatherFronts 37 = .ok (.invokevirtual 45, 3) := by decide +kernel
theorem dX8_gatherFronts_40 : decode cX8_gatherFronts 40 = .ok (.invokevirtual 49, 3) := by decide +kernel
theorem dX8_gatherFronts_43 : decode cX8_gatherFronts 43 = .ok (.iinc 2 1, 3) := by decide +kernel
theorem dX8_gatherFronts_46 : decode cX8_gatherFronts 46 = .ok (.goto (-40), 3) := by decide +kernel
theorem dX8_gatherFronts_49 : decode cX8_gatherFronts 49 = .ok (.return_, 1) := by decide +kernel
theorem dX8_shift_0 : decode cX8_shift 0 = .ok (.iconst 1, 1) := by decide +kernel
theorem dX8_shift_1 : decode cX8_shift 1 = .ok (.istore_n 2, 1) := by decide +kernel
theorem dX8_shift_2 : decode cX8_shift 2 = .ok (.iload_n 2, 1) := by decide +kernel
theorem dX8_shift_3 : decode cX8_shift 3 = .ok (.aload_n 0, 1) := by decide +kernel
theorem dX8_shift_4 : decode cX8_shift 4 = .ok (.getfield 31, 3) := by decide +kernel
theorem dX8_shift_7 : decode cX8_shift 7 = .ok (.if_icmp .ge 47, 3) := by decide +kernel
theorem dX8_shift_10 : decode cX8_shift 10 = .ok (.iload_n 2, 1) := by decide +kernel
theorem dX8_shift_11 : decode cX8_shift 11 = .ok (.bipush 6, 2) := by decide +kernel
theorem dX8_shift_13 : decode cX8_shift 13 = .ok (.if_icmp .ge 41, 3) := by decide +kernel
theorem dX8_shift_16 : decode cX8_shift 16 = .ok (.aload_n 0, 1) := by decide +kernel
theorem dX8_shift_17 : decode cX8_shift 17 = .ok (.getfield 24, 3) := by decide +kernel
theorem dX8_shift_20 : decode cX8_shift 20 = .ok (.iload_n 2, 1) := by decide +kernel
theorem dX8_shift_21 : decode cX8_shift 21 = .ok (.iaload, 1) := by decide +kernel
theorem dX8_shift_22 : decode cX8_shift 22 = .ok (.ifCond .le 16, 3) := by decide +kernel
theorem dX8_shift_25 : decode cX8_shift 25 = .ok (.aload_n 0, 1) := by decide +kernel
theorem dX8_shift_26 : decode cX8_shift 26 = .ok (.getfield 24, 3) := by decide +kernel
theorem dX8_shift_29 : decode cX8_shift 29 = .ok (.iload_n 2, 1) := by decide +kernel
theorem dX8_shift_30 : decode cX8_shift 30 = .ok (.dup2, 1) := by decide +kernel
theorem dX8_shift_31 : decode cX8_shift 31 = .ok (.iaload, 1) := by decide +kernel
theorem dX8_shift_32 : decode cX8_shift 32 = .ok (.iconst 1, 1) := by decide +kernel
theorem dX8_shift_33 : decode cX8_shift 33 = .ok (.isub, 1) := by decide +kernel
theorem dX8_shift_34 : decode cX8_shift 34 = .ok (.iastore, 1) := by decide +kernel
theorem dX8_shift_35 : decode cX8_shift 35 = .ok (.goto 13, 3) := by decide +kernel
theorem dX8_shift_38 : decode cX8_shift 38 = .ok (.aload_n 0, 1) := by decide +kernel
theorem dX8_shift_39 : decode cX8_shift 39 = .ok (.getfield 11, 3) := by decide +kernel
theorem dX8_shift_42 : decode cX8_shift 42 = .ok (.iload_n 2, 1) := by decide +kernel
theorem dX8_shift_43 : decode cX8_shift 43 = .ok (.aaload, 1) := by decide +kernel
theorem dX8_shift_44 : decode cX8_shift 44 = .ok (.iconst 0, 1) := by decide +kernel
theorem dX8_shift_45 : decode cX8_shift 45 = .ok (.invokevirtual 58, 3) := by decide +kernel
theorem dX8_shift_48 : decode cX8_shift 48 = .ok (.iinc 2 1, 3) := by decide +kernel
theorem dX8_shift_51 : decode cX8_shift 51 = .ok (.goto (-49), 3) := by decide +kernel
theorem dX8_shift_54 : decode cX8_shift 54 = .ok (.aload_n 0, 1) := by decide +kernel
theorem dX8_shift_55 : decode cX8_shift 55 = .ok (.getfield 31, 3) := by decide +kernel
theorem dX8_shift_58 : decode cX8_shift 58 = .ok (.iconst 1, 1) := by decide +kernel
theorem dX8_shift_59 : decode cX8_shift 59 = .ok (.if_icmp .lt 12, 3) := by decide +kernel
theorem dX8_shift_62 : decode cX8_shift 62 = .ok (.aload_n 0, 1) := by decide +kernel
theorem dX8_shift_63 : decode cX8_shift 63 = .ok (.getfield 31, 3) := by decide +kernel
theorem dX8_shift_66 : decode cX8_shift 66 = .ok (.bipush 6, 2) := by decide +kernel
theorem dX8_shift_68 : decode cX8_shift 68 = .ok (.if_icmp .le 4, 3) := by decide +kernel
theorem dX8_shift_71 : decode cX8_shift 71 = .ok (.return_, 1) := by decide +kernel
theorem dX8_shift_72 : decode cX8_shift 72 = .ok (.iload_n 1, 1) := by decide +kernel
theorem dX8_shift_73 : decode cX8_shift 73 = .ok (.iconst (-1), 1) := by decide +kernel
theorem dX8_shift_74 : decode cX8_shift 74 = .ok (.if_icmp .ne 19, 3) := by decide +kernel
theorem dX8_shift_77 : decode cX8_shift 77 = .ok (.aload_n 0, 1) := by decide +kernel
theorem dX8_shift_78 : decode cX8_shift 78 = .ok (.getfield 24, 3) := by decide +kernel
theorem dX8_shift_81 : decode cX8_shift 81 = .ok (.aload_n 0, 1) := by decide +kernel
theorem dX8_shift_82 : decode cX8_shift 82 = .ok (.getfield 31, 3) := by decide +kernel
theorem dX8_shift_85 : decode cX8_shift 85 = .ok (.dup2, 1) := by decide +kernel
theorem dX8_shift_86 : decode cX8_shift 86 = .ok (.iaload, 1) := by decide +kernel
theorem dX8_shift_87 : decode cX8_shift 87 = .ok (.iconst 1, 1) := by decide +kernel
theorem dX8_shift_88 : decode cX8_shift 88 = .ok (.iadd, 1) := by decide +kernel
theorem dX8_shift_89 : decode cX8_shift 89 = .ok (.iastore, 1) := by decide +kernel
theorem dX8_shift_90 : decode cX8_shift 90 = .ok (.goto 16, 3) := by decide +kernel
theorem dX8_shift_93 : decode cX8_shift 93 = .ok (.aload_n 0, 1) := by decide +kernel
theorem dX8_shift_94 : decode cX8_shift 94 = .ok (.getfield 11, 3) := by decide +kernel
theorem dX8_shift_97 : decode cX8_shift 97 = .ok (.aload_n 0, 1) := by decide +kernel
theorem dX8_shift_98 : decode cX8_shift 98 = .ok (.getfield 31, 3) := by decide +kernel
theorem dX8_shift_101 : decode cX8_shift 101 = .ok (.aaload, 1) := by decide +kernel
theorem dX8_shift_102 : decode cX8_shift 102 = .ok (.iload_n 1, 1) := by decide +kernel
theorem dX8_shift_103 : decode cX8_shift 103 = .ok (.invokevirtual 49, 3) := by decide +kernel
theorem dX8_shift_106 : decode cX8_shift 106 = .ok (.return_, 1) := by decide +kernel
theorem dX8_goDown_0 : decode cX8_goDown 0 = .ok (.aload_n 0, 1) := by decide +kernel
theorem dX8_goDown_1 : decode cX8_goDown 1 = .ok (.getfield 31, 3) := by decide +kernel
theorem dX8_goDown_4 : decode cX8_goDown 4 = .ok (.iconst 2, 1) := by decide +kernel
theorem dX8_goDown_5 : decode cX8_goDown 5 = .ok (.if_icmp .lt 12, 3) := by decide +kernel
theorem dX8_goDown_8 : decode cX8_goDown 8 = .ok (.aload_n 0, 1) := by decide +kernel
theorem dX8_goDown_9 : decode cX8_goDown 9 = .ok (.getfield 31, 3) := by decide +kernel
theorem dX8_goDown_12 : decode cX8_goDown 12 = .ok (.bipush 6, 2) := by decide +kernel
theorem dX8_goDown_14 : decode cX8_goDown 14 = .ok (.if_icmp .le 4, 3) := by decide +kernel
theorem dX8_goDown_17 : decode cX8_goDown 17 = .ok (.return_, 1) := by decide +kernel
theorem dX8_goDown_18 : decode cX8_goDown 18 = .ok (.aload_n 0, 1) := by decide +kernel
theorem dX8_goDown_19 : decode cX8_goDown 19 = .ok (.getfield 20, 3) := by decide +kernel
theorem dX8_goDown_22 : decode cX8_goDown 22 = .ok (.aload_n 0, 1) := by decide +kernel
theorem dX8_goDown_23 : decode cX8_goDown 23 = .ok (.getfield 31, 3) := by decide +kernel
theorem dX8_goDown_26 : decode cX8_goDown 26 = .ok (.iconst 1, 1) := by decide +kernel
theorem dX8_goDown_27 : decode cX8_goDown 27 = .ok (.isub, 1) := by decide +kernel
theorem dX8_goDown_28 : decode cX8_goDown 28 = .ok (.iaload, 1) := by decide +kernel
theorem dX8_goDown_29 : decode cX8_goDown 29 = .ok (.istore_n 1, 1) := by decide +kernel
theorem dX8_goDown_30 : decode cX8_goDown 30 = .ok (.aload_n 0, 1) := by decide +kernel
theorem dX8_goDown_31 : decode cX8_goDown 31 = .ok (.getfield 11, 3) := by decide +kernel
theorem dX8_goDown_34 : decode cX8_goDown 34 = .ok (.aload_n 0, 1) := by decide +kernel
theorem dX8_goDown_35 : decode cX8_goDown 35 = .ok (.getfield 31, 3) := by decide +kernel
theorem dX8_goDown_38 : decode cX8_goDown 38 = .ok (.aaload, 1) := by decide +kernel
theorem dX8_goDown_39 : decode cX8_goDown 39 = .ok (.astore_n 2, 1) := by decide +kernel
theorem dX8_goDown_40 : decode cX8_goDown 40 = .ok (.aload_n 0, 1) := by decide +kernel
theorem dX8_goDown_41 : decode cX8_goDown 41 = .ok (.getfield 24, 3) := by decide +kernel
theorem dX8_goDown_44 : decode cX8_goDown 44 = .ok (.aload_n 0, 1) := by decide +kernel
theorem dX8_goDown_45 : decode cX8_goDown 45 = .ok (.getfield 31, 3) := by decide +kernel
theorem dX8_goDown_48 : decode cX8_goDown 48 = .ok (.iaload, 1) := by decide +kernel
theorem dX8_goDown_49 : decode cX8_goDown 49 = .ok (.istore_n 3, 1) := by decide +kernel
theorem dX8_goDown_50 : decode cX8_goDown 50 = .ok (.aload_n 0, 1) := by decide +kernel
theorem dX8_goDown_51 : decode cX8_goDown 51 = .ok (.getfield 31, 3) := by decide +kernel
theorem dX8_goDown_54 : decode cX8_goDown 54 = .ok (.istore 4, 2) := by decide +kernel
theorem dX8_goDown_56 : decode cX8_goDown 56 = .ok (.iload 4, 2) := by decide +kernel
theorem dX8_goDown_58 : decode cX8_goDown 58 = .ok (.iconst 1, 1) := by decide +kernel
theorem dX8_goDown_59 : decode cX8_goDown 59 = .ok (.if_icmp .le 59, 3) := by decide +kernel
theorem dX8_goDown_62 : decode cX8_goDown 62 = .ok (.aload_n 0, 1) := by decide +kernel
theorem dX8_goDown_63 : decode cX8_goDown 63 = .ok (.getfield 11, 3) := by decide +kernel
theorem dX8_goDown_66 : decode cX8_goDown 66 = .ok (.iload 4, 2) := by decide +kernel
theorem dX8_goDown_68 : decode cX8_goDown 68 = .ok (.aload_n 0, 1) := by decide +kernel
theorem dX8_goDown_69 : decode cX8_goDown 69 = .ok (.getfield 11, 3) := by decide +kernel
theorem dX8_goDown_72 : decode cX8_goDown 72 = .ok (.iload 4, 2) := by decide +kernel
theorem dX8_goDown_74 : decode cX8_goDown 74 = .ok (.iconst 1, 1) := by decide +kernel
theorem dX8_goDown_75 : decode cX8_goDown 75 = .ok (.isub, 1) := by decide +kernel
theorem dX8_goDown_76 : decode cX8_goDown 76 = .ok (.aaload, 1) := by decide +kernel
theorem dX8_goDown_77 : decode cX8_goDown 77 = .ok (.aastore, 1) := by decide +kernel
theorem dX8_goDown_78 : decode cX8_goDown 78 = .ok (.aload_n 0, 1) := by decide +kernel
theorem dX8_goDown_79 : decode cX8_goDown 79 = .ok (.getfield 24, 3) := by decide +kernel
theorem dX8_goDown_82 : decode cX8_goDown 82 = .ok (.iload 4, 2) := by decide +kernel
theorem dX8_goDown_84 : decode cX8_goDown 84 = .ok (.aload_n 0, 1) := by decide +kernel
theorem dX8_goDown_85 : decode cX8_goDown 85 = .ok (.getfield 24, 3) := by decide +kernel
theorem dX8_goDown_88 : decode cX8_goDown 88 = .ok (.iload 4, 2) := by decide +kernel
theorem dX8_goDown_90 : decode cX8_goDown 90 = .ok (.iconst 1, 1) := by decide +kernel
theorem dX8_goDown_91 : decode cX8_goDown 91 = .ok (.isub, 1) := by decide +kernel
theorem dX8_goDown_92 : decode cX8_goDown 92 = .ok (.iaload, 1) := by decide +kernel
theorem dX8_goDown_93 : decode cX8_goDown 93 = .ok (.iastore, 1) := by decide +kernel
theorem dX8_goDown_94 : decode cX8_goDown 94 = .ok (.aload_n 0, 1) := by decide +kernel
theorem dX8_goDown_95 : decode cX8_goDown 95 = .ok (.getfield 20, 3) := by decide +kernel
theorem dX8_goDown_98 : decode cX8_goDown 98 = .ok (.iload 4, 2) := by decide +kernel
theorem dX8_goDown_100 : decode cX8_goDown 100 = .ok (.aload_n 0, 1) := by decide +kernel
theorem dX8_goDown_101 : decode cX8_goDown 101 = .ok (.getfield 20, 3) := by decide +kernel
theorem dX8_goDown_104 : decode cX8_goDown 104 = .ok (.iload 4, 2) := by decide +kernel
theorem dX8_goDown_106 : decode cX8_goDown 106 = .ok (.iconst 1, 1) := by decide +kernel
theorem dX8_goDown_107 : decode cX8_goDown 107 = .ok (.isub, 1) := by decide +kernel
theorem dX8_goDown_108 : decode cX8_goDown 108 = .ok (.iaload, 1) := by decide +kernel
theorem dX8_goDown_109 : decode cX8_goDown 109 = .ok (.iload_n 1, 1) := by decide +kernel
theorem dX8_goDown_110 : decode cX8_goDown 110 = .ok (.isub, 1) := by decide +kernel
theorem dX8_goDown_111 : decode cX8_goDown 111 = .ok (.iastore, 1) := by decide +kernel
theorem dX8_goDown_112 : decode cX8_goDown 112 = .ok (.iinc 4 (-1), 3) := by decide +kernel
theorem dX8_goDown_115 : decode cX8_goDown 115 = .ok (.goto (-59), 3) := by decide +kernel
theorem dX8_goDown_118 : decode cX8_goDown 118 = .ok (.aload_n 0, 1) := by decide +kernel
theorem dX8_goDown_119 : decode cX8_goDown 119 = .ok (.getfield 11, 3) := by decide +kernel
theorem dX8_goDown_122 : decode cX8_goDown 122 = .ok (.iconst 1, 1) := by decide +kernel
theorem dX8_goDown_123 : decode cX8_goDown 123 = .ok (.aload_n 2, 1) := by decide +kernel
theorem dX8_goDown_124 : decode cX8_goDown 124 = .ok (.aastore, 1) := by decide +kernel
theorem dX8_goDown_125 : decode cX8_goDown 125 = .ok (.aload_n 0, 1) := by decide +kernel
theorem dX8_goDown_126 : decode cX8_goDown 126 = .ok (.getfield 24, 3) := by decide +kernel
theorem dX8_goDown_129 : decode cX8_goDown 129 = .ok (.iconst 1, 1) := by decide +kernel
theorem dX8_goDown_130 : decode cX8_goDown 130 = .ok (.iload_n 3, 1) := by decide +kernel
theorem dX8_goDown_131 : decode cX8_goDown 131 = .ok (.iastore, 1) := by decide +kernel
theorem dX8_goDown_132 : decode cX8_goDown 132 = .ok (.aload_n 0, 1) := by decide +kernel
theorem dX8_goDown_133 : decode cX8_goDown 133 = .ok (.getfield 20, 3) := by decide +kernel
theorem dX8_goDown_136 : decode cX8_goDown 136 = .ok (.iconst 1, 1) := by decide +kernel
theorem dX8_goDown_137 : decode cX8_goDown 137 = .ok (.iload_n 1, 1) := by decide +kernel
theorem dX8_goDown_138 : decode cX8_goDown 138 = .ok (.iastore, 1) := by decide +kernel
theorem dX8_goDown_139 : decode cX8_goDown 139 = .ok (.return_, 1) := by decide +kernel
theorem dX8_collect_0 : decode cX8_collect 0 = .ok (.aload_n 1, 1) := by decide +kernel
theorem dX8_collect_1 : decode cX8_collect 1 = .ok (.invokevirtual 38, 3) := by decide +kernel
theorem dX8_collect_4 : decode cX8_collect 4 = .ok (.iconst 1, 1) := by decide +kernel
theorem dX8_collect_5 : decode cX8_collect 5 = .ok (.istore_n 2, 1) := by decide +kernel
theorem dX8_collect_6 : decode cX8_collect 6 = .ok (.iload_n 2, 1) := by decide +kernel
theorem dX8_collect_7 : decode cX8_collect 7 = .ok (.aload_n 0, 1) := by decide +kernel
theorem dX8_collect_8 : decode cX8_collect 8 = .ok (.getfield 31, 3) := by decide +kernel
theorem dX8_collect_11 : decode cX8_collect 11 = .ok (.if_icmp .gt 50, 3) := by decide +kernel
theorem dX8_collect_14 : decode cX8_collect 14 = .ok (.iload_n 2, 1) := by decide +kernel
theorem dX8_collect_15 : decode cX8_collect 15 = .ok (.bipush 6, 2) := by decide +kernel
theorem dX8_collect_17 : decode cX8_collect 17 = .ok (.if_icmp .gt 44, 3) := by decide +kernel
theorem dX8_collect_20 : decode cX8_collect 20 = .ok (.iconst 0, 1) := by decide +kernel
theorem dX8_collect_21 : decode cX8_collect 21 = .ok (.istore_n 3, 1) := by decide +kernel
theorem dX8_collect_22 : decode cX8_collect 22 = .ok (.iload_n 3, 1) := by decide +kernel
theorem dX8_collect_23 : decode cX8_collect 23 = .ok (.aload_n 0, 1) := by decide +kernel
theorem dX8_collect_24 : decode cX8_collect 24 = .ok (.getfield 11, 3) := by decide +kernel
theorem dX8_collect_27 : decode cX8_collect 27 = .ok (.iload_n 2, 1) := by decide +kernel
theorem dX8_collect_28 : decode cX8_collect 28 = .ok (.aaload, 1) := by decide +kernel
theorem dX8_collect_29 : decode cX8_collect 29 = .ok (.invokevirtual 41, 3) := by decide +kernel
theorem dX8_collect_32 : decode cX8_collect 32 = .ok (.if_icmp .ge 23, 3) := by decide +kernel
theorem dX8_collect_35 : decode cX8_collect 35 = .ok (.aload_n 1, 1) := by decide +kernel
theorem dX8_collect_36 : decode cX8_collect 36 = .ok (.aload_n 0, 1) := by decide +kernel
theorem dX8_collect_37 : decode cX8_collect 37 = .ok (.getfield 11, 3) := by decide +kernel
theorem dX8_collect_40 : decode cX8_collect 40 = .ok (.iload_n 2, 1) := by decide +kernel
theorem dX8_collect_41 : decode cX8_collect 41 = .ok (.aaload, 1) := by decide +kernel
theorem dX8_collect_42 : decode cX8_collect 42 = .ok (.iload_n 3, 1) := by decide +kernel
theorem dX8_collect_43 : decode cX8_collect 43 = .ok (.invokevirtual 45, 3) := by decide +kernel
theorem dX8_collect_46 : decode cX8_collect 46 = .ok (.invokevirtual 49, 3) := by decide +kernel
theorem dX8_collect_49 : decode cX8_collect 49 = .ok (.iinc 3 1, 3) := by decide +kernel
theorem dX8_collect_52 : decode cX8_collect 52 = .ok (.goto (-30), 3) := by decide +kernel
theorem dX8_collect_55 : decode cX8_collect 55 = .ok (.iinc 2 1, 3) := by decide +kernel
theorem dX8_collect_58 : decode cX8_collect 58 = .ok (.goto (-52), 3) := by decide +kernel
theorem dX8_collect_61 : decode cX8_collect 61 = .ok (.return_, 1) := by decide +kernel
theorem dX9_init_0 : decode cX9_init 0 = .ok (.aload_n 0, 1) := by decide +kernel
theorem dX9_init_1 : decode cX9_init 1 = .ok (.invokespecial 1, 3) := by decide +kernel
theorem dX9_init_4 : decode cX9_init 4 = .ok (.iload_n 1, 1) := by decide +kernel
theorem dX9_init_5 : decode cX9_init 5 = .ok (.iconst 2, 1) := by decide +kernel
theorem dX9_init_6 : decode cX9_init 6 = .ok (.sipush 200, 3) := by decide +kernel
theorem dX9_init_9 : decode cX9_init 9 = .ok (.invokestatic 7, 3) := by decide +kernel
theorem dX9_init_12 : decode cX9_init 12 = .ok (.istore 4, 2) := by decide +kernel
theorem dX9_init_14 : decode cX9_init 14 = .ok (.aload_n 0, 1) := by decide +kernel
theorem dX9_init_15 : decode cX9_init 15 = .ok (.new 13, 3) := by decide +kernel
theorem dX9_init_18 : decode cX9_init 18 = .ok (.dup, 1) := by decide +kernel
theorem dX9_init_19 : decode cX9_init 19 = .ok (.iload 4, 2) := by decide +kernel
theorem dX9_init_21 : decode cX9_init 21 = .ok (.iload_n 2, 1) := by decide +kernel
theorem dX9_init_22 : decode cX9_init 22 = .ok (.iconst 5, 1) := by decide +kernel
theorem dX9_init_23 : decode cX9_init 23 = .ok (.bipush 64, 2) := by decide +kernel
theorem dX9_init_25 : decode cX9_init 25 = .ok (.invokestatic 7, 3) := by decide +kernel
theorem dX9_init_28 : decode cX9_init 28 = .ok (.invokespecial 15, 3) := by decide +kernel
theorem dX9_init_31 : decode cX9_init 31 = .ok (.putfield 18, 3) := by decide +kernel
theorem dX9_init_34 : decode cX9_init 34 = .ok (.aload_n 0, 1) := by decide +kernel
theorem dX9_init_35 : decode cX9_init 35 = .ok (.new 22, 3) := by decide +kernel
theorem dX9_init_38 : decode cX9_init 38 = .ok (.dup, 1) := by decide +kernel
theorem dX9_init_39 : decode cX9_init 39 = .ok (.aload_n 0, 1) := by decide +kernel
theorem dX9_init_40 : decode cX9_init 40 = .ok (.getfield 18, 3) := by decide +kernel
theorem dX9_init_43 : decode cX9_init 43 = .ok (.invokespecial 24, 3) := by decide +kernel
theorem dX9_init_46 : decode cX9_init 46 = .ok (.putfield 27, 3) := by decide +kernel
theorem dX9_init_49 : decode cX9_init 49 = .ok (.aload_n 0, 1) := by decide +kernel
theorem dX9_init_50 : decode cX9_init 50 = .ok (.new 31, 3) := by decide +kernel
theorem dX9_init_53 : decode cX9_init 53 = .ok (.dup, 1) := by decide +kernel
theorem dX9_init_54 : decode cX9_init 54 = .ok (.aload_n 0, 1) := by decide +kernel
theorem dX9_init_55 : decode cX9_init 55 = .ok (.getfield 18, 3) := by decide +kernel
theorem dX9_init_58 : decode cX9_init 58 = .ok (.iload 4, 2) := by decide +kernel
theorem dX9_init_60 : decode cX9_init 60 = .ok (.invokespecial 33, 3) := by decide +kernel
theorem dX9_init_63 : decode cX9_init 63 = .ok (.putfield 36, 3) := by decide +kernel
theorem dX9_init_66 : decode cX9_init 66 = .ok (.aload_n 0, 1) := by decide +kernel
theorem dX9_init_67 : decode cX9_init 67 = .ok (.new 40, 3) := by decide +kernel
theorem dX9_init_70 : decode cX9_init 70 = .ok (.dup, 1) := by decide +kernel
theorem dX9_init_71 : decode cX9_init 71 = .ok (.aload_n 0, 1) := by decide +kernel
theorem dX9_init_72 : decode cX9_init 72 = .ok (.getfield 18, 3) := by decide +kernel
theorem dX9_init_75 : decode cX9_init 75 = .ok (.aload_n 0, 1) := by decide +kernel
theorem dX9_init_76 : decode cX9_init 76 = .ok (.getfield 27, 3) := by decide +kernel
theorem dX9_init_79 : decode cX9_init 79 = .ok (.iload 4, 2) := by decide +kernel
theorem dX9_init_81 : decode cX9_init 81 = .ok (.invokespecial 42, 3) := by decide +kernel
theorem dX9_init_84 : decode cX9_init 84 = .ok (.putfield 45, 3) := by decide +kernel
theorem dX9_init_87 : decode cX9_init 87 = .ok (.aload_n 0, 1) := by decide +kernel
theorem dX9_init_88 : decode cX9_init 88 = .ok (.new 49, 3) := by decide +kernel
theorem dX9_init_91 : decode cX9_init 91 = .ok (.dup, 1) := by decide +kernel
theorem dX9_init_92 : decode cX9_init 92 = .ok (.aload_n 0, 1) := by decide +kernel
theorem dX9_init_93 : decode cX9_init 93 = .ok (.getfield 18, 3) := by decide +kernel
theorem dX9_init_96 : decode cX9_init 96 = .ok (.aload_n 0, 1) := by decide +kernel
theorem dX9_init_97 : decode cX9_init 97 = .ok (.getfield 27, 3) := by decide +kernel
theorem dX9_init_100 : decode cX9_init 100 = .ok (.aload_n 0, 1) := by decide +kernel
theorem dX9_init_101 : decode cX9_init 101 = .ok (.getfield 36, 3) := by decide +kernel
theorem dX9_init_104 : decode cX9_init 104 = .ok (.iload 4, 2) := by decide +kernel
theorem dX9_init_106 : decode cX9_init 106 = .ok (.invokespecial 51, 3) := by decide +kernel
theorem dX9_init_109 : decode cX9_init 109 = .ok (.putfield 54, 3) := by decide +kernel
theorem dX9_init_112 : decode cX9_init 112 = .ok (.aload_n 0, 1) := by decide +kernel
theorem dX9_init_113 : decode cX9_init 113 = .ok (.new 58, 3) := by decide +kernel
theorem dX9_init_116 : decode cX9_init 116 = .ok (.dup, 1) := by decide +kernel
theorem dX9_init_117 : decode cX9_init 117 = .ok (.aload_n 0, 1) := by decide +kernel
theorem dX9_init_118 : decode cX9_init 118 = .ok (.getfield 27, 3) := by decide +kernel
theorem dX9_init_121 : decode cX9_init 121 = .ok (.iload_n 3, 1) := by decide +kernel
theorem dX9_init_122 : decode cX9_init 122 = .ok (.iconst 2, 1) := by decide +kernel
theorem dX9_init_123 : decode cX9_init 123 = .ok (.bipush 64, 2) := by decide +kernel
theorem dX9_init_125 : decode cX9_init 125 = .ok (.invokestatic 7, 3) := by decide +kernel
theorem dX9_init_128 : decode cX9_init 128 = .ok (.invokespecial 60, 3) := by decide +kernel
theorem dX9_init_131 : decode cX9_init 131 = .ok (.putfield 63, 3) := by decide +kernel
theorem dX9_init_134 : decode cX9_init 134 = .ok (.aload_n 0, 1) := by decide +kernel
theorem dX9_init_135 : decode cX9_init 135 = .ok (.new 67, 3) := by decide +kernel
theorem dX9_init_138 : decode cX9_init 138 = .ok (.dup, 1) := by decide +kernel
theorem dX9_init_139 : decode cX9_init 139 = .ok (.aload_n 0, 1) := by decide +kernel
theorem dX9_init_140 : decode cX9_init 140 = .ok (.getfield 18, 3) := by decide +kernel
theorem dX9_init_143 : decode cX9_init 143 = .ok (.aload_n 0, 1) := by decide +kernel
theorem dX9_init_144 : decode cX9_init 144 = .ok (.getfield 27, 3) := by decide +kernel
theorem dX9_init_147 : decode cX9_init 147 = .ok (.aload_n 0, 1) := by decide +kernel
theorem dX9_init_148 : decode cX9_init 148 = .ok (.getfield 36, 3) := by decide +kernel
theorem dX9_init_151 : decode cX9_init 151 = .ok (.aload_n 0, 1) := by decide +kernel
theorem dX9_init_152 : decode cX9_init 152 = .ok (.getfield 54, 3) := by decide +kernel
theorem dX9_init_155 : decode cX9_init 155 = .ok (.invokespecial 69, 3) := by decide +kernel
theorem dX9_init_158 : decode cX9_init 158 = .ok (.putfield 72, 3) := by decide +kernel
theorem dX9_init_161 : decode cX9_init 161 = .ok (.aload_n 0, 1) := by decide +kernel
theorem dX9_init_162 : decode cX9_init 162 = .ok (.new 76, 3) := by decide +kernel
theorem dX9_init_165 : decode cX9_init 165 = .ok (.dup, 1) := by decide +kernel
theorem dX9_init_166 : decode cX9_init 166 = .ok (.iload 4, 2) := by decide +kernel
theorem dX9_init_168 : decode cX9_init 168 = .ok (.invokespecial 78, 3) := by decide +kernel
theorem dX9_init_171 : decode cX9_init 171 = .ok (.putfield 81, 3) := by decide +kernel
theorem dX9_init_174 : decode cX9_init 174 = .ok (.aload_n 0, 1) := by decide +kernel
theorem dX9_init_175 : decode cX9_init 175 = .ok (.new 85, 3) := by decide +kernel
theorem dX9_init_178 : decode cX9_init 178 = .ok (.dup, 1) := by decide +kernel
theorem dX9_init_179 : decode cX9_init 179 = .ok (.iload 4, 2) := by decide +kernel
theorem dX9_init_181 : decode cX9_init 181 = .ok (.invokespecial 87, 3) := by decide +kernel
theorem dX9_init_184 : decode cX9_init 184 = .ok (.putfield 88, 3) := by decide +kernel
theorem dX9_init_187 : decode cX9_init 187 = .ok (.aload_n 0, 1) := by decide +kernel
theorem dX9_init_188 : decode cX9_init 188 = .ok (.iconst 4, 1) := by decide +kernel
theorem dX9_init_189 : decode cX9_init 189 = .ok (.newarray .long, 2) := by decide +kernel
theorem dX9_init_191 : decode cX9_init 191 = .ok (.putfield 92, 3) := by decide +kernel
theorem dX9_init_194 : decode cX9_init 194 = .ok (.aload_n 0, 1) := by decide +kernel
theorem dX9_init_195 : decode cX9_init 195 = .ok (.iload 4, 2) := by decide +kernel
theorem dX9_init_197 : decode cX9_init 197 = .ok (.newarray .boolean, 2) := by decide +kernel
theorem dX9_init_199 : decode cX9_init 199 = .ok (.putfield 96, 3) := by decide +kernel
theorem dX9_init_202 : decode cX9_init 202 = .ok (.aload_n 0, 1) := by decide +kernel
theorem dX9_init_203 : decode cX9_init 203 = .ok (.iload 4, 2) := by decide +kernel
theorem dX9_init_205 : decode cX9_init 205 = .ok (.newarray .int, 2) := by decide +kernel
theorem dX9_init_207 : decode cX9_init 207 = .ok (.putfield 100, 3) := by decide +kernel
theorem dX9_init_210 : decode cX9_init 210 = .ok (.return_, 1) := by decide +kernel
theorem dX9_width_0 : decode cX9_width 0 = .ok (.iload_n 1, 1) := by decide +kernel
theorem dX9_width_1 : decode cX9_width 1 = .ok (.iconst 1, 1) := by decide +kernel
theorem dX9_width_2 : decode cX9_width 2 = .ok (.if_icmp .lt 8, 3) := by decide +kernel
theorem dX9_width_5 : decode cX9_width 5 = .ok (.iload_n 1, 1) := by decide +kernel
theorem dX9_width_6 : decode cX9_width 6 = .ok (.iconst 4, 1) := by decide +kernel
theorem dX9_width_7 : decode cX9_width 7 = .ok (.if_icmp .le 13, 3) := by decide +kernel
theorem dX9_width_10 : decode cX9_width 10 = .ok (.new 104, 3) := by decide +kernel
theorem dX9_width_13 : decode cX9_width 13 = .ok (.dup, 1) := by decide +kernel
theorem dX9_width_14 : decode cX9_width 14 = .ok (.ldc 106, 2) := by decide +kernel
theorem dX9_width_16 : decode cX9_width 16 = .ok (.invokespecial 108, 3) := by decide +kernel
theorem dX9_width_19 : decode cX9_width 19 = .ok (.athrow, 1) := by decide +kernel
theorem dX9_width_20 : decode cX9_width 20 = .ok (.aload_n 0, 1) := by decide +kernel
theorem dX9_width_21 : decode cX9_width 21 = .ok (.invokevirtual 111, 3) := by decide +kernel
theorem dX9_width_24 : decode cX9_width 24 = .ok (.aload_n 0, 1) := by decide +kernel
theorem dX9_width_25 : decode cX9_width 25 = .ok (.getfield 88, 3) := by decide +kernel
theorem dX9_width_28 : decode cX9_width 28 = .ok (.invokevirtual 114, 3) := by decide +kernel
theorem dX9_width_31 : decode cX9_width 31 = .ok (.ifCond .gt 13, 3) := by decide +kernel
theorem dX9_width_34 : decode cX9_width 34 = .ok (.aload_n 0, 1) := by decide +kernel
theorem dX9_width_35 : decode cX9_width 35 = .ok (.getfield 45, 3) := by decide +kernel
theorem dX9_width_38 : decode cX9_width 38 = .ok (.invokevirtual 118, 3) := by decide +kernel
theorem dX9_width_41 : decode cX9_width 41 = .ok (.ifCond .le 13, 3) := by decide +kernel
theorem dX9_width_44 : decode cX9_width 44 = .ok (.new 121, 3) := by decide +kernel
theorem dX9_width_47 : decode cX9_width 47 = .ok (.dup, 1) := by decide +kernel
theorem dX9_width_48 : decode cX9_width 48 = .ok (.ldc 123, 2) := by decide +kernel
theorem dX9_width_50 : decode cX9_width 50 = .ok (.invokespecial 125, 3) := by decide +kernel
theorem dX9_width_53 : decode cX9_width 53 = .ok (.athrow, 1) := by decide +kernel
theorem dX9_width_54 : decode cX9_width 54 = .ok (.aload_n 0, 1) := by decide +kernel
theorem dX9_width_55 : decode cX9_width 55 = .ok (.getfield 27, 3) := by decide +kernel
theorem dX9_width_58 : decode cX9_width 58 = .ok (.iload_n 1, 1) := by decide +kernel
theorem dX9_width_59 : decode cX9_width 59 = .ok (.invokevirtual 126, 3) := by decide +kernel
theorem dX9_width_62 : decode cX9_width 62 = .ok (.return_, 1) := by decide +kernel
theorem dX9_key_0 : decode cX9_key 0 = .ok (.iload_n 1, 1) := by decide +kernel
theorem dX9_key_1 : decode cX9_key 1 = .ok (.ifCond .lt 14, 3) := by decide +kernel
theorem dX9_key_4 : decode cX9_key 4 = .ok (.iload_n 1, 1) := by decide +kernel
theorem dX9_key_5 : decode cX9_key 5 = .ok (.aload_n 0, 1) := by decide +kernel
theorem dX9_key_6 : decode cX9_key 6 = .ok (.getfield 27, 3) := by decide +kernel
theorem dX9_key_9 : decode cX9_key 9 = .ok (.getfield 129, 3) := by decide +kernel
theorem dX9_key_12 : decode cX9_key 12 = .ok (.if_icmp .lt 13, 3) := by decide +kernel
theorem dX9_key_15 : decode cX9_key 15 = .ok (.new 133, 3) := by decide +kernel
theorem dX9_key_18 : decode cX9_key 18 = .ok (.dup, 1) := by decide +kernel
theorem dX9_key_19 : decode cX9_key 19 = .ok (.ldc 135, 2) := by decide +kernel
theorem dX9_key_21 : decode cX9_key 21 = .ok (.invokespecial 137, 3) := by decide +kernel
theorem dX9_key_24 : decode cX9_key 24 = .ok (.athrow, 1) := by decide +kernel
theorem dX9_key_25 : decode cX9_key 25 = .ok (.aload_n 0, 1) := by decide +kernel
theorem dX9_key_26 : decode cX9_key 26 = .ok (.getfield 27, 3) := by decide +kernel
theorem dX9_key_29 : decode cX9_key 29 = .ok (.iload_n 1, 1) := by decide +kernel
theorem dX9_key_30 : decode cX9_key 30 = .ok (.invokevirtual 138, 3) := by decide +kernel
theorem dX9_key_33 : decode cX9_key 33 = .ok (.ifCond .eq 13, 3) := by decide +kernel
theorem dX9_key_36 : decode cX9_key 36 = .ok (.new 104, 3) := by decide +kernel
theorem dX9_key_39 : decode cX9_key 39 = .ok (.dup, 1) := by decide +kernel
theorem dX9_key_40 : decode cX9_key 40 = .ok (.ldc 142, 2) := by decide +kernel
theorem dX9_key_42 : decode cX9_key 42 = .ok (.invokespecial 108, 3) := by decide +kernel
theorem dX9_key_45 : decode cX9_key 45 = .ok (.athrow, 1) := by decide +kernel
theorem dX9_key_46 : decode cX9_key 46 = .ok (.aload_n 0, 1) := by decide +kernel
theorem dX9_key_47 : decode cX9_key 47 = .ok (.invokevirtual 111, 3) := by decide +kernel
theorem dX9_key_50 : decode cX9_key 50 = .ok (.aload_n 0, 1) := by decide +kernel
theorem dX9_key_51 : decode cX9_key 51 = .ok (.getfield 88, 3) := by decide +kernel
theorem dX9_key_54 : decode cX9_key 54 = .ok (.invokevirtual 114, 3) := by decide +kernel
theorem dX9_key_57 : decode cX9_key 57 = .ok (.ifCond .le 13, 3) := by decide +kernel
theorem dX9_key_60 : decode cX9_key 60 = .ok (.new 121, 3) := by decide +kernel
theorem dX9_key_63 : decode cX9_key 63 = .ok (.dup, 1) := by decide +kernel
theorem dX9_key_64 : decode cX9_key 64 = .ok (.ldc 144, 2) := by decide +kernel
theorem dX9_key_66 : decode cX9_key 66 = .ok (.invokespecial 125, 3) := by decide +kernel
theorem dX9_key_69 : decode cX9_key 69 = .ok (.athrow, 1) := by decide +kernel
theorem dX9_key_70 : decode cX9_key 70 = .ok (.aload_n 0, 1) := by decide +kernel
theorem dX9_key_71 : decode cX9_key 71 = .ok (.getfield 27, 3) := by decide +kernel
theorem dX9_key_74 : decode cX9_key 74 = .ok (.iload_n 1, 1) := by decide +kernel
theorem dX9_key_75 : decode cX9_key 75 = .ok (.iload_n 2, 1) := by decide +kernel
theorem dX9_key_76 : decode cX9_key 76 = .ok (.invokevirtual 146, 3) := by decide +kernel
theorem dX9_key_79 : decode cX9_key 79 = .ok (.ireturn, 1) := by decide +kernel
theorem dX9_mode_0 : decode cX9_mode 0 = .ok (.iload_n 1, 1) := by decide +kernel
theorem dX9_mode_1 : decode cX9_mode 1 = .ok (.ifCond .lt 8, 3) := by decide +kernel
theorem dX9_mode_4 : decode cX9_mode 4 = .ok (.iload_n 1, 1) := by decide +kernel
theorem dX9_mode_5 : decode cX9_mode 5 = .ok (.iconst 2, 1) := by decide +kernel
theorem dX9_mode_6 : decode cX9_mode 6 = .ok (.if_icmp .le 13, 3) := by decide +kernel
theorem dX9_mode_9 : decode cX9_mode 9 = .ok (.new 104, 3) := by decide +kernel
theorem dX9_mode_12 : decode cX9_mode 12 = .ok (.dup, 1) := by decide +kernel
theorem dX9_mode_13 : decode cX9_mode 13 = .ok (.ldc 150, 2) := by decide +kernel
theorem dX9_mode_15 : decode cX9_mode 15 = .ok (.invokespecial 108, 3) := by decide +kernel
theorem dX9_mode_18 : decode cX9_mode 18 = .ok (.athrow, 1) := by decide +kernel
theorem dX9_mode_19 : decode cX9_mode 19 = .ok (.aload_n 0, 1) := by decide +kernel
theorem dX9_mode_20 : decode cX9_mode 20 = .ok (.invokevirtual 111, 3) := by decide +kernel
theorem dX9_mode_23 : decode cX9_mode 23 = .ok (.aload_n 0, 1) := by decide +kernel
theorem dX9_mode_24 : decode cX9_mode 24 = .ok (.getfield 152, 3) := by decide +kernel
theorem dX9_mode_27 : decode cX9_mode 27 = .ok (.istore_n 2, 1) := by decide +kernel
theorem dX9_mode_28 : decode cX9_mode 28 = .ok (.aload_n 0, 1) := by decide +kernel
theorem dX9_mode_29 : decode cX9_mode 29 = .ok (.iload_n 1, 1) := by decide +kernel
theorem dX9_mode_30 : decode cX9_mode 30 = .ok (.putfield 152, 3) := by decide +kernel
theorem dX9_mode_33 : decode cX9_mode 33 = .ok (.iload_n 2, 1) := by decide +kernel
theorem dX9_mode_34 : decode cX9_mode 34 = .ok (.ireturn, 1) := by decide +kernel
theorem dX9_feed_0 : decode cX9_feed 0 = .ok (.aload_n 0, 1) := by decide +kernel
theorem dX9_feed_1 : decode cX9_feed 1 = .ok (.invokevirtual 111, 3) := by decide +kernel
theorem dX9_feed_4 : decode cX9_feed 4 = .ok (.aload_n 0, 1) := by decide +kernel
theorem dX9_feed_5 : decode cX9_feed 5 = .ok (.iconst 0, 1) := by decide +kernel
theorem dX9_feed_6 : decode cX9_feed 6 = .ok (.lload_n 1, 1) := by decide +kernel
theorem dX9_feed_7 : decode cX9_feed 7 = .ok (.invokevirtual 155, 3) := by decide +kernel
theorem dX9_feed_10 : decode cX9_feed 10 = .ok (.aload_n 0, 1) := by decide +kernel
theorem dX9_feed_11 : decode cX9_feed 11 = .ok (.iconst 1, 1) := by decide +kernel
theorem dX9_feed_12 : decode cX9_feed 12 = .ok (.lload_n 3, 1) := by decide +kernel
theorem dX9_feed_13 : decode cX9_feed 13 = .ok (.invokevirtual 155, 3) := by decide +kernel
theorem dX9_feed_16 : decode cX9_feed 16 = .ok (.aload_n 0, 1) := by decide +kernel
theorem dX9_feed_17 : decode cX9_feed 17 = .ok (.iconst 2, 1) := by decide +kernel
theorem dX9_feed_18 : decode cX9_feed 18 = .ok (.lload 5, 2) := by decide +kernel
theorem dX9_feed_20 : decode cX9_feed 20 = .ok (.invokevirtual 155, 3) := by decide +kernel
theorem dX9_feed_23 : decode cX9_feed 23 = .ok (.aload_n 0, 1) := by decide +kernel
theorem dX9_feed_24 : decode cX9_feed 24 = .ok (.iconst 3, 1) := by decide +kernel
theorem dX9_feed_25 : decode cX9_feed 25 = .ok (.lload 7, 2) := by decide +kernel
theorem dX9_feed_27 : decode cX9_feed 27 = .ok (.invokevirtual 155, 3) := by decide +kernel
theorem dX9_feed_30 : decode cX9_feed 30 = .ok (.aload_n 0, 1) := by decide +kernel
theorem dX9_feed_31 : decode cX9_feed 31 = .ok (.getfield 45, 3) := by decide +kernel
theorem dX9_feed_34 : decode cX9_feed 34 = .ok (.aload_n 0, 1) := by decide +kernel
theorem dX9_feed_35 : decode cX9_feed 35 = .ok (.getfield 92, 3) := by decide +kernel
theorem dX9_feed_38 : decode cX9_feed 38 = .ok (.invokevirtual 159, 3) := by decide +kernel
theorem dX9_feed_41 : decode cX9_feed 41 = .ok (.istore 9, 2) := by decide +kernel
theorem dX9_feed_43 : decode cX9_feed 43 = .ok (.iload 9, 2) := by decide +kernel
theorem dX9_feed_45 : decode cX9_feed 45 = .ok (.iconst (-1), 1) := by decide +kernel
theorem dX9_feed_46 : decode cX9_feed 46 = .ok (.if_icmp .ne 11, 3) := by decide +kernel
theorem dX9_feed_49 : decode cX9_feed 49 = .ok (.aload_n 0, 1) := by decide +kernel
theorem dX9_feed_50 : decode cX9_feed 50 = .ok (.iconst 0, 1) := by decide +kernel
theorem dX9_feed_51 : decode cX9_feed 51 = .ok (.invokevirtual 163, 3) := by decide +kernel
theorem dX9_feed_54 : decode cX9_feed 54 = .ok (.goto 5, 3) := by decide +kernel
theorem dX9_feed_57 : decode cX9_feed 57 = .ok (.iload 9, 2) := by decide +kernel
theorem dX9_feed_59 : decode cX9_feed 59 = .ok (.ireturn, 1) := by decide +kernel
theorem dX9_run_0 : decode cX9_run 0 = .ok (.iload_n 3, 1) := by decide +kernel
theorem dX9_run_1 : decode cX9_run 1 = .ok (.iconst 1, 1) := by decide +kernel
theorem dX9_run_2 : decode cX9_run 2 = .ok (.if_icmp .lt 22, 3) := by decide +kernel
theorem dX9_run_5 : decode cX9_run 5 = .ok (.iload_n 3, 1) := by decide +kernel
theorem dX9_run_6 : decode cX9_run 6 = .ok (.ldc 167, 2) := by decide +kernel
theorem dX9_run_8 : decode cX9_run 8 = .ok (.if_icmp .gt 16, 3) := by decide +kernel
theorem dX9_run_11 : decode cX9_run 11 = .ok (.iload 4, 2) := by decide +kernel
theorem dX9_run_13 : decode cX9_run 13 = .ok (.ifCond .lt 11, 3) := by decide +kernel
theorem dX9_run_16 : decode cX9_run 16 = .ok (.iload 4, 2) := by decide +kernel
theorem dX9_run_18 : decode cX9_run 18 = .ok (.sipush 300, 3) := by decide +kernel
theorem dX9_run_21 : decode cX9_run 21 = .ok (.if_icmp .le 13, 3) := by decide +kernel
theorem dX9_run_24 : decode cX9_run 24 = .ok (.new 104, 3) := by decide +kernel
theorem dX9_run_27 : decode cX9_run 27 = .ok (.dup, 1) := by decide +kernel
theorem dX9_run_28 : decode cX9_run 28 = .ok (.ldc 168, 2) := by decide +kernel
theorem dX9_run_30 : decode cX9_run 30 = .ok (.invokespecial 108, 3) := by decide +kernel
theorem dX9_run_33 : decode cX9_run 33 = .ok (.athrow, 1) := by decide +kernel
theorem dX9_run_34 : decode cX9_run 34 = .ok (.aload_n 0, 1) := by decide +kernel
theorem dX9_run_35 : decode cX9_run 35 = .ok (.invokevirtual 111, 3) := by decide +kernel
theorem dX9_run_38 : decode cX9_run 38 = .ok (.lload_n 1, 1) := by decide +kernel
theorem dX9_run_39 : decode cX9_run 39 = .ok (.lstore 5, 2) := by decide +kernel
theorem dX9_run_41 : decode cX9_run 41 = .ok (.iconst 0, 1) := by decide +kernel
theorem dX9_run_42 : decode cX9_run 42 = .ok (.istore 7, 2) := by decide +kernel
theorem dX9_run_44 : decode cX9_run 44 = .ok (.iload 7, 2) := by decide +kernel
theorem dX9_run_46 : decode cX9_run 46 = .ok (.iload 4, 2) := by decide +kernel
theorem dX9_run_48 : decode cX9_run 48 = .ok (.if_icmp .ge 74, 3) := by decide +kernel
theorem dX9_run_51 : decode cX9_run 51 = .ok (.iconst 0, 1) := by decide +kernel
theorem dX9_run_52 : decode cX9_run 52 = .ok (.istore 8, 2) := by decide +kernel
theorem dX9_run_54 : decode cX9_run 54 = .ok (.iload 8, 2) := by decide +kernel
theorem dX9_run_56 : decode cX9_run 56 = .ok (.aload_n 0, 1) := by decide +kernel
theorem dX9_run_57 : decode cX9_run 57 = .ok (.getfield 27, 3) := by decide +kernel
theorem dX9_run_60 : decode cX9_run 60 = .ok (.getfield 129, 3) := by decide +kernel
theorem dX9_run_63 : decode cX9_run 63 = .ok (.if_icmp .ge 35, 3) := by decide +kernel
theorem dX9_run_66 : decode cX9_run 66 = .ok (.lload 5, 2) := by decide +kernel
theorem dX9_run_68 : decode cX9_run 68 = .ok (.ldc2_w 170, 3) := by decide +kernel
theorem dX9_run_71 : decode cX9_run 71 = .ok (.lmul, 1) := by decide +kernel
theorem dX9_run_72 : decode cX9_run 72 = .ok (.ldc2_w 172, 3) := by decide +kernel
theorem dX9_run_75 : decode cX9_run 75 = .ok (.ladd, 1) := by decide +kernel
theorem dX9_run_76 : decode cX9_run 76 = .ok (.lstore 5, 2) := by decide +kernel
theorem dX9_run_78 : decode cX9_run 78 = .ok (.aload_n 0, 1) := by decide +kernel
theorem dX9_run_79 : decode cX9_run 79 = .ok (.iload 8, 2) := by decide +kernel
theorem dX9_run_81 : decode cX9_run 81 = .ok (.lload 5, 2) := by decide +kernel
theorem dX9_run_83 : decode cX9_run 83 = .ok (.bipush 33, 2) := by decide +kernel
theorem dX9_run_85 : decode cX9_run 85 = .ok (.lushr, 1) := by decide +kernel
theorem dX9_run_86 : decode cX9_run 86 = .ok (.iload_n 3, 1) := by decide +kernel
theorem dX9_run_87 : decode cX9_run 87 = .ok (.i2l, 1) := by decide +kernel
theorem dX9_run_88 : decode cX9_run 88 = .ok (.lrem, 1) := by decide +kernel
theorem dX9_run_89 : decode cX9_run 89 = .ok (.invokevirtual 155, 3) := by decide +kernel
theorem dX9_run_92 : decode cX9_run 92 = .ok (.iinc 8 1, 3) := by decide +kernel
theorem dX9_run_95 : decode cX9_run 95 = .ok (.goto (-41), 3) := by decide +kernel
theorem dX9_run_98 : decode cX9_run 98 = .ok (.aload_n 0, 1) := by decide +kernel
theorem dX9_run_99 : decode cX9_run 99 = .ok (.getfield 45, 3) := by decide +kernel
theorem dX9_run_102 : decode cX9_run 102 = .ok (.aload_n 0, 1) := by decide +kernel
theorem dX9_run_103 : decode cX9_run 103 = .ok (.getfield 92, 3) := by decide +kernel
theorem dX9_run_106 : decode cX9_run 106 = .ok (.invokevirtual 159, 3) := by decide +kernel
theorem dX9_run_109 : decode cX9_run 109 = .ok (.iconst (-1), 1) := by decide +kernel
theorem dX9_run_110 : decode cX9_run 110 = .ok (.if_icmp .ne 6, 3) := by decide +kernel
theorem dX9_run_113 : decode cX9_run 113 = .ok (.iload 7, 2) := by decide +kernel
theorem dX9_run_115 : decode cX9_run 115 = .ok (.ireturn, 1) := by decide +kernel
theorem dX9_run_116 : decode cX9_run 116 = .ok (.iinc 7 1, 3) := by decide +kernel
theorem dX9_run_119 : decode cX9_run 119 = .ok (.goto (-75), 3) := by decide +kernel
theorem dX9_run_122 : decode cX9_run 122 = .ok (.iload 4, 2) := by decide +kernel
theorem dX9_run_124 : decode cX9_run 124 = .ok (.ireturn, 1) := by decide +kernel
theorem dX9_form_0 : decode cX9_form 0 = .ok (.iload_n 1, 1) := by decide +kernel
theorem dX9_form_1 : decode cX9_form 1 = .ok (.ifCond .lt 8, 3) := by decide +kernel
theorem dX9_form_4 : decode cX9_form 4 = .ok (.iload_n 1, 1) := by decide +kernel
theorem dX9_form_5 : decode cX9_form 5 = .ok (.iconst 2, 1) := by decide +kernel
theorem dX9_form_6 : decode cX9_form 6 = .ok (.if_icmp .le 13, 3) := by decide +kernel
theorem dX9_form_9 : decode cX9_form 9 = .ok (.new 104, 3) := by decide +kernel
theorem dX9_form_12 : decode cX9_form 12 = .ok (.dup, 1) := by decide +kernel
theorem dX9_form_13 : decode cX9_form 13 = .ok (.ldc 174, 2) := by decide +kernel
theorem dX9_form_15 : decode cX9_form 15 = .ok (.invokespecial 108, 3) := by decide +kernel
theorem dX9_form_18 : decode cX9_form 18 = .ok (.athrow, 1) := by decide +kernel
theorem dX9_form_19 : decode cX9_form 19 = .ok (.aload_n 0, 1) := by decide +kernel
theorem dX9_form_20 : decode cX9_form 20 = .ok (.invokevirtual 111, 3) := by decide +kernel
theorem dX9_form_23 : decode cX9_form 23 = .ok (.aload_n 0, 1) := by decide +kernel
theorem dX9_form_24 : decode cX9_form 24 = .ok (.getfield 54, 3) := by decide +kernel
theorem dX9_form_27 : decode cX9_form 27 = .ok (.aload_n 0, 1) := by decide +kernel
theorem dX9_form_28 : decode cX9_form 28 = .ok (.getfield 152, 3) := by decide +kernel
theorem dX9_form_31 : decode cX9_form 31 = .ok (.invokevirtual 176, 3) := by decide +kernel
theorem dX9_form_34 : decode cX9_form 34 = .ok (.aload_n 0, 1) := by decide +kernel
theorem dX9_form_35 : decode cX9_form 35 = .ok (.getfield 45, 3) := by decide +kernel
theorem dX9_form_38 : decode cX9_form 38 = .ok (.invokevirtual 179, 3) := by decide +kernel
theorem dX9_form_41 : decode cX9_form 41 = .ok (.ifCond .eq 43, 3) := by decide +kernel
theorem dX9_form_44 : decode cX9_form 44 = .ok (.iload_n 1, 1) := by decide +kernel
theorem dX9_form_45 : decode cX9_form 45 = .ok (.ifCond .ne 13, 3) := by decide +kernel
theorem dX9_form_48 : decode cX9_form 48 = .ok (.aload_n 0, 1) := by decide +kernel
theorem dX9_form_49 : decode cX9_form 49 = .ok (.invokevirtual 183, 3) := by decide +kernel
theorem dX9_form_52 : decode cX9_form 52 = .ok (.ifCond .eq 32, 3) := by decide +kernel
theorem dX9_form_55 : decode cX9_form 55 = .ok (.goto 25, 3) := by decide +kernel
theorem dX9_form_58 : decode cX9_form 58 = .ok (.iload_n 1, 1) := by decide +kernel
theorem dX9_form_59 : decode cX9_form 59 = .ok (.iconst 1, 1) := by decide +kernel
theorem dX9_form_60 : decode cX9_form 60 = .ok (.if_icmp .ne 13, 3) := by decide +kernel
theorem dX9_form_63 : decode cX9_form 63 = .ok (.aload_n 0, 1) := by decide +kernel
theorem dX9_form_64 : decode cX9_form 64 = .ok (.invokevirtual 186, 3) := by decide +kernel
theorem dX9_form_67 : decode cX9_form 67 = .ok (.ifCond .eq 17, 3) := by decide +kernel
theorem dX9_form_70 : decode cX9_form 70 = .ok (.goto 10, 3) := by decide +kernel
theorem dX9_form_73 : decode cX9_form 73 = .ok (.aload_n 0, 1) := by decide +kernel
theorem dX9_form_74 : decode cX9_form 74 = .ok (.invokevirtual 189, 3) := by decide +kernel
theorem dX9_form_77 : decode cX9_form 77 = .ok (.ifCond .eq 7, 3) := by decide +kernel
theorem dX9_form_80 : decode cX9_form 80 = .ok (.iconst 1, 1) := by decide +kernel
theorem dX9_form_81 : decode cX9_form 81 = .ok (.goto 4, 3) := by decide +kernel
theorem dX9_form_84 : decode cX9_form 84 = .ok (.iconst 0, 1) := by decide +kernel
theorem dX9_form_85 : decode cX9_form 85 = .ok (.istore_n 2, 1) := by decide +kernel
theorem dX9_form_86 : decode cX9_form 86 = .ok (.iload_n 2, 1) := by decide +kernel
theorem dX9_form_87 : decode cX9_form 87 = .ok (.ifCond .eq 24, 3) := by decide +kernel
theorem dX9_form_90 : decode cX9_form 90 = .ok (.aload_n 0, 1) := by decide +kernel
theorem dX9_form_91 : decode cX9_form 91 = .ok (.getfield 45, 3) := by decide +kernel
theorem dX9_form_94 : decode cX9_form 94 = .ok (.invokevirtual 192, 3) := by decide +kernel
theorem dX9_form_97 : decode cX9_form 97 = .ok (.aload_n 0, 1) := by decide +kernel
theorem dX9_form_98 : decode cX9_form 98 = .ok (.getfield 54, 3) := by decide +kernel
theorem dX9_form_101 : decode cX9_form 101 = .ok (.aload_n 0, 1) := by decide +kernel
theorem dX9_form_102 : decode cX9_form 102 = .ok (.getfield 88, 3) := by decide +kernel
theorem dX9_form_105 : decode cX9_form 105 = .ok (.invokevirtual 195, 3) := by decide +kernel
theorem dX9_form_108 : decode cX9_form 108 = .ok (.goto 17, 3) := by decide +kernel
theorem dX9_form_111 : decode cX9_form 111 = .ok (.aload_n 0, 1) := by decide +kernel
theorem dX9_form_112 : decode cX9_form 112 = .ok (.getfield 54, 3) := by decide +kernel
theorem dX9_form_115 : decode cX9_form 115 = .ok (.invokevirtual 199, 3) := by decide +kernel
theorem dX9_form_118 : decode cX9_form 118 = .ok (.aload_n 0, 1) := by decide +kernel
theorem dX9_form_119 : decode cX9_form 119 = .ok (.getfield 45, 3) := by decide +kernel
theorem dX9_form_122 : decode cX9_form 122 = .ok (.invokevirtual 202, 3) := by decide +kernel
theorem dX9_form_125 : decode cX9_form 125 = .ok (.aload_n 0, 1) := by decide +kernel
theorem dX9_form_126 : decode cX9_form 126 = .ok (.iload_n 2, 1) := by decide +kernel
theorem dX9_form_127 : decode cX9_form 127 = .ok (.invokevirtual 163, 3) := by decide +kernel
theorem dX9_form_130 : decode cX9_form 130 = .ok (.ireturn, 1) := by decide +kernel
theorem dX9_pass_0 : decode cX9_pass 0 = .ok (.aload_n 0, 1) := by decide +kernel
theorem dX9_pass_1 : decode cX9_pass 1 = .ok (.iload_n 1, 1) := by decide +kernel
theorem dX9_pass_2 : decode cX9_pass 2 = .ok (.invokevirtual 205, 3) := by decide +kernel
theorem dX9_pass_5 : decode cX9_pass 5 = .ok (.aload_n 0, 1) := by decide +kernel
theorem dX9_pass_6 : decode cX9_pass 6 = .ok (.invokevirtual 111, 3) := by decide +kernel
theorem dX9_pass_9 : decode cX9_pass 9 = .ok (.aload_n 0, 1) := by decide +kernel
theorem dX9_pass_10 : decode cX9_pass 10 = .ok (.aload_n 0, 1) := by decide +kernel
theorem dX9_pass_11 : decode cX9_pass 11 = .ok (.iload_n 1, 1) := by decide +kernel
theorem dX9_pass_12 : decode cX9_pass 12 = .ok (.invokevirtual 208, 3) := by decide +kernel
theorem dX9_pass_15 : decode cX9_pass 15 = .ok (.invokevirtual 163, 3) := by decide +kernel
theorem dX9_pass_18 : decode cX9_pass 18 = .ok (.ireturn, 1) := by decide +kernel
theorem dX9_best_0 : decode cX9_best 0 = .ok (.aload_n 0, 1) := by decide +kernel
theorem dX9_best_1 : decode cX9_best 1 = .ok (.iload_n 1, 1) := by decide +kernel
theorem dX9_best_2 : decode cX9_best 2 = .ok (.invokevirtual 205, 3) := by decide +kernel
theorem dX9_best_5 : decode cX9_best 5 = .ok (.aload_n 0, 1) := by decide +kernel
theorem dX9_best_6 : decode cX9_best 6 = .ok (.invokevirtual 111, 3) := by decide +kernel
theorem dX9_best_9 : decode cX9_best 9 = .ok (.aload_n 0, 1) := by decide +kernel
theorem dX9_best_10 : decode cX9_best 10 = .ok (.aload_n 0, 1) := by decide +kernel
theorem dX9_best_11 : decode cX9_best 11 = .ok (.iload_n 1, 1) := by decide +kernel
theorem dX9_best_12 : decode cX9_best 12 = .ok (.invokevirtual 211, 3) := by decide +kernel
theorem dX9_best_15 : decode cX9_best 15 = .ok (.invokevirtual 163, 3) := by decide +kernel
theorem dX9_best_18 : decode cX9_best 18 = .ok (.ireturn, 1) := by decide +kernel
theorem dX9_poly_0 : decode cX9_poly 0 = .ok (.iload_n 1, 1) := by decide +kernel
theorem dX9_poly_1 : decode cX9_poly 1 = .ok (.iconst 3, 1) := by decide +kernel
theorem dX9_poly_2 : decode cX9_poly 2 = .ok (.if_icmp .lt 9, 3) := by decide +kernel
theorem dX9_poly_5 : decode cX9_poly 5 = .ok (.iload_n 1, 1) := by decide +kernel
theorem dX9_poly_6 : decode cX9_poly 6 = .ok (.bipush 6, 2) := by decide +kernel
theorem dX9_poly_8 : decode cX9_poly 8 = .ok (.if_icmp .le 13, 3) := by decide +kernel
theorem dX9_poly_11 : decode cX9_poly 11 = .ok (.new 104, 3) := by decide +kernel
theorem dX9_poly_14 : decode cX9_poly 14 = .ok (.dup, 1) := by decide +kernel
theorem dX9_poly_15 : decode cX9_poly 15 = .ok (.ldc 214, 2) := by decide +kernel
theorem dX9_poly_17 : decode cX9_poly 17 = .ok (.invokespecial 108, 3) := by decide +kernel
theorem dX9_poly_20 : decode cX9_poly 20 = .ok (.athrow, 1) := by decide +kernel
theorem dX9_poly_21 : decode cX9_poly 21 = .ok (.aload_n 0, 1) := by decide +kernel
theorem dX9_poly_22 : decode cX9_poly 22 = .ok (.invokevirtual 111, 3) := by decide +kernel
theorem dX9_poly_25 : decode cX9_poly 25 = .ok (.aload_n 0, 1) := by decide +kernel
theorem dX9_poly_26 : decode cX9_poly 26 = .ok (.getfield 81, 3) := by decide +kernel
theorem dX9_poly_29 : decode cX9_poly 29 = .ok (.aload_n 0, 1) := by decide +kernel
theorem dX9_poly_30 : decode cX9_poly 30 = .ok (.getfield 88, 3) := by decide +kernel
theorem dX9_poly_33 : decode cX9_poly 33 = .ok (.iload_n 1, 1) := by decide +kernel
theorem dX9_poly_34 : decode cX9_poly 34 = .ok (.invokevirtual 216, 3) := by decide +kernel
theorem dX9_poly_37 : decode cX9_poly 37 = .ok (.iconst 1, 1) := by decide +kernel
theorem dX9_poly_38 : decode cX9_poly 38 = .ok (.istore_n 2, 1) := by decide +kernel
theorem dX9_poly_39 : decode cX9_poly 39 = .ok (.aload_n 0, 1) := by decide +kernel
theorem dX9_poly_40 : decode cX9_poly 40 = .ok (.getfield 81, 3) := by decide +kernel
theorem dX9_poly_43 : decode cX9_poly 43 = .ok (.getfield 220, 3) := by decide +kernel
theorem dX9_poly_46 : decode cX9_poly 46 = .ok (.istore_n 3, 1) := by decide +kernel
theorem dX9_poly_47 : decode cX9_poly 47 = .ok (.iload_n 3, 1) := by decide +kernel
theorem dX9_poly_48 : decode cX9_poly 48 = .ok (.ifCond .le 29, 3) := by decide +kernel
theorem dX9_poly_51 : decode cX9_poly 51 = .ok (.iload_n 2, 1) := by decide +kernel
theorem dX9_poly_52 : decode cX9_poly 52 = .ok (.ifCond .eq 25, 3) := by decide +kernel
theorem dX9_poly_55 : decode cX9_poly 55 = .ok (.aload_n 0, 1) := by decide +kernel
theorem dX9_poly_56 : decode cX9_poly 56 = .ok (.invokevirtual 223, 3) := by decide +kernel
theorem dX9_poly_59 : decode cX9_poly 59 = .ok (.istore_n 2, 1) := by decide +kernel
theorem dX9_poly_60 : decode cX9_poly 60 = .ok (.iload_n 2, 1) := by decide +kernel
theorem dX9_poly_61 : decode cX9_poly 61 = .ok (.ifCond .eq 10, 3) := by decide +kernel
theorem dX9_poly_64 : decode cX9_poly 64 = .ok (.aload_n 0, 1) := by decide +kernel
theorem dX9_poly_65 : decode cX9_poly 65 = .ok (.getfield 81, 3) := by decide +kernel
theorem dX9_poly_68 : decode cX9_poly 68 = .ok (.invokevirtual 226, 3) := by decide +kernel
theorem dX9_poly_71 : decode cX9_poly 71 = .ok (.iinc 3 (-1), 3) := by decide +kernel
theorem dX9_poly_74 : decode cX9_poly 74 = .ok (.goto (-27), 3) := by decide +kernel
theorem dX9_poly_77 : decode cX9_poly 77 = .ok (.aload_n 0, 1) := by decide +kernel
theorem dX9_poly_78 : decode cX9_poly 78 = .ok (.getfield 81, 3) := by decide +kernel
theorem dX9_poly_81 : decode cX9_poly 81 = .ok (.aload_n 0, 1) := by decide +kernel
theorem dX9_poly_82 : decode cX9_poly 82 = .ok (.getfield 88, 3) := by decide +kernel
theorem dX9_poly_85 : decode cX9_poly 85 = .ok (.invokevirtual 229, 3) := by decide +kernel
theorem dX9_poly_88 : decode cX9_poly 88 = .ok (.aload_n 0, 1) := by decide +kernel
theorem dX9_poly_89 : decode cX9_poly 89 = .ok (.iload_n 2, 1) := by decide +kernel
theorem dX9_poly_90 : decode cX9_poly 90 = .ok (.invokevirtual 163, 3) := by decide +kernel
theorem dX9_poly_93 : decode cX9_poly 93 = .ok (.ireturn, 1) := by decide +kernel
theorem dX9_plan_0 : decode cX9_plan 0 = .ok (.aload_n 0, 1) := by decide +kernel
theorem dX9_plan_1 : decode cX9_plan 1 = .ok (.iload_n 1, 1) := by decide +kernel
theorem dX9_plan_2 : decode cX9_plan 2 = .ok (.invokevirtual 205, 3) := by decide +kernel
theorem dX9_plan_5 : decode cX9_plan 5 = .ok (.aload_n 0, 1) := by decide +kernel
theorem dX9_plan_6 : decode cX9_plan 6 = .ok (.getfield 88, 3) := by decide +kernel
theorem dX9_plan_9 : decode cX9_plan 9 = .ok (.invokevirtual 114, 3) := by decide +kernel
theorem dX9_plan_12 : decode cX9_plan 12 = .ok (.aload_n 0, 1) := by decide +kernel
theorem dX9_plan_13 : decode cX9_plan 13 = .ok (.getfield 100, 3) := by decide +kernel
theorem dX9_plan_16 : decode cX9_plan 16 = .ok (.arraylength, 1) := by decide +kernel
theorem dX9_plan_17 : decode cX9_plan 17 = .ok (.invokestatic 232, 3) := by decide +kernel
theorem dX9_plan_20 : decode cX9_plan 20 = .ok (.istore_n 2, 1) := by decide +kernel
theorem dX9_plan_21 : decode cX9_plan 21 = .ok (.iconst 0, 1) := by decide +kernel
theorem dX9_plan_22 : decode cX9_plan 22 = .ok (.istore_n 3, 1) := by decide +kernel
theorem dX9_plan_23 : decode cX9_plan 23 = .ok (.iload_n 3, 1) := by decide +kernel
theorem dX9_plan_24 : decode cX9_plan 24 = .ok (.iload_n 2, 1) := by decide +kernel
theorem dX9_plan_25 : decode cX9_plan 25 = .ok (.if_icmp .ge 30, 3) := by decide +kernel
theorem dX9_plan_28 : decode cX9_plan 28 = .ok (.aload_n 0, 1) := by decide +kernel
theorem dX9_plan_29 : decode cX9_plan 29 = .ok (.getfield 100, 3) := by decide +kernel
theorem dX9_plan_32 : decode cX9_plan 32 = .ok (.iload_n 3, 1) := by decide +kernel
theorem dX9_plan_33 : decode cX9_plan 33 = .ok (.aload_n 0, 1) := by decide +kernel
theorem dX9_plan_34 : decode cX9_plan 34 = .ok (.getfield 36, 3) := by decide +kernel
theorem dX9_plan_37 : decode cX9_plan 37 = .ok (.aload_n 0, 1) := by decide +kernel
theorem dX9_plan_38 : decode cX9_plan 38 = .ok (.getfield 88, 3) := by decide +kernel
theorem dX9_plan_41 : decode cX9_plan 41 = .ok (.iload_n 3, 1) := by decide +kernel
theorem dX9_plan_42 : decode cX9_plan 42 = .ok (.invokevirtual 238, 3) := by decide +kernel
theorem dX9_plan_45 : decode cX9_plan 45 = .ok (.invokevirtual 242, 3) := by decide +kernel
theorem dX9_plan_48 : decode cX9_plan 48 = .ok (.iastore, 1) := by decide +kernel
theorem dX9_plan_49 : decode cX9_plan 49 = .ok (.iinc 3 1, 3) := by decide +kernel
theorem dX9_plan_52 : decode cX9_plan 52 = .ok (.goto (-29), 3) := by decide +kernel
theorem dX9_plan_55 : decode cX9_plan 55 = .ok (.iconst 0, 1) := by decide +kernel
theorem dX9_plan_56 : decode cX9_plan 56 = .ok (.istore_n 3, 1) := by decide +kernel
theorem dX9_plan_57 : decode cX9_plan 57 = .ok (.iconst 0, 1) := by decide +kernel
theorem dX9_plan_58 : decode cX9_plan 58 = .ok (.istore 4, 2) := by decide +kernel
theorem dX9_plan_60 : decode cX9_plan 60 = .ok (.iload 4, 2) := by decide +kernel
theorem dX9_plan_62 : decode cX9_plan 62 = .ok (.aload_n 0, 1) := by decide +kernel
theorem dX9_plan_63 : decode cX9_plan 63 = .ok (.getfield 100, 3) := by decide +kernel
theorem dX9_plan_66 : decode cX9_plan 66 = .ok (.arraylength, 1) := by decide +kernel
theorem dX9_plan_67 : decode cX9_plan 67 = .ok (.if_icmp .ge 85, 3) := by decide +kernel
theorem dX9_plan_70 : decode cX9_plan 70 = .ok (.iload_n 2, 1) := by decide +kernel
theorem dX9_plan_71 : decode cX9_plan 71 = .ok (.iconst 1, 1) := by decide +kernel
theorem dX9_plan_72 : decode cX9_plan 72 = .ok (.if_icmp .le 80, 3) := by decide +kernel
theorem dX9_plan_75 : decode cX9_plan 75 = .ok (.iconst 0, 1) := by decide +kernel
theorem dX9_plan_76 : decode cX9_plan 76 = .ok (.istore 5, 2) := by decide +kernel
theorem dX9_plan_78 : decode cX9_plan 78 = .ok (.iconst 0, 1) := by decide +kernel
theorem dX9_plan_79 : decode cX9_plan 79 = .ok (.istore 6, 2) := by decide +kernel
theorem dX9_plan_81 : decode cX9_plan 81 = .ok (.iload 6, 2) := by decide +kernel
theorem dX9_plan_83 : decode cX9_plan 83 = .ok (.iload_n 2, 1) := by decide +kernel
theorem dX9_plan_84 : decode cX9_plan 84 = .ok (.if_icmp .ge 59, 3) := by decide +kernel
theorem dX9_plan_87 : decode cX9_plan 87 = .ok (.iload 6, 2) := by decide +kernel
theorem dX9_plan_89 : decode cX9_plan 89 = .ok (.iload_n 1, 1) := by decide +kernel
theorem dX9_plan_90 : decode cX9_plan 90 = .ok (.iadd, 1) := by decide +kernel
theorem dX9_plan_91 : decode cX9_plan 91 = .ok (.iload_n 2, 1) := by decide +kernel
theorem dX9_plan_92 : decode cX9_plan 92 = .ok (.invokestatic 232, 3) := by decide +kernel
theorem dX9_plan_95 : decode cX9_plan 95 = .ok (.istore 7, 2) := by decide +kernel
theorem dX9_plan_97 : decode cX9_plan 97 = .ok (.iload 7, 2) := by decide +kernel
theorem dX9_plan_99 : decode cX9_plan 99 = .ok (.iload 6, 2) := by decide +kernel
theorem dX9_plan_101 : decode cX9_plan 101 = .ok (.isub, 1) := by decide +kernel
theorem dX9_plan_102 : decode cX9_plan 102 = .ok (.iconst 1, 1) := by decide +kernel
theorem dX9_plan_103 : decode cX9_plan 103 = .ok (.if_icmp .le 14, 3) := by decide +kernel
theorem dX9_plan_106 : decode cX9_plan 106 = .ok (.iload_n 3, 1) := by decide +kernel
theorem dX9_plan_107 : decode cX9_plan 107 = .ok (.aload_n 0, 1) := by decide +kernel
theorem dX9_plan_108 : decode cX9_plan 108 = .ok (.iload 6, 2) := by decide +kernel
theorem dX9_plan_110 : decode cX9_plan 110 = .ok (.iload 7, 2) := by decide +kernel
theorem dX9_plan_112 : decode cX9_plan 112 = .ok (.invokevirtual 245, 3) := by decide +kernel
theorem dX9_plan_115 : decode cX9_plan 115 = .ok (.iadd, 1) := by decide +kernel
theorem dX9_plan_116 : decode cX9_plan 116 = .ok (.istore_n 3, 1) := by decide +kernel
theorem dX9_plan_117 : decode cX9_plan 117 = .ok (.aload_n 0, 1) := by decide +kernel
theorem dX9_plan_118 : decode cX9_plan 118 = .ok (.iload 5, 2) := by decide +kernel
theorem dX9_plan_120 : decode cX9_plan 120 = .ok (.aload_n 0, 1) := by decide +kernel
theorem dX9_plan_121 : decode cX9_plan 121 = .ok (.iload 6, 2) := by decide +kernel
theorem dX9_plan_123 : decode cX9_plan 123 = .ok (.iload 7, 2) := by decide +kernel
theorem dX9_plan_125 : decode cX9_plan 125 = .ok (.invokevirtual 248, 3) := by decide +kernel
theorem dX9_plan_128 : decode cX9_plan 128 = .ok (.invokevirtual 251, 3) := by decide +kernel
theorem dX9_plan_131 : decode cX9_plan 131 = .ok (.iinc 5 1, 3) := by decide +kernel
theorem dX9_plan_134 : decode cX9_plan 134 = .ok (.iload 6, 2) := by decide +kernel
theorem dX9_plan_136 : decode cX9_plan 136 = .ok (.iload_n 1, 1) := by decide +kernel
theorem dX9_plan_137 : decode cX9_plan 137 = .ok (.iadd, 1) := by decide +kernel
theorem dX9_plan_138 : decode cX9_plan 138 = .ok (.istore 6, 2) := by decide +kernel
theorem dX9_plan_140 : decode cX9_plan 140 = .ok (.goto (-59), 3) := by decide +kernel
theorem dX9_plan_143 : decode cX9_plan 143 = .ok (.iload 5, 2) := by decide +kernel
theorem dX9_plan_145 : decode cX9_plan 145 = .ok (.istore_n 2, 1) := by decide +kernel
theorem dX9_plan_146 : decode cX9_plan 146 = .ok (.iinc 4 1, 3) := by decide +kernel
theorem dX9_plan_149 : decode cX9_plan 149 = .ok (.goto (-89), 3) := by decide +kernel
theorem dX9_plan_152 : decode cX9_plan 152 = .ok (.iload_n 3, 1) := by decide +kernel
theorem dX9_plan_153 : decode cX9_plan 153 = .ok (.ireturn, 1) := by decide +kernel
theorem dX9_runs_0 : decode cX9_runs 0 = .ok (.aload_n 0, 1) := by decide +kernel
theorem dX9_runs_1 : decode cX9_runs 1 = .ok (.getfield 88, 3) := by decide +kernel
theorem dX9_runs_4 : decode cX9_runs 4 = .ok (.invokevirtual 114, 3) := by decide +kernel
theorem dX9_runs_7 : decode cX9_runs 7 = .ok (.ireturn, 1) := by decide +kernel
theorem dX9_records_0 : decode cX9_records 0 = .ok (.iload_n 1, 1) := by decide +kernel
theorem dX9_records_1 : decode cX9_records 1 = .ok (.iconst (-1), 1) := by decide +kernel
theorem dX9_records_2 : decode cX9_records 2 = .ok (.if_icmp .ne 11, 3) := by decide +kernel
theorem dX9_records_5 : decode cX9_records 5 = .ok (.aload_n 0, 1) := by decide +kernel
theorem dX9_records_6 : decode cX9_records 6 = .ok (.getfield 45, 3) := by decide +kernel
theorem dX9_records_9 : decode cX9_records 9 = .ok (.invokevirtual 118, 3) := by decide +kernel
theorem dX9_records_12 : decode cX9_records 12 = .ok (.ireturn, 1) := by decide +kernel
theorem dX9_records_13 : decode cX9_records 13 = .ok (.aload_n 0, 1) := by decide +kernel
theorem dX9_records_14 : decode cX9_records 14 = .ok (.iload_n 1, 1) := by decide +kernel
theorem dX9_records_15 : decode cX9_records 15 = .ok (.invokevirtual 254, 3) := by decide +kernel
theorem dX9_records_18 : decode cX9_records 18 = .ok (.aload_n 0, 1) := by decide +kernel
theorem dX9_records_19 : decode cX9_records 19 = .ok (.getfield 36, 3) := by decide +kernel
theorem dX9_records_22 : decode cX9_records 22 = .ok (.aload_n 0, 1) := by decide +kernel
theorem dX9_records_23 : decode cX9_records 23 = .ok (.getfield 88, 3) := by decide +kernel
theorem dX9_records_26 : decode cX9_records 26 = .ok (.iload_n 1, 1) := by decide +kernel
theorem dX9_records_27 : decode cX9_records 27 = .ok (.invokevirtual 238, 3) := by decide +kernel
theorem dX9_records_30 : decode cX9_records 30 = .ok (.invokevirtual 242, 3) := by decide +kernel
theorem dX9_records_33 : decode cX9_records 33 = .ok (.ireturn, 1) := by decide +kernel
theorem dX9_block_0 : decode cX9_block 0 = .ok (.iload_n 1, 1) := by decide +kernel
theorem dX9_block_1 : decode cX9_block 1 = .ok (.iconst (-1), 1) := by decide +kernel
theorem dX9_block_2 : decode cX9_block 2 = .ok (.if_icmp .eq 8, 3) := by decide +kernel
theorem dX9_block_5 : decode cX9_block 5 = .ok (.aload_n 0, 1) := by decide +kernel
theorem dX9_block_6 : decode cX9_block 6 = .ok (.iload_n 1, 1) := by decide +kernel
theorem dX9_block_7 : decode cX9_block 7 = .ok (.invokevirtual 254, 3) := by decide +kernel
theorem dX9_block_10 : decode cX9_block 10 = .ok (.iload_n 1, 1) := by decide +kernel
theorem dX9_block_11 : decode cX9_block 11 = .ok (.iconst (-1), 1) := by decide +kernel
theorem dX9_block_12 : decode cX9_block 12 = .ok (.if_icmp .ne 17, 3) := by decide +kernel
theorem dX9_block_15 : decode cX9_block 15 = .ok (.aload_n 0, 1) := by decide +kernel
theorem dX9_block_16 : decode cX9_block 16 = .ok (.getfield 45, 3) := by decide +kernel
theorem dX9_block_19 : decode cX9_block 19 = .ok (.getfield 257, 3) := by decide +kernel
theorem dX9_block_22 : decode cX9_block 22 = .ok (.iload_n 2, 1) := by decide +kernel
theorem dX9_block_23 : decode cX9_block 23 = .ok (.invokevirtual 238, 3) := by decide +kernel
theorem dX9_block_26 : decode cX9_block 26 = .ok (.goto 19, 3) := by decide +kernel
theorem dX9_block_29 : decode cX9_block 29 = .ok (.aload_n 0, 1) := by decide +kernel
theorem dX9_block_30 : decode cX9_block 30 = .ok (.getfield 36, 3) := by decide +kernel
theorem dX9_block_33 : decode cX9_block 33 = .ok (.aload_n 0, 1) := by decide +kernel
theorem dX9_block_34 : decode cX9_block 34 = .ok (.getfield 88, 3) := by decide +kernel
theorem dX9_block_37 : decode cX9_block 37 = .ok (.iload_n 1, 1) := by decide +kernel
theorem dX9_block_38 : decode cX9_block 38 = .ok (.invokevirtual 238, 3) := by decide +kernel
theorem dX9_block_41 : decode cX9_block 41 = .ok (.iload_n 2, 1) := by decide +kernel
theorem dX9_block_42 : decode cX9_block 42 = .ok (.invokevirtual 260, 3) := by decide +kernel
theorem dX9_block_45 : decode cX9_block 45 = .ok (.istore_n 3, 1) := by decide +kernel
theorem dX9_block_46 : decode cX9_block 46 = .ok (.iload_n 3, 1) := by decide +kernel
theorem dX9_block_47 : decode cX9_block 47 = .ok (.iconst (-1), 1) := by decide +kernel
theorem dX9_block_48 : decode cX9_block 48 = .ok (.if_icmp .ne 14, 3) := by decide +kernel
theorem dX9_block_51 : decode cX9_block 51 = .ok (.new 133, 3) := by decide +kernel
theorem dX9_block_54 : decode cX9_block 54 = .ok (.dup, 1) := by decide +kernel
theorem dX9_block_55 : decode cX9_block 55 = .ok (.ldc_w 263, 3) := by decide +kernel
theorem dX9_block_58 : decode cX9_block 58 = .ok (.invokespecial 137, 3) := by decide +kernel
theorem dX9_block_61 : decode cX9_block 61 = .ok (.athrow, 1) := by decide +kernel
theorem dX9_block_62 : decode cX9_block 62 = .ok (.iload_n 3, 1) := by decide +kernel
theorem dX9_block_63 : decode cX9_block 63 = .ok (.ireturn, 1) := by decide +kernel
theorem dX9_told_0 : decode cX9_told 0 = .ok (.aload_n 0, 1) := by decide +kernel
theorem dX9_told_1 : decode cX9_told 1 = .ok (.iload_n 1, 1) := by decide +kernel
theorem dX9_told_2 : decode cX9_told 2 = .ok (.invokevirtual 254, 3) := by decide +kernel
theorem dX9_told_5 : decode cX9_told 5 = .ok (.iload_n 2, 1) := by decide +kernel
theorem dX9_told_6 : decode cX9_told 6 = .ok (.ifCond .lt 37, 3) := by decide +kernel
theorem dX9_told_9 : decode cX9_told 9 = .ok (.iload_n 2, 1) := by decide +kernel
theorem dX9_told_10 : decode cX9_told 10 = .ok (.aload_n 0, 1) := by decide +kernel
theorem dX9_told_11 : decode cX9_told 11 = .ok (.getfield 36, 3) := by decide +kernel
theorem dX9_told_14 : decode cX9_told 14 = .ok (.aload_n 0, 1) := by decide +kernel
theorem dX9_told_15 : decode cX9_told 15 = .ok (.getfield 88, 3) := by decide +kernel
theorem dX9_told_18 : decode cX9_told 18 = .ok (.iload_n 1, 1) := by decide +kernel
theorem dX9_told_19 : decode cX9_told 19 = .ok (.invokevirtual 238, 3) := by decide +kernel
theorem dX9_told_22 : decode cX9_told 22 = .ok (.invokevirtual 242, 3) := by decide +kernel
theorem dX9_told_25 : decode cX9_told 25 = .ok (.if_icmp .ge 18, 3) := by decide +kernel
theorem dX9_told_28 : decode cX9_told 28 = .ok (.iload_n 3, 1) := by decide +kernel
theorem dX9_told_29 : decode cX9_told 29 = .ok (.ifCond .lt 14, 3) := by decide +kernel
theorem dX9_told_32 : decode cX9_told 32 = .ok (.iload_n 3, 1) := by decide +kernel
theorem dX9_told_33 : decode cX9_told 33 = .ok (.aload_n 0, 1) := by decide +kernel
theorem dX9_told_34 : decode cX9_told 34 = .ok (.getfield 27, 3) := by decide +kernel
theorem dX9_told_37 : decode cX9_told 37 = .ok (.getfield 129, 3) := by decide +kernel
theorem dX9_told_40 : decode cX9_told 40 = .ok (.if_icmp .le 14, 3) := by decide +kernel
theorem dX9_told_43 : decode cX9_told 43 = .ok (.new 133, 3) := by decide +kernel
theorem dX9_told_46 : decode cX9_told 46 = .ok (.dup, 1) := by decide +kernel
theorem dX9_told_47 : decode cX9_told 47 = .ok (.ldc_w 265, 3) := by decide +kernel
theorem dX9_told_50 : decode cX9_told 50 = .ok (.invokespecial 137, 3) := by decide +kernel
theorem dX9_told_53 : decode cX9_told 53 = .ok (.athrow, 1) := by decide +kernel
theorem dX9_told_54 : decode cX9_told 54 = .ok (.aload_n 0, 1) := by decide +kernel
theorem dX9_told_55 : decode cX9_told 55 = .ok (.invokevirtual 111, 3) := by decide +kernel
theorem dX9_told_58 : decode cX9_told 58 = .ok (.aload_n 0, 1) := by decide +kernel
theorem dX9_told_59 : decode cX9_told 59 = .ok (.aload_n 0, 1) := by decide +kernel
theorem dX9_told_60 : decode cX9_told 60 = .ok (.getfield 88, 3) := by decide +kernel
theorem dX9_told_63 : decode cX9_told 63 = .ok (.iload_n 1, 1) := by decide +kernel
theorem dX9_told_64 : decode cX9_told 64 = .ok (.invokevirtual 238, 3) := by decide +kernel
theorem dX9_told_67 : decode cX9_told 67 = .ok (.iload_n 2, 1) := by decide +kernel
theorem dX9_told_68 : decode cX9_told 68 = .ok (.iload_n 3, 1) := by decide +kernel
theorem dX9_told_69 : decode cX9_told 69 = .ok (.invokevirtual 267, 3) := by decide +kernel
theorem dX9_told_72 : decode cX9_told 72 = .ok (.lreturn, 1) := by decide +kernel
theorem dX9_rank_0 : decode cX9_rank 0 = .ok (.aload_n 0, 1) := by decide +kernel
theorem dX9_rank_1 : decode cX9_rank 1 = .ok (.iload_n 1, 1) := by decide +kernel
theorem dX9_rank_2 : decode cX9_rank 2 = .ok (.invokevirtual 254, 3) := by decide +kernel
theorem dX9_rank_5 : decode cX9_rank 5 = .ok (.aload_n 0, 1) := by decide +kernel
theorem dX9_rank_6 : decode cX9_rank 6 = .ok (.invokevirtual 111, 3) := by decide +kernel
theorem dX9_rank_9 : decode cX9_rank 9 = .ok (.iconst 0, 1) := by decide +kernel
theorem dX9_rank_10 : decode cX9_rank 10 = .ok (.istore 4, 2) := by decide +kernel
theorem dX9_rank_12 : decode cX9_rank 12 = .ok (.aload_n 0, 1) := by decide +kernel
theorem dX9_rank_13 : decode cX9_rank 13 = .ok (.getfield 36, 3) := by decide +kernel
theorem dX9_rank_16 : decode cX9_rank 16 = .ok (.aload_n 0, 1) := by decide +kernel
theorem dX9_rank_17 : decode cX9_rank 17 = .ok (.getfield 88, 3) := by decide +kernel
theorem dX9_rank_20 : decode cX9_rank 20 = .ok (.iload_n 1, 1) := by decide +kernel
theorem dX9_rank_21 : decode cX9_rank 21 = .ok (.invokevirtual 238, 3) := by decide +kernel
theorem dX9_rank_24 : decode cX9_rank 24 = .ok (.invokevirtual 242, 3) := by decide +kernel
theorem dX9_rank_27 : decode cX9_rank 27 = .ok (.istore 5, 2) := by decide +kernel
theorem dX9_rank_29 : decode cX9_rank 29 = .ok (.iload 5, 2) := by decide +kernel
theorem dX9_rank_31 : decode cX9_rank 31 = .ok (.istore 6, 2) := by decide +kernel
theorem dX9_rank_33 : decode cX9_rank 33 = .ok (.iload 6, 2) := by decide +kernel
theorem dX9_rank_35 : decode cX9_rank 35 = .ok (.ifCond .le 74, 3) := by decide +kernel
theorem dX9_rank_38 : decode cX9_rank 38 = .ok (.iload 4, 2) := by decide +kernel
theorem dX9_rank_40 : decode cX9_rank 40 = .ok (.iload 5, 2) := by decide +kernel
theorem dX9_rank_42 : decode cX9_rank 42 = .ok (.if_icmp .ge 67, 3) := by decide +kernel
theorem dX9_rank_45 : decode cX9_rank 45 = .ok (.iload 4, 2) := by decide +kernel
theorem dX9_rank_47 : decode cX9_rank 47 = .ok (.iload 5, 2) := by decide +kernel
theorem dX9_rank_49 : decode cX9_rank 49 = .ok (.iadd, 1) := by decide +kernel
theorem dX9_rank_50 : decode cX9_rank 50 = .ok (.iconst 2, 1) := by decide +kernel
theorem dX9_rank_51 : decode cX9_rank 51 = .ok (.idiv, 1) := by decide +kernel
theorem dX9_rank_52 : decode cX9_rank 52 = .ok (.istore 7, 2) := by decide +kernel
theorem dX9_rank_54 : decode cX9_rank 54 = .ok (.aload_n 0, 1) := by decide +kernel
theorem dX9_rank_55 : decode cX9_rank 55 = .ok (.aload_n 0, 1) := by decide +kernel
theorem dX9_rank_56 : decode cX9_rank 56 = .ok (.getfield 88, 3) := by decide +kernel
theorem dX9_rank_59 : decode cX9_rank 59 = .ok (.iload_n 1, 1) := by decide +kernel
theorem dX9_rank_60 : decode cX9_rank 60 = .ok (.invokevirtual 238, 3) := by decide +kernel
theorem dX9_rank_63 : decode cX9_rank 63 = .ok (.iload 7, 2) := by decide +kernel
theorem dX9_rank_65 : decode cX9_rank 65 = .ok (.aload_n 0, 1) := by decide +kernel
theorem dX9_rank_66 : decode cX9_rank 66 = .ok (.getfield 27, 3) := by decide +kernel
theorem dX9_rank_69 : decode cX9_rank 69 = .ok (.invokevirtual 271, 3) := by decide +kernel
theorem dX9_rank_72 : decode cX9_rank 72 = .ok (.invokevirtual 267, 3) := by decide +kernel
theorem dX9_rank_75 : decode cX9_rank 75 = .ok (.lstore 8, 2) := by decide +kernel
theorem dX9_rank_77 : decode cX9_rank 77 = .ok (.aload_n 0, 1) := by decide +kernel
theorem dX9_rank_78 : decode cX9_rank 78 = .ok (.getfield 27, 3) := by decide +kernel
theorem dX9_rank_81 : decode cX9_rank 81 = .ok (.lload 8, 2) := by decide +kernel
theorem dX9_rank_83 : decode cX9_rank 83 = .ok (.lload_n 2, 1) := by decide +kernel
theorem dX9_rank_84 : decode cX9_rank 84 = .ok (.invokevirtual 274, 3) := by decide +kernel
theorem dX9_rank_87 : decode cX9_rank 87 = .ok (.ifCond .eq 12, 3) := by decide +kernel
theorem dX9_rank_90 : decode cX9_rank 90 = .ok (.iload 7, 2) := by decide +kernel
theorem dX9_rank_92 : decode cX9_rank 92 = .ok (.iconst 1, 1) := by decide +kernel
theorem dX9_rank_93 : decode cX9_rank 93 = .ok (.iadd, 1) := by decide +kernel
theorem dX9_rank_94 : decode cX9_rank 94 = .ok (.istore 4, 2) := by decide +kernel
theorem dX9_rank_96 : decode cX9_rank 96 = .ok (.goto 7, 3) := by decide +kernel
theorem dX9_rank_99 : decode cX9_rank 99 = .ok (.iload 7, 2) := by decide +kernel
theorem dX9_rank_101 : decode cX9_rank 101 = .ok (.istore 5, 2) := by decide +kernel
theorem dX9_rank_103 : decode cX9_rank 103 = .ok (.iinc 6 (-1), 3) := by decide +kernel
theorem dX9_rank_106 : decode cX9_rank 106 = .ok (.goto (-73), 3) := by decide +kernel
theorem dX9_rank_109 : decode cX9_rank 109 = .ok (.iload 4, 2) := by decide +kernel
theorem dX9_rank_111 : decode cX9_rank 111 = .ok (.ireturn, 1) := by decide +kernel
theorem dX9_drop_0 : decode cX9_drop 0 = .ok (.aload_n 0, 1) := by decide +kernel
theorem dX9_drop_1 : decode cX9_drop 1 = .ok (.iload_n 1, 1) := by decide +kernel
theorem dX9_drop_2 : decode cX9_drop 2 = .ok (.invokevirtual 254, 3) := by decide +kernel
theorem dX9_drop_5 : decode cX9_drop 5 = .ok (.aload_n 0, 1) := by decide +kernel
theorem dX9_drop_6 : decode cX9_drop 6 = .ok (.invokevirtual 111, 3) := by decide +kernel
theorem dX9_drop_9 : decode cX9_drop 9 = .ok (.aload_n 0, 1) := by decide +kernel
theorem dX9_drop_10 : decode cX9_drop 10 = .ok (.getfield 36, 3) := by decide +kernel
theorem dX9_drop_13 : decode cX9_drop 13 = .ok (.aload_n 0, 1) := by decide +kernel
theorem dX9_drop_14 : decode cX9_drop 14 = .ok (.getfield 88, 3) := by decide +kernel
theorem dX9_drop_17 : decode cX9_drop 17 = .ok (.iload_n 1, 1) := by decide +kernel
theorem dX9_drop_18 : decode cX9_drop 18 = .ok (.invokevirtual 238, 3) := by decide +kernel
theorem dX9_drop_21 : decode cX9_drop 21 = .ok (.invokevirtual 278, 3) := by decide +kernel
theorem dX9_drop_24 : decode cX9_drop 24 = .ok (.aload_n 0, 1) := by decide +kernel
theorem dX9_drop_25 : decode cX9_drop 25 = .ok (.getfield 88, 3) := by decide +kernel
theorem dX9_drop_28 : decode cX9_drop 28 = .ok (.iload_n 1, 1) := by decide +kernel
theorem dX9_drop_29 : decode cX9_drop 29 = .ok (.invokevirtual 281, 3) := by decide +kernel
theorem dX9_drop_32 : decode cX9_drop 32 = .ok (.aload_n 0, 1) := by decide +kernel
theorem dX9_drop_33 : decode cX9_drop 33 = .ok (.getfield 88, 3) := by decide +kernel
theorem dX9_drop_36 : decode cX9_drop 36 = .ok (.invokevirtual 114, 3) := by decide +kernel
theorem dX9_drop_39 : decode cX9_drop 39 = .ok (.ireturn, 1) := by decide +kernel
theorem dX9_count_0 : decode cX9_count 0 = .ok (.iload_n 1, 1) := by decide +kernel
theorem dX9_count_1 : decode cX9_count 1 = .ok (.tableswitch 164 0 11 #[63, 71, 79, 87, 95, 103, 111, 119, 127, 135, 140, 148], 63) := by decide +kernel
theorem dX9_count_64 : decode cX9_count 64 = .ok (.aload_n 0, 1) := by decide +kernel
theorem dX9_count_65 : decode cX9_count 65 = .ok (.getfield 18, 3) := by decide +kernel
theorem dX9_count_68 : decode cX9_count 68 = .ok (.getfield 284, 3) := by decide +kernel
theorem dX9_count_71 : decode cX9_count 71 = .ok (.ireturn, 1) := by decide +kernel
theorem dX9_count_72 : decode cX9_count 72 = .ok (.aload_n 0, 1) := by decide +kernel
theorem dX9_count_73 : decode cX9_count 73 = .ok (.getfield 18, 3) := by decide +kernel
theorem dX9_count_76 : decode cX9_count 76 = .ok (.getfield 287, 3) := by decide +kernel
theorem dX9_count_79 : decode cX9_count 79 = .ok (.ireturn, 1) := by decide +kernel
theorem dX9_count_80 : decode cX9_count 80 = .ok (.aload_n 0, 1) := by decide +kernel
theorem dX9_count_81 : decode cX9_count 81 = .ok (.getfield 18, 3) := by decide +kernel
theorem dX9_count_84 : decode cX9_count 84 = .ok (.getfield 290, 3) := by decide +kernel
theorem dX9_count_87 : decode cX9_count 87 = .ok (.ireturn, 1) := by decide +kernel
theorem dX9_count_88 : decode cX9_count 88 = .ok (.aload_n 0, 1) := by decide +kernel
theorem dX9_count_89 : decode cX9_count 89 = .ok (.getfield 18, 3) := by decide +kernel
theorem dX9_count_92 : decode cX9_count 92 = .ok (.getfield 293, 3) := by decide +kernel
theorem dX9_count_95 : decode cX9_count 95 = .ok (.ireturn, 1) := by decide +kernel
theorem dX9_count_96 : decode cX9_count 96 = .ok (.aload_n 0, 1) := by decide +kernel
theorem dX9_count_97 : decode cX9_count 97 = .ok (.getfield 18, 3) := by decide +kernel
theorem dX9_count_100 : decode cX9_count 100 = .ok (.invokevirtual 296, 3) := by decide +kernel
theorem dX9_count_103 : decode cX9_count 103 = .ok (.ireturn, 1) := by decide +kernel
theorem dX9_count_104 : decode cX9_count 104 = .ok (.aload_n 0, 1) := by decide +kernel
theorem dX9_count_105 : decode cX9_count 105 = .ok (.getfield 45, 3) := by decide +kernel
theorem dX9_count_108 : decode cX9_count 108 = .ok (.getfield 299, 3) := by decide +kernel
theorem dX9_count_111 : decode cX9_count 111 = .ok (.ireturn, 1) := by decide +kernel
theorem dX9_count_112 : decode cX9_count 112 = .ok (.aload_n 0, 1) := by decide +kernel
theorem dX9_count_113 : decode cX9_count 113 = .ok (.getfield 27, 3) := by decide +kernel
theorem dX9_count_116 : decode cX9_count 116 = .ok (.getfield 302, 3) := by decide +kernel
theorem dX9_count_119 : decode cX9_count 119 = .ok (.ireturn, 1) := by decide +kernel
theorem dX9_count_120 : decode cX9_count 120 = .ok (.aload_n 0, 1) := by decide +kernel
theorem dX9_count_121 : decode cX9_count 121 = .ok (.getfield 45, 3) := by decide +kernel
theorem dX9_count_124 : decode cX9_count 124 = .ok (.getfield 305, 3) := by decide +kernel
theorem dX9_count_127 : decode cX9_count 127 = .ok (.ireturn, 1) := by decide +kernel
theorem dX9_count_128 : decode cX9_count 128 = .ok (.aload_n 0, 1) := by decide +kernel
theorem dX9_count_129 : decode cX9_count 129 = .ok (.getfield 27, 3) := by decide +kernel
theorem dX9_count_132 : decode cX9_count 132 = .ok (.getfield 308, 3) := by decide +kernel
theorem dX9_count_135 : decode cX9_count 135 = .ok (.ireturn, 1) := by decide +kernel
theorem dX9_count_136 : decode cX9_count 136 = .ok (.aload_n 0, 1) := by decide +kernel
theorem dX9_count_137 : decode cX9_count 137 = .ok (.getfield 152, 3) := by decide +kernel
theorem dX9_count_140 : decode cX9_count 140 = .ok (.ireturn, 1) := by decide +kernel
theorem dX9_count_141 : decode cX9_count 141 = .ok (.aload_n 0, 1) := by decide +kernel
theorem dX9_count_142 : decode cX9_count 142 = .ok (.getfield 27, 3) := by decide +kernel
theorem dX9_count_145 : decode cX9_count 145 = .ok (.getfield 129, 3) := by decide +kernel
theorem dX9_count_148 : decode cX9_count 148 = .ok (.ireturn, 1) := by decide +kernel
theorem dX9_count_149 : decode cX9_count 149 = .ok (.aload_n 0, 1) := by decide +kernel
theorem dX9_count_150 : decode cX9_count 150 = .ok (.getfield 18, 3) := by decide +kernel
theorem dX9_count_153 : decode cX9_count 153 = .ok (.getfield 311, 3) := by decide +kernel
theorem dX9_count_156 : decode cX9_count 156 = .ok (.ifCond .eq 7, 3) := by decide +kernel
theorem dX9_count_159 : decode cX9_count 159 = .ok (.iconst 1, 1) := by decide +kernel
theorem dX9_count_160 : decode cX9_count 160 = .ok (.goto 4, 3) := by decide +kernel
theorem dX9_count_163 : decode cX9_count 163 = .ok (.iconst 0, 1) := by decide +kernel
theorem dX9_count_164 : decode cX9_count 164 = .ok (.ireturn, 1) := by decide +kernel
theorem dX9_count_165 : decode cX9_count 165 = .ok (.new 104, 3) := by decide +kernel
theorem dX9_count_168 : decode cX9_count 168 = .ok (.dup, 1) := by decide +kernel
theorem dX9_count_169 : decode cX9_count 169 = .ok (.ldc_w 315, 3) := by decide +kernel
theorem dX9_count_172 : decode cX9_count 172 = .ok (.invokespecial 108, 3) := by decide +kernel
theorem dX9_count_175 : decode cX9_count 175 = .ok (.athrow, 1) := by decide +kernel
theorem dX9_crash_0 : decode cX9_crash 0 = .ok (.iload_n 1, 1) := by decide +kernel
theorem dX9_crash_1 : decode cX9_crash 1 = .ok (.iconst (-1), 1) := by decide +kernel
theorem dX9_crash_2 : decode cX9_crash 2 = .ok (.if_icmp .lt 10, 3) := by decide +kernel
theorem dX9_crash_5 : decode cX9_crash 5 = .ok (.iload_n 1, 1) := by decide +kernel
theorem dX9_crash_6 : decode cX9_crash 6 = .ok (.ldc_w 317, 3) := by decide +kernel
theorem dX9_crash_9 : decode cX9_crash 9 = .ok (.if_icmp .le 14, 3) := by decide +kernel
theorem dX9_crash_12 : decode cX9_crash 12 = .ok (.new 104, 3) := by decide +kernel
theorem dX9_crash_15 : decode cX9_crash 15 = .ok (.dup, 1) := by decide +kernel
theorem dX9_crash_16 : decode cX9_crash 16 = .ok (.ldc_w 318, 3) := by decide +kernel
theorem dX9_crash_19 : decode cX9_crash 19 = .ok (.invokespecial 108, 3) := by decide +kernel
theorem dX9_crash_22 : decode cX9_crash 22 = .ok (.athrow, 1) := by decide +kernel
theorem dX9_crash_23 : decode cX9_crash 23 = .ok (.aload_n 0, 1) := by decide +kernel
theorem dX9_crash_24 : decode cX9_crash 24 = .ok (.invokevirtual 111, 3) := by decide +kernel
theorem dX9_crash_27 : decode cX9_crash 27 = .ok (.aload_n 0, 1) := by decide +kernel
theorem dX9_crash_28 : decode cX9_crash 28 = .ok (.getfield 18, 3) := by decide +kernel
theorem dX9_crash_31 : decode cX9_crash 31 = .ok (.iload_n 1, 1) := by decide +kernel
theorem dX9_crash_32 : decode cX9_crash 32 = .ok (.putfield 320, 3) := by decide +kernel
theorem dX9_crash_35 : decode cX9_crash 35 = .ok (.return_, 1) := by decide +kernel
theorem dX9_up_0 : decode cX9_up 0 = .ok (.aload_n 0, 1) := by decide +kernel
theorem dX9_up_1 : decode cX9_up 1 = .ok (.getfield 18, 3) := by decide +kernel
theorem dX9_up_4 : decode cX9_up 4 = .ok (.getfield 311, 3) := by decide +kernel
theorem dX9_up_7 : decode cX9_up 7 = .ok (.ifCond .ne 14, 3) := by decide +kernel
theorem dX9_up_10 : decode cX9_up 10 = .ok (.new 121, 3) := by decide +kernel
theorem dX9_up_13 : decode cX9_up 13 = .ok (.dup, 1) := by decide +kernel
theorem dX9_up_14 : decode cX9_up 14 = .ok (.ldc_w 323, 3) := by decide +kernel
theorem dX9_up_17 : decode cX9_up 17 = .ok (.invokespecial 125, 3) := by decide +kernel
theorem dX9_up_20 : decode cX9_up 20 = .ok (.athrow, 1) := by decide +kernel
theorem dX9_up_21 : decode cX9_up 21 = .ok (.aload_n 0, 1) := by decide +kernel
theorem dX9_up_22 : decode cX9_up 22 = .ok (.getfield 18, 3) := by decide +kernel
theorem dX9_up_25 : decode cX9_up 25 = .ok (.iconst 0, 1) := by decide +kernel
theorem dX9_up_26 : decode cX9_up 26 = .ok (.putfield 311, 3) := by decide +kernel
theorem dX9_up_29 : decode cX9_up 29 = .ok (.aload_n 0, 1) := by decide +kernel
theorem dX9_up_30 : decode cX9_up 30 = .ok (.getfield 18, 3) := by decide +kernel
theorem dX9_up_33 : decode cX9_up 33 = .ok (.iconst (-1), 1) := by decide +kernel
theorem dX9_up_34 : decode cX9_up 34 = .ok (.putfield 320, 3) := by decide +kernel
theorem dX9_up_37 : decode cX9_up 37 = .ok (.aload_n 0, 1) := by decide +kernel
theorem dX9_up_38 : decode cX9_up 38 = .ok (.getfield 88, 3) := by decide +kernel
theorem dX9_up_41 : decode cX9_up 41 = .ok (.invokevirtual 114, 3) := by decide +kernel
theorem dX9_up_44 : decode cX9_up 44 = .ok (.ireturn, 1) := by decide +kernel
theorem dX9_within_0 : decode cX9_within 0 = .ok (.iload_n 1, 1) := by decide +kernel
theorem dX9_within_1 : decode cX9_within 1 = .ok (.iload_n 0, 1) := by decide +kernel
theorem dX9_within_2 : decode cX9_within 2 = .ok (.iload_n 2, 1) := by decide +kernel
theorem dX9_within_3 : decode cX9_within 3 = .ok (.invokestatic 232, 3) := by decide +kernel
theorem dX9_within_6 : decode cX9_within 6 = .ok (.invokestatic 325, 3) := by decide +kernel
theorem dX9_within_9 : decode cX9_within 9 = .ok (.ireturn, 1) := by decide +kernel
theorem dX9_needPower_0 : decode cX9_needPower 0 = .ok (.aload_n 0, 1) := by decide +kernel
theorem dX9_needPower_1 : decode cX9_needPower 1 = .ok (.getfield 18, 3) := by decide +kernel
theorem dX9_needPower_4 : decode cX9_needPower 4 = .ok (.getfield 311, 3) := by decide +kernel
theorem dX9_needPower_7 : decode cX9_needPower 7 = .ok (.ifCond .eq 14, 3) := by decide +kernel
theorem dX9_needPower_10 : decode cX9_needPower 10 = .ok (.new 121, 3) := by decide +kernel
theorem dX9_needPower_13 : decode cX9_needPower 13 = .ok (.dup, 1) := by decide +kernel
theorem dX9_needPower_14 : decode cX9_needPower 14 = .ok (.ldc_w 328, 3) := by decide +kernel
theorem dX9_needPower_17 : decode cX9_needPower 17 = .ok (.invokespecial 125, 3) := by decide +kernel
theorem dX9_needPower_20 : decode cX9_needPower 20 = .ok (.athrow, 1) := by decide +kernel
theorem dX9_needPower_21 : decode cX9_needPower 21 = .ok (.return_, 1) := by decide +kernel
theorem dX9_needFan_0 : decode cX9_needFan 0 = .ok (.iload_n 1, 1) := by decide +kernel
theorem dX9_needFan_1 : decode cX9_needFan 1 = .ok (.iconst 2, 1) := by decide +kernel
theorem dX9_needFan_2 : decode cX9_needFan 2 = .ok (.if_icmp .lt 9, 3) := by decide +kernel
theorem dX9_needFan_5 : decode cX9_needFan 5 = .ok (.iload_n 1, 1) := by decide +kernel
theorem dX9_needFan_6 : decode cX9_needFan 6 = .ok (.bipush 8, 2) := by decide +kernel
theorem dX9_needFan_8 : decode cX9_needFan 8 = .ok (.if_icmp .le 14, 3) := by decide +kernel
theorem dX9_needFan_11 : decode cX9_needFan 11 = .ok (.new 104, 3) := by decide +kernel
theorem dX9_needFan_14 : decode cX9_needFan 14 = .ok (.dup, 1) := by decide +kernel
theorem dX9_needFan_15 : decode cX9_needFan 15 = .ok (.ldc_w 330, 3) := by decide +kernel
theorem dX9_needFan_18 : decode cX9_needFan 18 = .ok (.invokespecial 108, 3) := by decide +kernel
theorem dX9_needFan_21 : decode cX9_needFan 21 = .ok (.athrow, 1) := by decide +kernel
theorem dX9_needFan_22 : decode cX9_needFan 22 = .ok (.return_, 1) := by decide +kernel
theorem dX9_needRun_0 : decode cX9_needRun 0 = .ok (.iload_n 1, 1) := by decide +kernel
theorem dX9_needRun_1 : decode cX9_needRun 1 = .ok (.ifCond .lt 14, 3) := by decide +kernel
theorem dX9_needRun_4 : decode cX9_needRun 4 = .ok (.iload_n 1, 1) := by decide +kernel
theorem dX9_needRun_5 : decode cX9_needRun 5 = .ok (.aload_n 0, 1) := by decide +kernel
theorem dX9_needRun_6 : decode cX9_needRun 6 = .ok (.getfield 88, 3) := by decide +kernel
theorem dX9_needRun_9 : decode cX9_needRun 9 = .ok (.invokevirtual 114, 3) := by decide +kernel
theorem dX9_needRun_12 : decode cX9_needRun 12 = .ok (.if_icmp .lt 14, 3) := by decide +kernel
theorem dX9_needRun_15 : decode cX9_needRun 15 = .ok (.new 133, 3) := by decide +kernel
theorem dX9_needRun_18 : decode cX9_needRun 18 = .ok (.dup, 1) := by decide +kernel
theorem dX9_needRun_19 : decode cX9_needRun 19 = .ok (.ldc_w 332, 3) := by decide +kernel
theorem dX9_needRun_22 : decode cX9_needRun 22 = .ok (.invokespecial 137, 3) := by decide +kernel
theorem dX9_needRun_25 : decode cX9_needRun 25 = .ok (.athrow, 1) := by decide +kernel
theorem dX9_needRun_26 : decode cX9_needRun 26 = .ok (.return_, 1) := by decide +kernel
theorem dX9_answerFor_0 : decode cX9_answerFor 0 = .ok (.iload_n 1, 1) := by decide +kernel
theorem dX9_answerFor_1 : decode cX9_answerFor 1 = .ok (.ifCond .ne 24, 3) := by decide +kernel
theorem dX9_answerFor_4 : decode cX9_answerFor 4 = .ok (.aload_n 0, 1) := by decide +kernel
theorem dX9_answerFor_5 : decode cX9_answerFor 5 = .ok (.getfield 18, 3) := by decide +kernel
theorem dX9_answerFor_8 : decode cX9_answerFor 8 = .ok (.getfield 311, 3) := by decide +kernel
theorem dX9_answerFor_11 : decode cX9_answerFor 11 = .ok (.ifCond .ne 14, 3) := by decide +kernel
theorem dX9_answerFor_14 : decode cX9_answerFor 14 = .ok (.new 334, 3) := by decide +kernel
theorem dX9_answerFor_17 : decode cX9_answerFor 17 = .ok (.dup, 1) := by decide +kernel
theorem dX9_answerFor_18 : decode cX9_answerFor 18 = .ok (.ldc_w 336, 3) := by decide +kernel
theorem dX9_answerFor_21 : decode cX9_answerFor 21 = .ok (.invokespecial 338, 3) := by decide +kernel
theorem dX9_answerFor_24 : decode cX9_answerFor 24 = .ok (.athrow, 1) := by decide +kernel
theorem dX9_answerFor_25 : decode cX9_answerFor 25 = .ok (.iload_n 1, 1) := by decide +kernel
theorem dX9_answerFor_26 : decode cX9_answerFor 26 = .ok (.ifCond .eq 13, 3) := by decide +kernel
theorem dX9_answerFor_29 : decode cX9_answerFor 29 = .ok (.aload_n 0, 1) := by decide +kernel
theorem dX9_answerFor_30 : decode cX9_answerFor 30 = .ok (.getfield 88, 3) := by decide +kernel
theorem dX9_answerFor_33 : decode cX9_answerFor 33 = .ok (.invokevirtual 114, 3) := by decide +kernel
theorem dX9_answerFor_36 : decode cX9_answerFor 36 = .ok (.goto 5, 3) := by decide +kernel
theorem dX9_answerFor_39 : decode cX9_answerFor 39 = .ok (.bipush (-2), 2) := by decide +kernel
theorem dX9_answerFor_41 : decode cX9_answerFor 41 = .ok (.ireturn, 1) := by decide +kernel
theorem dX9_setComing_0 : decode cX9_setComing 0 = .ok (.iload_n 1, 1) := by decide +kernel
theorem dX9_setComing_1 : decode cX9_setComing 1 = .ok (.ifCond .lt 19, 3) := by decide +kernel
theorem dX9_setComing_4 : decode cX9_setComing 4 = .ok (.iload_n 1, 1) := by decide +kernel
theorem dX9_setComing_5 : decode cX9_setComing 5 = .ok (.aload_n 0, 1) := by decide +kernel
theorem dX9_setComing_6 : decode cX9_setComing 6 = .ok (.getfield 92, 3) := by decide +kernel
theorem dX9_setComing_9 : decode cX9_setComing 9 = .ok (.arraylength, 1) := by decide +kernel
theorem dX9_setComing_10 : decode cX9_setComing 10 = .ok (.if_icmp .ge 10, 3) := by decide +kernel
theorem dX9_setComing_13 : decode cX9_setComing 13 = .ok (.aload_n 0, 1) := by decide +kernel
theorem dX9_setComing_14 : decode cX9_setComing 14 = .ok (.getfield 92, 3) := by decide +kernel
theorem dX9_setComing_17 : decode cX9_setComing 17 = .ok (.iload_n 1, 1) := by decide +kernel
theorem dX9_setComing_18 : decode cX9_setComing 18 = .ok (.lload_n 2, 1) := by decide +kernel
theorem dX9_setComing_19 : decode cX9_setComing 19 = .ok (.lastore, 1) := by decide +kernel
theorem dX9_setComing_20 : decode cX9_setComing 20 = .ok (.return_, 1) := by decide +kernel
theorem dX9_look_0 : decode cX9_look 0 = .ok (.iconst 1, 1) := by decide +kernel
theorem dX9_look_1 : decode cX9_look 1 = .ok (.aload_n 0, 1) := by decide +kernel
theorem dX9_look_2 : decode cX9_look 2 = .ok (.getfield 27, 3) := by decide +kernel
theorem dX9_look_5 : decode cX9_look 5 = .ok (.getfield 302, 3) := by decide +kernel
theorem dX9_look_8 : decode cX9_look 8 = .ok (.invokestatic 325, 3) := by decide +kernel
theorem dX9_look_11 : decode cX9_look 11 = .ok (.istore 4, 2) := by decide +kernel
theorem dX9_look_13 : decode cX9_look 13 = .ok (.aload_n 0, 1) := by decide +kernel
theorem dX9_look_14 : decode cX9_look 14 = .ok (.getfield 36, 3) := by decide +kernel
theorem dX9_look_17 : decode cX9_look 17 = .ok (.iload_n 1, 1) := by decide +kernel
theorem dX9_look_18 : decode cX9_look 18 = .ok (.iload_n 2, 1) := by decide +kernel
theorem dX9_look_19 : decode cX9_look 19 = .ok (.iload 4, 2) := by decide +kernel
theorem dX9_look_21 : decode cX9_look 21 = .ok (.idiv, 1) := by decide +kernel
theorem dX9_look_22 : decode cX9_look 22 = .ok (.invokevirtual 260, 3) := by decide +kernel
theorem dX9_look_25 : decode cX9_look 25 = .ok (.istore 5, 2) := by decide +kernel
theorem dX9_look_27 : decode cX9_look 27 = .ok (.iload 5, 2) := by decide +kernel
theorem dX9_look_29 : decode cX9_look 29 = .ok (.aload_n 0, 1) := by decide +kernel
theorem dX9_look_30 : decode cX9_look 30 = .ok (.getfield 18, 3) := by decide +kernel
theorem dX9_look_33 : decode cX9_look 33 = .ok (.getfield 293, 3) := by decide +kernel
theorem dX9_look_36 : decode cX9_look 36 = .ok (.if_icmp .eq 12, 3) := by decide +kernel
theorem dX9_look_39 : decode cX9_look 39 = .ok (.aload_n 0, 1) := by decide +kernel
theorem dX9_look_40 : decode cX9_look 40 = .ok (.getfield 18, 3) := by decide +kernel
theorem dX9_look_43 : decode cX9_look 43 = .ok (.iload 5, 2) := by decide +kernel
theorem dX9_look_45 : decode cX9_look 45 = .ok (.invokevirtual 339, 3) := by decide +kernel
theorem dX9_look_48 : decode cX9_look 48 = .ok (.aload_n 0, 1) := by decide +kernel
theorem dX9_look_49 : decode cX9_look 49 = .ok (.getfield 18, 3) := by decide +kernel
theorem dX9_look_52 : decode cX9_look 52 = .ok (.iload 5, 2) := by decide +kernel
theorem dX9_look_54 : decode cX9_look 54 = .ok (.aload_n 0, 1) := by decide +kernel
theorem dX9_look_55 : decode cX9_look 55 = .ok (.getfield 18, 3) := by decide +kernel
theorem dX9_look_58 : decode cX9_look 58 = .ok (.getfield 342, 3) := by decide +kernel
theorem dX9_look_61 : decode cX9_look 61 = .ok (.imul, 1) := by decide +kernel
theorem dX9_look_62 : decode cX9_look 62 = .ok (.iload_n 2, 1) := by decide +kernel
theorem dX9_look_63 : decode cX9_look 63 = .ok (.iload 4, 2) := by decide +kernel
theorem dX9_look_65 : decode cX9_look 65 = .ok (.irem, 1) := by decide +kernel
theorem dX9_look_66 : decode cX9_look 66 = .ok (.aload_n 0, 1) := by decide +kernel
theorem dX9_look_67 : decode cX9_look 67 = .ok (.getfield 27, 3) := by decide +kernel
theorem dX9_look_70 : decode cX9_look 70 = .ok (.getfield 344, 3) := by decide +kernel
theorem dX9_look_73 : decode cX9_look 73 = .ok (.imul, 1) := by decide +kernel
theorem dX9_look_74 : decode cX9_look 74 = .ok (.iadd, 1) := by decide +kernel
theorem dX9_look_75 : decode cX9_look 75 = .ok (.iload_n 3, 1) := by decide +kernel
theorem dX9_look_76 : decode cX9_look 76 = .ok (.iadd, 1) := by decide +kernel
theorem dX9_look_77 : decode cX9_look 77 = .ok (.invokevirtual 347, 3) := by decide +kernel
theorem dX9_look_80 : decode cX9_look 80 = .ok (.lreturn, 1) := by decide +kernel
theorem dX9_fillMemory_0 : decode cX9_fillMemory 0 = .ok (.iconst 0, 1) := by decide +kernel
theorem dX9_fillMemory_1 : decode cX9_fillMemory 1 = .ok (.istore_n 1, 1) := by decide +kernel
theorem dX9_fillMemory_2 : decode cX9_fillMemory 2 = .ok (.iload_n 1, 1) := by decide +kernel
theorem dX9_fillMemory_3 : decode cX9_fillMemory 3 = .ok (.aload_n 0, 1) := by decide +kernel
theorem dX9_fillMemory_4 : decode cX9_fillMemory 4 = .ok (.getfield 63, 3) := by decide +kernel
theorem dX9_fillMemory_7 : decode cX9_fillMemory 7 = .ok (.getfield 351, 3) := by decide +kernel
theorem dX9_fillMemory_10 : decode cX9_fillMemory 10 = .ok (.if_icmp .ge 34, 3) := by decide +kernel
theorem dX9_fillMemory_13 : decode cX9_fillMemory 13 = .ok (.aload_n 0, 1) := by decide +kernel
theorem dX9_fillMemory_14 : decode cX9_fillMemory 14 = .ok (.getfield 45, 3) := by decide +kernel
theorem dX9_fillMemory_17 : decode cX9_fillMemory 17 = .ok (.getfield 354, 3) := by decide +kernel
theorem dX9_fillMemory_20 : decode cX9_fillMemory 20 = .ok (.ifCond .le 24, 3) := by decide +kernel
theorem dX9_fillMemory_23 : decode cX9_fillMemory 23 = .ok (.aload_n 0, 1) := by decide +kernel
theorem dX9_fillMemory_24 : decode cX9_fillMemory 24 = .ok (.getfield 63, 3) := by decide +kernel
theorem dX9_fillMemory_27 : decode cX9_fillMemory 27 = .ok (.aload_n 0, 1) := by decide +kernel
theorem dX9_fillMemory_28 : decode cX9_fillMemory 28 = .ok (.getfield 45, 3) := by decide +kernel
theorem dX9_fillMemory_31 : decode cX9_fillMemory 31 = .ok (.invokevirtual 357, 3) := by decide +kernel
theorem dX9_fillMemory_34 : decode cX9_fillMemory 34 = .ok (.iconst 0, 1) := by decide +kernel
theorem dX9_fillMemory_35 : decode cX9_fillMemory 35 = .ok (.invokevirtual 360, 3) := by decide +kernel
theorem dX9_fillMemory_38 : decode cX9_fillMemory 38 = .ok (.iinc 1 1, 3) := by decide +kernel
theorem dX9_fillMemory_41 : decode cX9_fillMemory 41 = .ok (.goto (-39), 3) := by decide +kernel
theorem dX9_fillMemory_44 : decode cX9_fillMemory 44 = .ok (.return_, 1) := by decide +kernel
theorem dX9_loadRuns_0 : decode cX9_loadRuns 0 = .ok (.aload_n 0, 1) := by decide +kernel
theorem dX9_loadRuns_1 : decode cX9_loadRuns 1 = .ok (.getfield 63, 3) := by decide +kernel
theorem dX9_loadRuns_4 : decode cX9_loadRuns 4 = .ok (.invokevirtual 363, 3) := by decide +kernel
theorem dX9_loadRuns_7 : decode cX9_loadRuns 7 = .ok (.aload_n 0, 1) := by decide +kernel
theorem dX9_loadRuns_8 : decode cX9_loadRuns 8 = .ok (.getfield 45, 3) := by decide +kernel
theorem dX9_loadRuns_11 : decode cX9_loadRuns 11 = .ok (.getfield 354, 3) := by decide +kernel
theorem dX9_loadRuns_14 : decode cX9_loadRuns 14 = .ok (.istore_n 1, 1) := by decide +kernel
theorem dX9_loadRuns_15 : decode cX9_loadRuns 15 = .ok (.iload_n 1, 1) := by decide +kernel
theorem dX9_loadRuns_16 : decode cX9_loadRuns 16 = .ok (.ifCond .le 72, 3) := by decide +kernel
theorem dX9_loadRuns_19 : decode cX9_loadRuns 19 = .ok (.aload_n 0, 1) := by decide +kernel
theorem dX9_loadRuns_20 : decode cX9_loadRuns 20 = .ok (.getfield 45, 3) := by decide +kernel
theorem dX9_loadRuns_23 : decode cX9_loadRuns 23 = .ok (.getfield 354, 3) := by decide +kernel
theorem dX9_loadRuns_26 : decode cX9_loadRuns 26 = .ok (.ifCond .le 62, 3) := by decide +kernel
theorem dX9_loadRuns_29 : decode cX9_loadRuns 29 = .ok (.aload_n 0, 1) := by decide +kernel
theorem dX9_loadRuns_30 : decode cX9_loadRuns 30 = .ok (.invokevirtual 366, 3) := by decide +kernel
theorem dX9_loadRuns_33 : decode cX9_loadRuns 33 = .ok (.aload_n 0, 1) := by decide +kernel
theorem dX9_loadRuns_34 : decode cX9_loadRuns 34 = .ok (.getfield 63, 3) := by decide +kernel
theorem dX9_loadRuns_37 : decode cX9_loadRuns 37 = .ok (.getfield 369, 3) := by decide +kernel
theorem dX9_loadRuns_40 : decode cX9_loadRuns 40 = .ok (.istore_n 2, 1) := by decide +kernel
theorem dX9_loadRuns_41 : decode cX9_loadRuns 41 = .ok (.iload_n 2, 1) := by decide +kernel
theorem dX9_loadRuns_42 : decode cX9_loadRuns 42 = .ok (.ifCond .le 28, 3) := by decide +kernel
theorem dX9_loadRuns_45 : decode cX9_loadRuns 45 = .ok (.aload_n 0, 1) := by decide +kernel
theorem dX9_loadRuns_46 : decode cX9_loadRuns 46 = .ok (.getfield 54, 3) := by decide +kernel
theorem dX9_loadRuns_49 : decode cX9_loadRuns 49 = .ok (.aload_n 0, 1) := by decide +kernel
theorem dX9_loadRuns_50 : decode cX9_loadRuns 50 = .ok (.getfield 63, 3) := by decide +kernel
theorem dX9_loadRuns_53 : decode cX9_loadRuns 53 = .ok (.invokevirtual 370, 3) := by decide +kernel
theorem dX9_loadRuns_56 : decode cX9_loadRuns 56 = .ok (.invokevirtual 373, 3) := by decide +kernel
theorem dX9_loadRuns_59 : decode cX9_loadRuns 59 = .ok (.ifCond .ne 5, 3) := by decide +kernel
theorem dX9_loadRuns_62 : decode cX9_loadRuns 62 = .ok (.iconst 0, 1) := by decide +kernel
theorem dX9_loadRuns_63 : decode cX9_loadRuns 63 = .ok (.ireturn, 1) := by decide +kernel
theorem dX9_loadRuns_64 : decode cX9_loadRuns 64 = .ok (.iinc 2 (-1), 3) := by decide +kernel
theorem dX9_loadRuns_67 : decode cX9_loadRuns 67 = .ok (.goto (-26), 3) := by decide +kernel
theorem dX9_loadRuns_70 : decode cX9_loadRuns 70 = .ok (.aload_n 0, 1) := by decide +kernel
theorem dX9_loadRuns_71 : decode cX9_loadRuns 71 = .ok (.getfield 54, 3) := by decide +kernel
theorem dX9_loadRuns_74 : decode cX9_loadRuns 74 = .ok (.invokevirtual 376, 3) := by decide +kernel
theorem dX9_loadRuns_77 : decode cX9_loadRuns 77 = .ok (.ifCond .ne 5, 3) := by decide +kernel
theorem dX9_loadRuns_80 : decode cX9_loadRuns 80 = .ok (.iconst 0, 1) := by decide +kernel
theorem dX9_loadRuns_81 : decode cX9_loadRuns 81 = .ok (.ireturn, 1) := by decide +kernel
theorem dX9_loadRuns_82 : decode cX9_loadRuns 82 = .ok (.iinc 1 (-1), 3) := by decide +kernel
theorem dX9_loadRuns_85 : decode cX9_loadRuns 85 = .ok (.goto (-70), 3) := by decide +kernel
theorem dX9_loadRuns_88 : decode cX9_loadRuns 88 = .ok (.iconst 1, 1) := by decide +kernel
theorem dX9_loadRuns_89 : decode cX9_loadRuns 89 = .ok (.ireturn, 1) := by decide +kernel
theorem dX9_chooseRuns_0 : decode cX9_chooseRuns 0 = .ok (.aload_n 0, 1) := by decide +kernel
theorem dX9_chooseRuns_1 : decode cX9_chooseRuns 1 = .ok (.getfield 63, 3) := by decide +kernel
theorem dX9_chooseRuns_4 : decode cX9_chooseRuns 4 = .ok (.invokevirtual 363, 3) := by decide +kernel
theorem dX9_chooseRuns_7 : decode cX9_chooseRuns 7 = .ok (.iconst 0, 1) := by decide +kernel
theorem dX9_chooseRuns_8 : decode cX9_chooseRuns 8 = .ok (.istore_n 1, 1) := by decide +kernel
theorem dX9_chooseRuns_9 : decode cX9_chooseRuns 9 = .ok (.aload_n 0, 1) := by decide +kernel
theorem dX9_chooseRuns_10 : decode cX9_chooseRuns 10 = .ok (.getfield 45, 3) := by decide +kernel
theorem dX9_chooseRuns_13 : decode cX9_chooseRuns 13 = .ok (.getfield 354, 3) := by decide +kernel
theorem dX9_chooseRuns_16 : decode cX9_chooseRuns 16 = .ok (.istore_n 2, 1) := by decide +kernel
theorem dX9_chooseRuns_17 : decode cX9_chooseRuns 17 = .ok (.aload_n 0, 1) := by decide +kernel
theorem dX9_chooseRuns_18 : decode cX9_chooseRuns 18 = .ok (.invokevirtual 366, 3) := by decide +kernel
theorem dX9_chooseRuns_21 : decode cX9_chooseRuns 21 = .ok (.iload_n 2, 1) := by decide +kernel
theorem dX9_chooseRuns_22 : decode cX9_chooseRuns 22 = .ok (.istore_n 3, 1) := by decide +kernel
theorem dX9_chooseRuns_23 : decode cX9_chooseRuns 23 = .ok (.iload_n 3, 1) := by decide +kernel
theorem dX9_chooseRuns_24 : decode cX9_chooseRuns 24 = .ok (.ifCond .le 112, 3) := by decide +kernel
theorem dX9_chooseRuns_27 : decode cX9_chooseRuns 27 = .ok (.aload_n 0, 1) := by decide +kernel
theorem dX9_chooseRuns_28 : decode cX9_chooseRuns 28 = .ok (.getfield 63, 3) := by decide +kernel
theorem dX9_chooseRuns_31 : decode cX9_chooseRuns 31 = .ok (.invokevirtual 379, 3) := by decide +kernel
theorem dX9_chooseRuns_34 : decode cX9_chooseRuns 34 = .ok (.iload_n 1, 1) := by decide +kernel
theorem dX9_chooseRuns_35 : decode cX9_chooseRuns 35 = .ok (.if_icmp .eq 23, 3) := by decide +kernel
theorem dX9_chooseRuns_38 : decode cX9_chooseRuns 38 = .ok (.aload_n 0, 1) := by decide +kernel
theorem dX9_chooseRuns_39 : decode cX9_chooseRuns 39 = .ok (.getfield 54, 3) := by decide +kernel
theorem dX9_chooseRuns_42 : decode cX9_chooseRuns 42 = .ok (.invokevirtual 376, 3) := by decide +kernel
theorem dX9_chooseRuns_45 : decode cX9_chooseRuns 45 = .ok (.ifCond .ne 5, 3) := by decide +kernel
theorem dX9_chooseRuns_48 : decode cX9_chooseRuns 48 = .ok (.iconst 0, 1) := by decide +kernel
theorem dX9_chooseRuns_49 : decode cX9_chooseRuns 49 = .ok (.ireturn, 1) := by decide +kernel
theorem dX9_chooseRuns_50 : decode cX9_chooseRuns 50 = .ok (.aload_n 0, 1) := by decide +kernel
theorem dX9_chooseRuns_51 : decode cX9_chooseRuns 51 = .ok (.getfield 63, 3) := by decide +kernel
theorem dX9_chooseRuns_54 : decode cX9_chooseRuns 54 = .ok (.invokevirtual 379, 3) := by decide +kernel
theorem dX9_chooseRuns_57 : decode cX9_chooseRuns 57 = .ok (.istore_n 1, 1) := by decide +kernel
theorem dX9_chooseRuns_58 : decode cX9_chooseRuns 58 = .ok (.aload_n 0, 1) := by decide +kernel
theorem dX9_chooseRuns_59 : decode cX9_chooseRuns 59 = .ok (.getfield 63, 3) := by decide +kernel
theorem dX9_chooseRuns_62 : decode cX9_chooseRuns 62 = .ok (.invokevirtual 370, 3) := by decide +kernel
theorem dX9_chooseRuns_65 : decode cX9_chooseRuns 65 = .ok (.istore 4, 2) := by decide +kernel
theorem dX9_chooseRuns_67 : decode cX9_chooseRuns 67 = .ok (.aload_n 0, 1) := by decide +kernel
theorem dX9_chooseRuns_68 : decode cX9_chooseRuns 68 = .ok (.getfield 54, 3) := by decide +kernel
theorem dX9_chooseRuns_71 : decode cX9_chooseRuns 71 = .ok (.iload 4, 2) := by decide +kernel
theorem dX9_chooseRuns_73 : decode cX9_chooseRuns 73 = .ok (.invokevirtual 373, 3) := by decide +kernel
theorem dX9_chooseRuns_76 : decode cX9_chooseRuns 76 = .ok (.ifCond .ne 5, 3) := by decide +kernel
theorem dX9_chooseRuns_79 : decode cX9_chooseRuns 79 = .ok (.iconst 0, 1) := by decide +kernel
theorem dX9_chooseRuns_80 : decode cX9_chooseRuns 80 = .ok (.ireturn, 1) := by decide +kernel
theorem dX9_chooseRuns_81 : decode cX9_chooseRuns 81 = .ok (.aload_n 0, 1) := by decide +kernel
theorem dX9_chooseRuns_82 : decode cX9_chooseRuns 82 = .ok (.getfield 45, 3) := by decide +kernel
theorem dX9_chooseRuns_85 : decode cX9_chooseRuns 85 = .ok (.getfield 354, 3) := by decide +kernel
theorem dX9_chooseRuns_88 : decode cX9_chooseRuns 88 = .ok (.ifCond .le 42, 3) := by decide +kernel
theorem dX9_chooseRuns_91 : decode cX9_chooseRuns 91 = .ok (.aload_n 0, 1) := by decide +kernel
theorem dX9_chooseRuns_92 : decode cX9_chooseRuns 92 = .ok (.getfield 45, 3) := by decide +kernel
theorem dX9_chooseRuns_95 : decode cX9_chooseRuns 95 = .ok (.invokevirtual 357, 3) := by decide +kernel
theorem dX9_chooseRuns_98 : decode cX9_chooseRuns 98 = .ok (.istore 5, 2) := by decide +kernel
theorem dX9_chooseRuns_100 : decode cX9_chooseRuns 100 = .ok (.aload_n 0, 1) := by decide +kernel
theorem dX9_chooseRuns_101 : decode cX9_chooseRuns 101 = .ok (.getfield 63, 3) := by decide +kernel
theorem dX9_chooseRuns_104 : decode cX9_chooseRuns 104 = .ok (.iload 5, 2) := by decide +kernel
theorem dX9_chooseRuns_106 : decode cX9_chooseRuns 106 = .ok (.aload_n 0, 1) := by decide +kernel
theorem dX9_chooseRuns_107 : decode cX9_chooseRuns 107 = .ok (.getfield 27, 3) := by decide +kernel
theorem dX9_chooseRuns_110 : decode cX9_chooseRuns 110 = .ok (.iload 5, 2) := by decide +kernel
theorem dX9_chooseRuns_112 : decode cX9_chooseRuns 112 = .ok (.iload 4, 2) := by decide +kernel
theorem dX9_chooseRuns_114 : decode cX9_chooseRuns 114 = .ok (.invokevirtual 382, 3) := by decide +kernel
theorem dX9_chooseRuns_117 : decode cX9_chooseRuns 117 = .ok (.ifCond .eq 9, 3) := by decide +kernel
theorem dX9_chooseRuns_120 : decode cX9_chooseRuns 120 = .ok (.iload_n 1, 1) := by decide +kernel
theorem dX9_chooseRuns_121 : decode cX9_chooseRuns 121 = .ok (.iconst 1, 1) := by decide +kernel
theorem dX9_chooseRuns_122 : decode cX9_chooseRuns 122 = .ok (.iadd, 1) := by decide +kernel
theorem dX9_chooseRuns_123 : decode cX9_chooseRuns 123 = .ok (.goto 4, 3) := by decide +kernel
theorem dX9_chooseRuns_126 : decode cX9_chooseRuns 126 = .ok (.iload_n 1, 1) := by decide +kernel
theorem dX9_chooseRuns_127 : decode cX9_chooseRuns 127 = .ok (.invokevirtual 360, 3) := by decide +kernel
theorem dX9_chooseRuns_130 : decode cX9_chooseRuns 130 = .ok (.iinc 3 (-1), 3) := by decide +kernel
theorem dX9_chooseRuns_133 : decode cX9_chooseRuns 133 = .ok (.goto (-110), 3) := by decide +kernel
theorem dX9_chooseRuns_136 : decode cX9_chooseRuns 136 = .ok (.aload_n 0, 1) := by decide +kernel
theorem dX9_chooseRuns_137 : decode cX9_chooseRuns 137 = .ok (.getfield 54, 3) := by decide +kernel
theorem dX9_chooseRuns_140 : decode cX9_chooseRuns 140 = .ok (.invokevirtual 376, 3) := by decide +kernel
theorem dX9_chooseRuns_143 : decode cX9_chooseRuns 143 = .ok (.ireturn, 1) := by decide +kernel
theorem dX9_copyRuns_0 : decode cX9_copyRuns 0 = .ok (.iconst (-1), 1) := by decide +kernel
theorem dX9_copyRuns_1 : decode cX9_copyRuns 1 = .ok (.istore_n 1, 1) := by decide +kernel
theorem dX9_copyRuns_2 : decode cX9_copyRuns 2 = .ok (.aload_n 0, 1) := by decide +kernel
theorem dX9_copyRuns_3 : decode cX9_copyRuns 3 = .ok (.getfield 45, 3) := by decide +kernel
theorem dX9_copyRuns_6 : decode cX9_copyRuns 6 = .ok (.getfield 354, 3) := by decide +kernel
theorem dX9_copyRuns_9 : decode cX9_copyRuns 9 = .ok (.istore_n 2, 1) := by decide +kernel
theorem dX9_copyRuns_10 : decode cX9_copyRuns 10 = .ok (.iload_n 2, 1) := by decide +kernel
theorem dX9_copyRuns_11 : decode cX9_copyRuns 11 = .ok (.ifCond .le 61, 3) := by decide +kernel
theorem dX9_copyRuns_14 : decode cX9_copyRuns 14 = .ok (.aload_n 0, 1) := by decide +kernel
theorem dX9_copyRuns_15 : decode cX9_copyRuns 15 = .ok (.getfield 45, 3) := by decide +kernel
theorem dX9_copyRuns_18 : decode cX9_copyRuns 18 = .ok (.invokevirtual 357, 3) := by decide +kernel
theorem dX9_copyRuns_21 : decode cX9_copyRuns 21 = .ok (.istore_n 3, 1) := by decide +kernel
theorem dX9_copyRuns_22 : decode cX9_copyRuns 22 = .ok (.iload_n 1, 1) := by decide +kernel
theorem dX9_copyRuns_23 : decode cX9_copyRuns 23 = .ok (.iconst (-1), 1) := by decide +kernel
theorem dX9_copyRuns_24 : decode cX9_copyRuns 24 = .ok (.if_icmp .eq 27, 3) := by decide +kernel
theorem dX9_copyRuns_27 : decode cX9_copyRuns 27 = .ok (.aload_n 0, 1) := by decide +kernel
theorem dX9_copyRuns_28 : decode cX9_copyRuns 28 = .ok (.getfield 27, 3) := by decide +kernel
theorem dX9_copyRuns_31 : decode cX9_copyRuns 31 = .ok (.iload_n 3, 1) := by decide +kernel
theorem dX9_copyRuns_32 : decode cX9_copyRuns 32 = .ok (.iload_n 1, 1) := by decide +kernel
theorem dX9_copyRuns_33 : decode cX9_copyRuns 33 = .ok (.invokevirtual 382, 3) := by decide +kernel
theorem dX9_copyRuns_36 : decode cX9_copyRuns 36 = .ok (.ifCond .eq 15, 3) := by decide +kernel
theorem dX9_copyRuns_39 : decode cX9_copyRuns 39 = .ok (.aload_n 0, 1) := by decide +kernel
theorem dX9_copyRuns_40 : decode cX9_copyRuns 40 = .ok (.getfield 54, 3) := by decide +kernel
theorem dX9_copyRuns_43 : decode cX9_copyRuns 43 = .ok (.invokevirtual 376, 3) := by decide +kernel
theorem dX9_copyRuns_46 : decode cX9_copyRuns 46 = .ok (.ifCond .ne 5, 3) := by decide +kernel
theorem dX9_copyRuns_49 : decode cX9_copyRuns 49 = .ok (.iconst 0, 1) := by decide +kernel
theorem dX9_copyRuns_50 : decode cX9_copyRuns 50 = .ok (.ireturn, 1) := by decide +kernel
theorem dX9_copyRuns_51 : decode cX9_copyRuns 51 = .ok (.aload_n 0, 1) := by decide +kernel
theorem dX9_copyRuns_52 : decode cX9_copyRuns 52 = .ok (.getfield 54, 3) := by decide +kernel
theorem dX9_copyRuns_55 : decode cX9_copyRuns 55 = .ok (.iload_n 3, 1) := by decide +kernel
theorem dX9_copyRuns_56 : decode cX9_copyRuns 56 = .ok (.invokevirtual 373, 3) := by decide +kernel
theorem dX9_copyRuns_59 : decode cX9_copyRuns 59 = .ok (.ifCond .ne 5, 3) := by decide +kernel
theorem dX9_copyRuns_62 : decode cX9_copyRuns 62 = .ok (.iconst 0, 1) := by decide +kernel
theorem dX9_copyRuns_63 : decode cX9_copyRuns 63 = .ok (.ireturn, 1) := by decide +kernel
theorem dX9_copyRuns_64 : decode cX9_copyRuns 64 = .ok (.iload_n 3, 1) := by decide +kernel
theorem dX9_copyRuns_65 : decode cX9_copyRuns 65 = .ok (.istore_n 1, 1) := by decide +kernel
theorem dX9_copyRuns_66 : decode cX9_copyRuns 66 = .ok (.iinc 2 (-1), 3) := by decide +kernel
theorem dX9_copyRuns_69 : decode cX9_copyRuns 69 = .ok (.goto (-59), 3) := by decide +kernel
theorem dX9_copyRuns_72 : decode cX9_copyRuns 72 = .ok (.aload_n 0, 1) := by decide +kernel
theorem dX9_copyRuns_73 : decode cX9_copyRuns 73 = .ok (.getfield 54, 3) := by decide +kernel
theorem dX9_copyRuns_76 : decode cX9_copyRuns 76 = .ok (.invokevirtual 376, 3) := by decide +kernel
theorem dX9_copyRuns_79 : decode cX9_copyRuns 79 = .ok (.ireturn, 1) := by decide +kernel
theorem dX9_mergeInGroups_0 : decode cX9_mergeInGroups 0 = .ok (.iconst 0, 1) := by decide +kernel
theorem dX9_mergeInGroups_1 : decode cX9_mergeInGroups 1 = .ok (.istore_n 2, 1) := by decide +kernel
theorem dX9_mergeInGroups_2 : decode cX9_mergeInGroups 2 = .ok (.iload_n 2, 1) := by decide +kernel
theorem dX9_mergeInGroups_3 : decode cX9_mergeInGroups 3 = .ok (.aload_n 0, 1) := by decide +kernel
theorem dX9_mergeInGroups_4 : decode cX9_mergeInGroups 4 = .ok (.getfield 88, 3) := by decide +kernel
theorem dX9_mergeInGroups_7 : decode cX9_mergeInGroups 7 = .ok (.invokevirtual 114, 3) := by decide +kernel
theorem dX9_mergeInGroups_10 : decode cX9_mergeInGroups 10 = .ok (.if_icmp .ge 132, 3) := by decide +kernel
theorem dX9_mergeInGroups_13 : decode cX9_mergeInGroups 13 = .ok (.iload_n 1, 1) := by decide +kernel
theorem dX9_mergeInGroups_14 : decode cX9_mergeInGroups 14 = .ok (.aload_n 0, 1) := by decide +kernel
theorem dX9_mergeInGroups_15 : decode cX9_mergeInGroups 15 = .ok (.getfield 88, 3) := by decide +kernel
theorem dX9_mergeInGroups_18 : decode cX9_mergeInGroups 18 = .ok (.invokevirtual 114, 3) := by decide +kernel
theorem dX9_mergeInGroups_21 : decode cX9_mergeInGroups 21 = .ok (.iload_n 2, 1) := by decide +kernel
theorem dX9_mergeInGroups_22 : decode cX9_mergeInGroups 22 = .ok (.isub, 1) := by decide +kernel
theorem dX9_mergeInGroups_23 : decode cX9_mergeInGroups 23 = .ok (.invokestatic 232, 3) := by decide +kernel
theorem dX9_mergeInGroups_26 : decode cX9_mergeInGroups 26 = .ok (.istore_n 3, 1) := by decide +kernel
theorem dX9_mergeInGroups_27 : decode cX9_mergeInGroups 27 = .ok (.iload_n 3, 1) := by decide +kernel
theorem dX9_mergeInGroups_28 : decode cX9_mergeInGroups 28 = .ok (.iconst 1, 1) := by decide +kernel
theorem dX9_mergeInGroups_29 : decode cX9_mergeInGroups 29 = .ok (.if_icmp .le 107, 3) := by decide +kernel
theorem dX9_mergeInGroups_32 : decode cX9_mergeInGroups 32 = .ok (.aload_n 0, 1) := by decide +kernel
theorem dX9_mergeInGroups_33 : decode cX9_mergeInGroups 33 = .ok (.getfield 72, 3) := by decide +kernel
theorem dX9_mergeInGroups_36 : decode cX9_mergeInGroups 36 = .ok (.getfield 386, 3) := by decide +kernel
theorem dX9_mergeInGroups_39 : decode cX9_mergeInGroups 39 = .ok (.invokevirtual 389, 3) := by decide +kernel
theorem dX9_mergeInGroups_42 : decode cX9_mergeInGroups 42 = .ok (.iconst 0, 1) := by decide +kernel
theorem dX9_mergeInGroups_43 : decode cX9_mergeInGroups 43 = .ok (.istore 4, 2) := by decide +kernel
theorem dX9_mergeInGroups_45 : decode cX9_mergeInGroups 45 = .ok (.iload 4, 2) := by decide +kernel
theorem dX9_mergeInGroups_47 : decode cX9_mergeInGroups 47 = .ok (.iload_n 3, 1) := by decide +kernel
theorem dX9_mergeInGroups_48 : decode cX9_mergeInGroups 48 = .ok (.if_icmp .ge 30, 3) := by decide +kernel
theorem dX9_mergeInGroups_51 : decode cX9_mergeInGroups 51 = .ok (.aload_n 0, 1) := by decide +kernel
theorem dX9_mergeInGroups_52 : decode cX9_mergeInGroups 52 = .ok (.getfield 72, 3) := by decide +kernel
theorem dX9_mergeInGroups_55 : decode cX9_mergeInGroups 55 = .ok (.getfield 386, 3) := by decide +kernel
theorem dX9_mergeInGroups_58 : decode cX9_mergeInGroups 58 = .ok (.aload_n 0, 1) := by decide +kernel
theorem dX9_mergeInGroups_59 : decode cX9_mergeInGroups 59 = .ok (.getfield 88, 3) := by decide +kernel
theorem dX9_mergeInGroups_62 : decode cX9_mergeInGroups 62 = .ok (.iload_n 2, 1) := by decide +kernel
theorem dX9_mergeInGroups_63 : decode cX9_mergeInGroups 63 = .ok (.iload 4, 2) := by decide +kernel
theorem dX9_mergeInGroups_65 : decode cX9_mergeInGroups 65 = .ok (.iadd, 1) := by decide +kernel
theorem dX9_mergeInGroups_66 : decode cX9_mergeInGroups 66 = .ok (.invokevirtual 238, 3) := by decide +kernel
theorem dX9_mergeInGroups_69 : decode cX9_mergeInGroups 69 = .ok (.invokevirtual 390, 3) := by decide +kernel
theorem dX9_mergeInGroups_72 : decode cX9_mergeInGroups 72 = .ok (.iinc 4 1, 3) := by decide +kernel
theorem dX9_mergeInGroups_75 : decode cX9_mergeInGroups 75 = .ok (.goto (-30), 3) := by decide +kernel
theorem dX9_mergeInGroups_78 : decode cX9_mergeInGroups 78 = .ok (.aload_n 0, 1) := by decide +kernel
theorem dX9_mergeInGroups_79 : decode cX9_mergeInGroups 79 = .ok (.getfield 72, 3) := by decide +kernel
theorem dX9_mergeInGroups_82 : decode cX9_mergeInGroups 82 = .ok (.aload_n 0, 1) := by decide +kernel
theorem dX9_mergeInGroups_83 : decode cX9_mergeInGroups 83 = .ok (.getfield 152, 3) := by decide +kernel
theorem dX9_mergeInGroups_86 : decode cX9_mergeInGroups 86 = .ok (.invokevirtual 392, 3) := by decide +kernel
theorem dX9_mergeInGroups_89 : decode cX9_mergeInGroups 89 = .ok (.istore 4, 2) := by decide +kernel
theorem dX9_mergeInGroups_91 : decode cX9_mergeInGroups 91 = .ok (.iload 4, 2) := by decide +kernel
theorem dX9_mergeInGroups_93 : decode cX9_mergeInGroups 93 = .ok (.iconst (-1), 1) := by decide +kernel
theorem dX9_mergeInGroups_94 : decode cX9_mergeInGroups 94 = .ok (.if_icmp .ne 5, 3) := by decide +kernel
theorem dX9_mergeInGroups_97 : decode cX9_mergeInGroups 97 = .ok (.iconst 0, 1) := by decide +kernel
theorem dX9_mergeInGroups_98 : decode cX9_mergeInGroups 98 = .ok (.ireturn, 1) := by decide +kernel
theorem dX9_mergeInGroups_99 : decode cX9_mergeInGroups 99 = .ok (.aload_n 0, 1) := by decide +kernel
theorem dX9_mergeInGroups_100 : decode cX9_mergeInGroups 100 = .ok (.getfield 88, 3) := by decide +kernel
theorem dX9_mergeInGroups_103 : decode cX9_mergeInGroups 103 = .ok (.iload_n 2, 1) := by decide +kernel
theorem dX9_mergeInGroups_104 : decode cX9_mergeInGroups 104 = .ok (.iload 4, 2) := by decide +kernel
theorem dX9_mergeInGroups_106 : decode cX9_mergeInGroups 106 = .ok (.invokevirtual 395, 3) := by decide +kernel
theorem dX9_mergeInGroups_109 : decode cX9_mergeInGroups 109 = .ok (.iload_n 3, 1) := by decide +kernel
theorem dX9_mergeInGroups_110 : decode cX9_mergeInGroups 110 = .ok (.iconst 1, 1) := by decide +kernel
theorem dX9_mergeInGroups_111 : decode cX9_mergeInGroups 111 = .ok (.isub, 1) := by decide +kernel
theorem dX9_mergeInGroups_112 : decode cX9_mergeInGroups 112 = .ok (.istore 5, 2) := by decide +kernel
theorem dX9_mergeInGroups_114 : decode cX9_mergeInGroups 114 = .ok (.iload 5, 2) := by decide +kernel
theorem dX9_mergeInGroups_116 : decode cX9_mergeInGroups 116 = .ok (.ifCond .le 20, 3) := by decide +kernel
theorem dX9_mergeInGroups_119 : decode cX9_mergeInGroups 119 = .ok (.aload_n 0, 1) := by decide +kernel
theorem dX9_mergeInGroups_120 : decode cX9_mergeInGroups 120 = .ok (.getfield 88, 3) := by decide +kernel
theorem dX9_mergeInGroups_123 : decode cX9_mergeInGroups 123 = .ok (.iload_n 2, 1) := by decide +kernel
theorem dX9_mergeInGroups_124 : decode cX9_mergeInGroups 124 = .ok (.iload 5, 2) := by decide +kernel
theorem dX9_mergeInGroups_126 : decode cX9_mergeInGroups 126 = .ok (.iadd, 1) := by decide +kernel
theorem dX9_mergeInGroups_127 : decode cX9_mergeInGroups 127 = .ok (.invokevirtual 281, 3) := by decide +kernel
theorem dX9_mergeInGroups_130 : decode cX9_mergeInGroups 130 = .ok (.iinc 5 (-1), 3) := by decide +kernel
theorem dX9_mergeInGroups_133 : decode cX9_mergeInGroups 133 = .ok (.goto (-19), 3) := by decide +kernel
theorem dX9_mergeInGroups_136 : decode cX9_mergeInGroups 136 = .ok (.iinc 2 1, 3) := by decide +kernel
theorem dX9_mergeInGroups_139 : decode cX9_mergeInGroups 139 = .ok (.goto (-137), 3) := by decide +kernel
theorem dX9_mergeInGroups_142 : decode cX9_mergeInGroups 142 = .ok (.iconst 1, 1) := by decide +kernel
theorem dX9_mergeInGroups_143 : decode cX9_mergeInGroups 143 = .ok (.ireturn, 1) := by decide +kernel
theorem dX9_mergeFewest_0 : decode cX9_mergeFewest 0 = .ok (.aload_n 0, 1) := by decide +kernel
theorem dX9_mergeFewest_1 : decode cX9_mergeFewest 1 = .ok (.getfield 88, 3) := by decide +kernel
theorem dX9_mergeFewest_4 : decode cX9_mergeFewest 4 = .ok (.invokevirtual 114, 3) := by decide +kernel
theorem dX9_mergeFewest_7 : decode cX9_mergeFewest 7 = .ok (.istore_n 2, 1) := by decide +kernel
theorem dX9_mergeFewest_8 : decode cX9_mergeFewest 8 = .ok (.iload_n 1, 1) := by decide +kernel
theorem dX9_mergeFewest_9 : decode cX9_mergeFewest 9 = .ok (.iconst 1, 1) := by decide +kernel
theorem dX9_mergeFewest_10 : decode cX9_mergeFewest 10 = .ok (.isub, 1) := by decide +kernel
theorem dX9_mergeFewest_11 : decode cX9_mergeFewest 11 = .ok (.istore_n 3, 1) := by decide +kernel
theorem dX9_mergeFewest_12 : decode cX9_mergeFewest 12 = .ok (.iload_n 2, 1) := by decide +kernel
theorem dX9_mergeFewest_13 : decode cX9_mergeFewest 13 = .ok (.iconst 2, 1) := by decide +kernel
theorem dX9_mergeFewest_14 : decode cX9_mergeFewest 14 = .ok (.if_icmp .lt 8, 3) := by decide +kernel
theorem dX9_mergeFewest_17 : decode cX9_mergeFewest 17 = .ok (.iload_n 3, 1) := by decide +kernel
theorem dX9_mergeFewest_18 : decode cX9_mergeFewest 18 = .ok (.iconst 1, 1) := by decide +kernel
theorem dX9_mergeFewest_19 : decode cX9_mergeFewest 19 = .ok (.if_icmp .ge 7, 3) := by decide +kernel
theorem dX9_mergeFewest_22 : decode cX9_mergeFewest 22 = .ok (.iconst 0, 1) := by decide +kernel
theorem dX9_mergeFewest_23 : decode cX9_mergeFewest 23 = .ok (.goto 10, 3) := by decide +kernel
theorem dX9_mergeFewest_26 : decode cX9_mergeFewest 26 = .ok (.iconst 2, 1) := by decide +kernel
theorem dX9_mergeFewest_27 : decode cX9_mergeFewest 27 = .ok (.iload_n 2, 1) := by decide +kernel
theorem dX9_mergeFewest_28 : decode cX9_mergeFewest 28 = .ok (.iconst 2, 1) := by decide +kernel
theorem dX9_mergeFewest_29 : decode cX9_mergeFewest 29 = .ok (.isub, 1) := by decide +kernel
theorem dX9_mergeFewest_30 : decode cX9_mergeFewest 30 = .ok (.iload_n 3, 1) := by decide +kernel
theorem dX9_mergeFewest_31 : decode cX9_mergeFewest 31 = .ok (.irem, 1) := by decide +kernel
theorem dX9_mergeFewest_32 : decode cX9_mergeFewest 32 = .ok (.iadd, 1) := by decide +kernel
theorem dX9_mergeFewest_33 : decode cX9_mergeFewest 33 = .ok (.istore 4, 2) := by decide +kernel
theorem dX9_mergeFewest_35 : decode cX9_mergeFewest 35 = .ok (.iload_n 2, 1) := by decide +kernel
theorem dX9_mergeFewest_36 : decode cX9_mergeFewest 36 = .ok (.istore 5, 2) := by decide +kernel
theorem dX9_mergeFewest_38 : decode cX9_mergeFewest 38 = .ok (.iload 5, 2) := by decide +kernel
theorem dX9_mergeFewest_40 : decode cX9_mergeFewest 40 = .ok (.iconst 1, 1) := by decide +kernel
theorem dX9_mergeFewest_41 : decode cX9_mergeFewest 41 = .ok (.if_icmp .le 108, 3) := by decide +kernel
theorem dX9_mergeFewest_44 : decode cX9_mergeFewest 44 = .ok (.aload_n 0, 1) := by decide +kernel
theorem dX9_mergeFewest_45 : decode cX9_mergeFewest 45 = .ok (.getfield 88, 3) := by decide +kernel
theorem dX9_mergeFewest_48 : decode cX9_mergeFewest 48 = .ok (.invokevirtual 114, 3) := by decide +kernel
theorem dX9_mergeFewest_51 : decode cX9_mergeFewest 51 = .ok (.iconst 1, 1) := by decide +kernel
theorem dX9_mergeFewest_52 : decode cX9_mergeFewest 52 = .ok (.if_icmp .le 97, 3) := by decide +kernel
theorem dX9_mergeFewest_55 : decode cX9_mergeFewest 55 = .ok (.aload_n 0, 1) := by decide +kernel
theorem dX9_mergeFewest_56 : decode cX9_mergeFewest 56 = .ok (.iload 4, 2) := by decide +kernel
theorem dX9_mergeFewest_58 : decode cX9_mergeFewest 58 = .ok (.invokevirtual 398, 3) := by decide +kernel
theorem dX9_mergeFewest_61 : decode cX9_mergeFewest 61 = .ok (.aload_n 0, 1) := by decide +kernel
theorem dX9_mergeFewest_62 : decode cX9_mergeFewest 62 = .ok (.getfield 72, 3) := by decide +kernel
theorem dX9_mergeFewest_65 : decode cX9_mergeFewest 65 = .ok (.aload_n 0, 1) := by decide +kernel
theorem dX9_mergeFewest_66 : decode cX9_mergeFewest 66 = .ok (.getfield 152, 3) := by decide +kernel
theorem dX9_mergeFewest_69 : decode cX9_mergeFewest 69 = .ok (.invokevirtual 392, 3) := by decide +kernel
theorem dX9_mergeFewest_72 : decode cX9_mergeFewest 72 = .ok (.istore 6, 2) := by decide +kernel
theorem dX9_mergeFewest_74 : decode cX9_mergeFewest 74 = .ok (.iload 6, 2) := by decide +kernel
theorem dX9_mergeFewest_76 : decode cX9_mergeFewest 76 = .ok (.iconst (-1), 1) := by decide +kernel
theorem dX9_mergeFewest_77 : decode cX9_mergeFewest 77 = .ok (.if_icmp .ne 5, 3) := by decide +kernel
theorem dX9_mergeFewest_80 : decode cX9_mergeFewest 80 = .ok (.iconst 0, 1) := by decide +kernel
theorem dX9_mergeFewest_81 : decode cX9_mergeFewest 81 = .ok (.ireturn, 1) := by decide +kernel
theorem dX9_mergeFewest_82 : decode cX9_mergeFewest 82 = .ok (.aload_n 0, 1) := by decide +kernel
theorem dX9_mergeFewest_83 : decode cX9_mergeFewest 83 = .ok (.getfield 88, 3) := by decide +kernel
theorem dX9_mergeFewest_86 : decode cX9_mergeFewest 86 = .ok (.invokevirtual 114, 3) := by decide +kernel
theorem dX9_mergeFewest_89 : decode cX9_mergeFewest 89 = .ok (.aload_n 0, 1) := by decide +kernel
theorem dX9_mergeFewest_90 : decode cX9_mergeFewest 90 = .ok (.getfield 96, 3) := by decide +kernel
theorem dX9_mergeFewest_93 : decode cX9_mergeFewest 93 = .ok (.arraylength, 1) := by decide +kernel
theorem dX9_mergeFewest_94 : decode cX9_mergeFewest 94 = .ok (.invokestatic 232, 3) := by decide +kernel
theorem dX9_mergeFewest_97 : decode cX9_mergeFewest 97 = .ok (.iconst 1, 1) := by decide +kernel
theorem dX9_mergeFewest_98 : decode cX9_mergeFewest 98 = .ok (.isub, 1) := by decide +kernel
theorem dX9_mergeFewest_99 : decode cX9_mergeFewest 99 = .ok (.istore 7, 2) := by decide +kernel
theorem dX9_mergeFewest_101 : decode cX9_mergeFewest 101 = .ok (.iload 7, 2) := by decide +kernel
theorem dX9_mergeFewest_103 : decode cX9_mergeFewest 103 = .ok (.ifCond .lt 28, 3) := by decide +kernel
theorem dX9_mergeFewest_106 : decode cX9_mergeFewest 106 = .ok (.aload_n 0, 1) := by decide +kernel
theorem dX9_mergeFewest_107 : decode cX9_mergeFewest 107 = .ok (.getfield 96, 3) := by decide +kernel
theorem dX9_mergeFewest_110 : decode cX9_mergeFewest 110 = .ok (.iload 7, 2) := by decide +kernel
theorem dX9_mergeFewest_112 : decode cX9_mergeFewest 112 = .ok (.baload, 1) := by decide +kernel
theorem dX9_mergeFewest_113 : decode cX9_mergeFewest 113 = .ok (.ifCond .eq 12, 3) := by decide +kernel
theorem dX9_mergeFewest_116 : decode cX9_mergeFewest 116 = .ok (.aload_n 0, 1) := by decide +kernel
theorem dX9_mergeFewest_117 : decode cX9_mergeFewest 117 = .ok (.getfield 88, 3) := by decide +kernel
theorem dX9_mergeFewest_120 : decode cX9_mergeFewest 120 = .ok (.iload 7, 2) := by decide +kernel
theorem dX9_mergeFewest_122 : decode cX9_mergeFewest 122 = .ok (.invokevirtual 281, 3) := by decide +kernel
theorem dX9_mergeFewest_125 : decode cX9_mergeFewest 125 = .ok (.iinc 7 (-1), 3) := by decide +kernel
theorem dX9_mergeFewest_128 : decode cX9_mergeFewest 128 = .ok (.goto (-27), 3) := by decide +kernel
theorem dX9_mergeFewest_131 : decode cX9_mergeFewest 131 = .ok (.aload_n 0, 1) := by decide +kernel
theorem dX9_mergeFewest_132 : decode cX9_mergeFewest 132 = .ok (.getfield 88, 3) := by decide +kernel
theorem dX9_mergeFewest_135 : decode cX9_mergeFewest 135 = .ok (.iload 6, 2) := by decide +kernel
theorem dX9_mergeFewest_137 : decode cX9_mergeFewest 137 = .ok (.invokevirtual 390, 3) := by decide +kernel
theorem dX9_mergeFewest_140 : decode cX9_mergeFewest 140 = .ok (.iload_n 1, 1) := by decide +kernel
theorem dX9_mergeFewest_141 : decode cX9_mergeFewest 141 = .ok (.istore 4, 2) := by decide +kernel
theorem dX9_mergeFewest_143 : decode cX9_mergeFewest 143 = .ok (.iinc 5 (-1), 3) := by decide +kernel
theorem dX9_mergeFewest_146 : decode cX9_mergeFewest 146 = .ok (.goto (-108), 3) := by decide +kernel
theorem dX9_mergeFewest_149 : decode cX9_mergeFewest 149 = .ok (.iconst 1, 1) := by decide +kernel
theorem dX9_mergeFewest_150 : decode cX9_mergeFewest 150 = .ok (.ireturn, 1) := by decide +kernel
theorem dX9_chooseFewest_0 : decode cX9_chooseFewest 0 = .ok (.aload_n 0, 1) := by decide +kernel
theorem dX9_chooseFewest_1 : decode cX9_chooseFewest 1 = .ok (.getfield 88, 3) := by decide +kernel
theorem dX9_chooseFewest_4 : decode cX9_chooseFewest 4 = .ok (.invokevirtual 114, 3) := by decide +kernel
theorem dX9_chooseFewest_7 : decode cX9_chooseFewest 7 = .ok (.aload_n 0, 1) := by decide +kernel
theorem dX9_chooseFewest_8 : decode cX9_chooseFewest 8 = .ok (.getfield 96, 3) := by decide +kernel
theorem dX9_chooseFewest_11 : decode cX9_chooseFewest 11 = .ok (.arraylength, 1) := by decide +kernel
theorem dX9_chooseFewest_12 : decode cX9_chooseFewest 12 = .ok (.invokestatic 232, 3) := by decide +kernel
theorem dX9_chooseFewest_15 : decode cX9_chooseFewest 15 = .ok (.istore_n 2, 1) := by decide +kernel
theorem dX9_chooseFewest_16 : decode cX9_chooseFewest 16 = .ok (.iconst 0, 1) := by decide +kernel
theorem dX9_chooseFewest_17 : decode cX9_chooseFewest 17 = .ok (.istore_n 3, 1) := by decide +kernel
theorem dX9_chooseFewest_18 : decode cX9_chooseFewest 18 = .ok (.iload_n 3, 1) := by decide +kernel
theorem dX9_chooseFewest_19 : decode cX9_chooseFewest 19 = .ok (.iload_n 2, 1) := by decide +kernel
theorem dX9_chooseFewest_20 : decode cX9_chooseFewest 20 = .ok (.if_icmp .ge 16, 3) := by decide +kernel
theorem dX9_chooseFewest_23 : decode cX9_chooseFewest 23 = .ok (.aload_n 0, 1) := by decide +kernel
theorem dX9_chooseFewest_24 : decode cX9_chooseFewest 24 = .ok (.getfield 96, 3) := by decide +kernel
theorem dX9_chooseFewest_27 : decode cX9_chooseFewest 27 = .ok (.iload_n 3, 1) := by decide +kernel
theorem dX9_chooseFewest_28 : decode cX9_chooseFewest 28 = .ok (.iconst 0, 1) := by decide +kernel
theorem dX9_chooseFewest_29 : decode cX9_chooseFewest 29 = .ok (.bastore, 1) := by decide +kernel
theorem dX9_chooseFewest_30 : decode cX9_chooseFewest 30 = .ok (.iinc 3 1, 3) := by decide +kernel
theorem dX9_chooseFewest_33 : decode cX9_chooseFewest 33 = .ok (.goto (-15), 3) := by decide +kernel
theorem dX9_chooseFewest_36 : decode cX9_chooseFewest 36 = .ok (.iload_n 1, 1) := by decide +kernel
theorem dX9_chooseFewest_37 : decode cX9_chooseFewest 37 = .ok (.istore_n 3, 1) := by decide +kernel
theorem dX9_chooseFewest_38 : decode cX9_chooseFewest 38 = .ok (.iload_n 3, 1) := by decide +kernel
theorem dX9_chooseFewest_39 : decode cX9_chooseFewest 39 = .ok (.ifCond .le 96, 3) := by decide +kernel
theorem dX9_chooseFewest_42 : decode cX9_chooseFewest 42 = .ok (.iconst (-1), 1) := by decide +kernel
theorem dX9_chooseFewest_43 : decode cX9_chooseFewest 43 = .ok (.istore 4, 2) := by decide +kernel
theorem dX9_chooseFewest_45 : decode cX9_chooseFewest 45 = .ok (.iconst 0, 1) := by decide +kernel
theorem dX9_chooseFewest_46 : decode cX9_chooseFewest 46 = .ok (.istore 5, 2) := by decide +kernel
theorem dX9_chooseFewest_48 : decode cX9_chooseFewest 48 = .ok (.iload 5, 2) := by decide +kernel
theorem dX9_chooseFewest_50 : decode cX9_chooseFewest 50 = .ok (.iload_n 2, 1) := by decide +kernel
theorem dX9_chooseFewest_51 : decode cX9_chooseFewest 51 = .ok (.if_icmp .ge 64, 3) := by decide +kernel
theorem dX9_chooseFewest_54 : decode cX9_chooseFewest 54 = .ok (.aload_n 0, 1) := by decide +kernel
theorem dX9_chooseFewest_55 : decode cX9_chooseFewest 55 = .ok (.getfield 96, 3) := by decide +kernel
theorem dX9_chooseFewest_58 : decode cX9_chooseFewest 58 = .ok (.iload 5, 2) := by decide +kernel
theorem dX9_chooseFewest_60 : decode cX9_chooseFewest 60 = .ok (.baload, 1) := by decide +kernel
theorem dX9_chooseFewest_61 : decode cX9_chooseFewest 61 = .ok (.ifCond .ne 48, 3) := by decide +kernel
theorem dX9_chooseFewest_64 : decode cX9_chooseFewest 64 = .ok (.iload 4, 2) := by decide +kernel
theorem dX9_chooseFewest_66 : decode cX9_chooseFewest 66 = .ok (.iconst (-1), 1) := by decide +kernel
theorem dX9_chooseFewest_67 : decode cX9_chooseFewest 67 = .ok (.if_icmp .eq 38, 3) := by decide +kernel
theorem dX9_chooseFewest_70 : decode cX9_chooseFewest 70 = .ok (.aload_n 0, 1) := by decide +kernel
theorem dX9_chooseFewest_71 : decode cX9_chooseFewest 71 = .ok (.getfield 36, 3) := by decide +kernel
theorem dX9_chooseFewest_74 : decode cX9_chooseFewest 74 = .ok (.aload_n 0, 1) := by decide +kernel
theorem dX9_chooseFewest_75 : decode cX9_chooseFewest 75 = .ok (.getfield 88, 3) := by decide +kernel
theorem dX9_chooseFewest_78 : decode cX9_chooseFewest 78 = .ok (.iload 5, 2) := by decide +kernel
theorem dX9_chooseFewest_80 : decode cX9_chooseFewest 80 = .ok (.invokevirtual 238, 3) := by decide +kernel
theorem dX9_chooseFewest_83 : decode cX9_chooseFewest 83 = .ok (.invokevirtual 242, 3) := by decide +kernel
theorem dX9_chooseFewest_86 : decode cX9_chooseFewest 86 = .ok (.aload_n 0, 1) := by decide +kernel
theorem dX9_chooseFewest_87 : decode cX9_chooseFewest 87 = .ok (.getfield 36, 3) := by decide +kernel
theorem dX9_chooseFewest_90 : decode cX9_chooseFewest 90 = .ok (.aload_n 0, 1) := by decide +kernel
theorem dX9_chooseFewest_91 : decode cX9_chooseFewest 91 = .ok (.getfield 88, 3) := by decide +kernel
theorem dX9_chooseFewest_94 : decode cX9_chooseFewest 94 = .ok (.iload 4, 2) := by decide +kernel
theorem dX9_chooseFewest_96 : decode cX9_chooseFewest 96 = .ok (.invokevirtual 238, 3) := by decide +kernel
theorem dX9_chooseFewest_99 : decode cX9_chooseFewest 99 = .ok (.invokevirtual 242, 3) := by decide +kernel
theorem dX9_chooseFewest_102 : decode cX9_chooseFewest 102 = .ok (.if_icmp .ge 7, 3) := by decide +kernel
theorem dX9_chooseFewest_105 : decode cX9_chooseFewest 105 = .ok (.iload 5, 2) := by decide +kernel
theorem dX9_chooseFewest_107 : decode cX9_chooseFewest 107 = .ok (.istore 4, 2) := by decide +kernel
theorem dX9_chooseFewest_109 : decode cX9_chooseFewest 109 = .ok (.iinc 5 1, 3) := by decide +kernel
theorem dX9_chooseFewest_112 : decode cX9_chooseFewest 112 = .ok (.goto (-64), 3) := by decide +kernel
theorem dX9_chooseFewest_115 : decode cX9_chooseFewest 115 = .ok (.iload 4, 2) := by decide +kernel
theorem dX9_chooseFewest_117 : decode cX9_chooseFewest 117 = .ok (.iconst (-1), 1) := by decide +kernel
theorem dX9_chooseFewest_118 : decode cX9_chooseFewest 118 = .ok (.if_icmp .eq 11, 3) := by decide +kernel
theorem dX9_chooseFewest_121 : decode cX9_chooseFewest 121 = .ok (.aload_n 0, 1) := by decide +kernel
theorem dX9_chooseFewest_122 : decode cX9_chooseFewest 122 = .ok (.getfield 96, 3) := by decide +kernel
theorem dX9_chooseFewest_125 : decode cX9_chooseFewest 125 = .ok (.iload 4, 2) := by decide +kernel
theorem dX9_chooseFewest_127 : decode cX9_chooseFewest 127 = .ok (.iconst 1, 1) := by decide +kernel
theorem dX9_chooseFewest_128 : decode cX9_chooseFewest 128 = .ok (.bastore, 1) := by decide +kernel
theorem dX9_chooseFewest_129 : decode cX9_chooseFewest 129 = .ok (.iinc 3 (-1), 3) := by decide +kernel
theorem dX9_chooseFewest_132 : decode cX9_chooseFewest 132 = .ok (.goto (-94), 3) := by decide +kernel
theorem dX9_chooseFewest_135 : decode cX9_chooseFewest 135 = .ok (.aload_n 0, 1) := by decide +kernel
theorem dX9_chooseFewest_136 : decode cX9_chooseFewest 136 = .ok (.getfield 72, 3) := by decide +kernel
theorem dX9_chooseFewest_139 : decode cX9_chooseFewest 139 = .ok (.getfield 386, 3) := by decide +kernel
theorem dX9_chooseFewest_142 : decode cX9_chooseFewest 142 = .ok (.invokevirtual 389, 3) := by decide +kernel
theorem dX9_chooseFewest_145 : decode cX9_chooseFewest 145 = .ok (.iconst 0, 1) := by decide +kernel
theorem dX9_chooseFewest_146 : decode cX9_chooseFewest 146 = .ok (.istore_n 3, 1) := by decide +kernel
theorem dX9_chooseFewest_147 : decode cX9_chooseFewest 147 = .ok (.iload_n 3, 1) := by decide +kernel
theorem dX9_chooseFewest_148 : decode cX9_chooseFewest 148 = .ok (.iload_n 2, 1) := by decide +kernel
theorem dX9_chooseFewest_149 : decode cX9_chooseFewest 149 = .ok (.if_icmp .ge 36, 3) := by decide +kernel
theorem dX9_chooseFewest_152 : decode cX9_chooseFewest 152 = .ok (.aload_n 0, 1) := by decide +kernel
theorem dX9_chooseFewest_153 : decode cX9_chooseFewest 153 = .ok (.getfield 96, 3) := by decide +kernel
theorem dX9_chooseFewest_156 : decode cX9_chooseFewest 156 = .ok (.iload_n 3, 1) := by decide +kernel
theorem dX9_chooseFewest_157 : decode cX9_chooseFewest 157 = .ok (.baload, 1) := by decide +kernel
theorem dX9_chooseFewest_158 : decode cX9_chooseFewest 158 = .ok (.ifCond .eq 21, 3) := by decide +kernel
theorem dX9_chooseFewest_161 : decode cX9_chooseFewest 161 = .ok (.aload_n 0, 1) := by decide +kernel
theorem dX9_chooseFewest_162 : decode cX9_chooseFewest 162 = .ok (.getfield 72, 3) := by decide +kernel
theorem dX9_chooseFewest_165 : decode cX9_chooseFewest 165 = .ok (.getfield 386, 3) := by decide +kernel
theorem dX9_chooseFewest_168 : decode cX9_chooseFewest 168 = .ok (.aload_n 0, 1) := by decide +kernel
theorem dX9_chooseFewest_169 : decode cX9_chooseFewest 169 = .ok (.getfield 88, 3) := by decide +kernel
theorem dX9_chooseFewest_172 : decode cX9_chooseFewest 172 = .ok (.iload_n 3, 1) := by decide +kernel
theorem dX9_chooseFewest_173 : decode cX9_chooseFewest 173 = .ok (.invokevirtual 238, 3) := by decide +kernel
theorem dX9_chooseFewest_176 : decode cX9_chooseFewest 176 = .ok (.invokevirtual 390, 3) := by decide +kernel
theorem dX9_chooseFewest_179 : decode cX9_chooseFewest 179 = .ok (.iinc 3 1, 3) := by decide +kernel
theorem dX9_chooseFewest_182 : decode cX9_chooseFewest 182 = .ok (.goto (-35), 3) := by decide +kernel
theorem dX9_chooseFewest_185 : decode cX9_chooseFewest 185 = .ok (.return_, 1) := by decide +kernel
theorem dX9_mergeLevel_0 : decode cX9_mergeLevel 0 = .ok (.aload_n 0, 1) := by decide +kernel
theorem dX9_mergeLevel_1 : decode cX9_mergeLevel 1 = .ok (.getfield 81, 3) := by decide +kernel
theorem dX9_mergeLevel_4 : decode cX9_mergeLevel 4 = .ok (.invokevirtual 401, 3) := by decide +kernel
theorem dX9_mergeLevel_7 : decode cX9_mergeLevel 7 = .ok (.istore_n 1, 1) := by decide +kernel
theorem dX9_mergeLevel_8 : decode cX9_mergeLevel 8 = .ok (.iload_n 1, 1) := by decide +kernel
theorem dX9_mergeLevel_9 : decode cX9_mergeLevel 9 = .ok (.ifCond .le 76, 3) := by decide +kernel
theorem dX9_mergeLevel_12 : decode cX9_mergeLevel 12 = .ok (.aload_n 0, 1) := by decide +kernel
theorem dX9_mergeLevel_13 : decode cX9_mergeLevel 13 = .ok (.getfield 81, 3) := by decide +kernel
theorem dX9_mergeLevel_16 : decode cX9_mergeLevel 16 = .ok (.aload_n 0, 1) := by decide +kernel
theorem dX9_mergeLevel_17 : decode cX9_mergeLevel 17 = .ok (.getfield 72, 3) := by decide +kernel
theorem dX9_mergeLevel_20 : decode cX9_mergeLevel 20 = .ok (.getfield 386, 3) := by decide +kernel
theorem dX9_mergeLevel_23 : decode cX9_mergeLevel 23 = .ok (.invokevirtual 404, 3) := by decide +kernel
theorem dX9_mergeLevel_26 : decode cX9_mergeLevel 26 = .ok (.aload_n 0, 1) := by decide +kernel
theorem dX9_mergeLevel_27 : decode cX9_mergeLevel 27 = .ok (.getfield 72, 3) := by decide +kernel
theorem dX9_mergeLevel_30 : decode cX9_mergeLevel 30 = .ok (.getfield 386, 3) := by decide +kernel
theorem dX9_mergeLevel_33 : decode cX9_mergeLevel 33 = .ok (.iconst 0, 1) := by decide +kernel
theorem dX9_mergeLevel_34 : decode cX9_mergeLevel 34 = .ok (.invokevirtual 238, 3) := by decide +kernel
theorem dX9_mergeLevel_37 : decode cX9_mergeLevel 37 = .ok (.istore_n 2, 1) := by decide +kernel
theorem dX9_mergeLevel_38 : decode cX9_mergeLevel 38 = .ok (.aload_n 0, 1) := by decide +kernel
theorem dX9_mergeLevel_39 : decode cX9_mergeLevel 39 = .ok (.getfield 72, 3) := by decide +kernel
theorem dX9_mergeLevel_42 : decode cX9_mergeLevel 42 = .ok (.getfield 386, 3) := by decide +kernel
theorem dX9_mergeLevel_45 : decode cX9_mergeLevel 45 = .ok (.invokevirtual 114, 3) := by decide +kernel
theorem dX9_mergeLevel_48 : decode cX9_mergeLevel 48 = .ok (.iconst 1, 1) := by decide +kernel
theorem dX9_mergeLevel_49 : decode cX9_mergeLevel 49 = .ok (.if_icmp .le 22, 3) := by decide +kernel
theorem dX9_mergeLevel_52 : decode cX9_mergeLevel 52 = .ok (.aload_n 0, 1) := by decide +kernel
theorem dX9_mergeLevel_53 : decode cX9_mergeLevel 53 = .ok (.getfield 72, 3) := by decide +kernel
theorem dX9_mergeLevel_56 : decode cX9_mergeLevel 56 = .ok (.aload_n 0, 1) := by decide +kernel
theorem dX9_mergeLevel_57 : decode cX9_mergeLevel 57 = .ok (.getfield 152, 3) := by decide +kernel
theorem dX9_mergeLevel_60 : decode cX9_mergeLevel 60 = .ok (.invokevirtual 392, 3) := by decide +kernel
theorem dX9_mergeLevel_63 : decode cX9_mergeLevel 63 = .ok (.istore_n 2, 1) := by decide +kernel
theorem dX9_mergeLevel_64 : decode cX9_mergeLevel 64 = .ok (.iload_n 2, 1) := by decide +kernel
theorem dX9_mergeLevel_65 : decode cX9_mergeLevel 65 = .ok (.iconst (-1), 1) := by decide +kernel
theorem dX9_mergeLevel_66 : decode cX9_mergeLevel 66 = .ok (.if_icmp .ne 5, 3) := by decide +kernel
theorem dX9_mergeLevel_69 : decode cX9_mergeLevel 69 = .ok (.iconst 0, 1) := by decide +kernel
theorem dX9_mergeLevel_70 : decode cX9_mergeLevel 70 = .ok (.ireturn, 1) := by decide +kernel
theorem dX9_mergeLevel_71 : decode cX9_mergeLevel 71 = .ok (.aload_n 0, 1) := by decide +kernel
theorem dX9_mergeLevel_72 : decode cX9_mergeLevel 72 = .ok (.getfield 81, 3) := by decide +kernel
theorem dX9_mergeLevel_75 : decode cX9_mergeLevel 75 = .ok (.iload_n 2, 1) := by decide +kernel
theorem dX9_mergeLevel_76 : decode cX9_mergeLevel 76 = .ok (.invokevirtual 407, 3) := by decide +kernel
theorem dX9_mergeLevel_79 : decode cX9_mergeLevel 79 = .ok (.iinc 1 (-1), 3) := by decide +kernel
theorem dX9_mergeLevel_82 : decode cX9_mergeLevel 82 = .ok (.goto (-74), 3) := by decide +kernel
theorem dX9_mergeLevel_85 : decode cX9_mergeLevel 85 = .ok (.iconst 1, 1) := by decide +kernel
theorem dX9_mergeLevel_86 : decode cX9_mergeLevel 86 = .ok (.ireturn, 1) := by decide +kernel
theorem dX9_blocksBetween_0 : decode cX9_blocksBetween 0 = .ok (.iconst 0, 1) := by decide +kernel
theorem dX9_blocksBetween_1 : decode cX9_blocksBetween 1 = .ok (.istore_n 3, 1) := by decide +kernel
theorem dX9_blocksBetween_2 : decode cX9_blocksBetween 2 = .ok (.iload_n 1, 1) := by decide +kernel
theorem dX9_blocksBetween_3 : decode cX9_blocksBetween 3 = .ok (.istore 4, 2) := by decide +kernel
theorem dX9_blocksBetween_5 : decode cX9_blocksBetween 5 = .ok (.iload 4, 2) := by decide +kernel
theorem dX9_blocksBetween_7 : decode cX9_blocksBetween 7 = .ok (.iload_n 2, 1) := by decide +kernel
theorem dX9_blocksBetween_8 : decode cX9_blocksBetween 8 = .ok (.if_icmp .ge 41, 3) := by decide +kernel
theorem dX9_blocksBetween_11 : decode cX9_blocksBetween 11 = .ok (.iload 4, 2) := by decide +kernel
theorem dX9_blocksBetween_13 : decode cX9_blocksBetween 13 = .ok (.ifCond .lt 36, 3) := by decide +kernel
theorem dX9_blocksBetween_16 : decode cX9_blocksBetween 16 = .ok (.iload 4, 2) := by decide +kernel
theorem dX9_blocksBetween_18 : decode cX9_blocksBetween 18 = .ok (.aload_n 0, 1) := by decide +kernel
theorem dX9_blocksBetween_19 : decode cX9_blocksBetween 19 = .ok (.getfield 100, 3) := by decide +kernel
theorem dX9_blocksBetween_22 : decode cX9_blocksBetween 22 = .ok (.arraylength, 1) := by decide +kernel
theorem dX9_blocksBetween_23 : decode cX9_blocksBetween 23 = .ok (.if_icmp .ge 26, 3) := by decide +kernel
theorem dX9_blocksBetween_26 : decode cX9_blocksBetween 26 = .ok (.iload_n 3, 1) := by decide +kernel
theorem dX9_blocksBetween_27 : decode cX9_blocksBetween 27 = .ok (.aload_n 0, 1) := by decide +kernel
theorem dX9_blocksBetween_28 : decode cX9_blocksBetween 28 = .ok (.getfield 27, 3) := by decide +kernel
theorem dX9_blocksBetween_31 : decode cX9_blocksBetween 31 = .ok (.aload_n 0, 1) := by decide +kernel
theorem dX9_blocksBetween_32 : decode cX9_blocksBetween 32 = .ok (.getfield 100, 3) := by decide +kernel
theorem dX9_blocksBetween_35 : decode cX9_blocksBetween 35 = .ok (.iload 4, 2) := by decide +kernel
theorem dX9_blocksBetween_37 : decode cX9_blocksBetween 37 = .ok (.iaload, 1) := by decide +kernel
theorem dX9_blocksBetween_38 : decode cX9_blocksBetween 38 = .ok (.invokevirtual 410, 3) := by decide +kernel
theorem dX9_blocksBetween_41 : decode cX9_blocksBetween 41 = .ok (.iadd, 1) := by decide +kernel
theorem dX9_blocksBetween_42 : decode cX9_blocksBetween 42 = .ok (.istore_n 3, 1) := by decide +kernel
theorem dX9_blocksBetween_43 : decode cX9_blocksBetween 43 = .ok (.iinc 4 1, 3) := by decide +kernel
theorem dX9_blocksBetween_46 : decode cX9_blocksBetween 46 = .ok (.goto (-41), 3) := by decide +kernel
theorem dX9_blocksBetween_49 : decode cX9_blocksBetween 49 = .ok (.iload_n 3, 1) := by decide +kernel
theorem dX9_blocksBetween_50 : decode cX9_blocksBetween 50 = .ok (.ireturn, 1) := by decide +kernel
theorem dX9_lengthBetween_0 : decode cX9_lengthBetween 0 = .ok (.iconst 0, 1) := by decide +kernel
theorem dX9_lengthBetween_1 : decode cX9_lengthBetween 1 = .ok (.istore_n 3, 1) := by decide +kernel
theorem dX9_lengthBetween_2 : decode cX9_lengthBetween 2 = .ok (.iload_n 1, 1) := by decide +kernel
theorem dX9_lengthBetween_3 : decode cX9_lengthBetween 3 = .ok (.istore 4, 2) := by decide +kernel
theorem dX9_lengthBetween_5 : decode cX9_lengthBetween 5 = .ok (.iload 4, 2) := by decide +kernel
theorem dX9_lengthBetween_7 : decode cX9_lengthBetween 7 = .ok (.iload_n 2, 1) := by decide +kernel
theorem dX9_lengthBetween_8 : decode cX9_lengthBetween 8 = .ok (.if_icmp .ge 34, 3) := by decide +kernel
theorem dX9_lengthBetween_11 : decode cX9_lengthBetween 11 = .ok (.iload 4, 2) := by decide +kernel
theorem dX9_lengthBetween_13 : decode cX9_lengthBetween 13 = .ok (.ifCond .lt 29, 3) := by decide +kernel
theorem dX9_lengthBetween_16 : decode cX9_lengthBetween 16 = .ok (.iload 4, 2) := by decide +kernel
theorem dX9_lengthBetween_18 : decode cX9_lengthBetween 18 = .ok (.aload_n 0, 1) := by decide +kernel
theorem dX9_lengthBetween_19 : decode cX9_lengthBetween 19 = .ok (.getfield 100, 3) := by decide +kernel
theorem dX9_lengthBetween_22 : decode cX9_lengthBetween 22 = .ok (.arraylength, 1) := by decide +kernel
theorem dX9_lengthBetween_23 : decode cX9_lengthBetween 23 = .ok (.if_icmp .ge 19, 3) := by decide +kernel
theorem dX9_lengthBetween_26 : decode cX9_lengthBetween 26 = .ok (.iload_n 3, 1) := by decide +kernel
theorem dX9_lengthBetween_27 : decode cX9_lengthBetween 27 = .ok (.aload_n 0, 1) := by decide +kernel
theorem dX9_lengthBetween_28 : decode cX9_lengthBetween 28 = .ok (.getfield 100, 3) := by decide +kernel
theorem dX9_lengthBetween_31 : decode cX9_lengthBetween 31 = .ok (.iload 4, 2) := by decide +kernel
theorem dX9_lengthBetween_33 : decode cX9_lengthBetween 33 = .ok (.iaload, 1) := by decide +kernel
theorem dX9_lengthBetween_34 : decode cX9_lengthBetween 34 = .ok (.iadd, 1) := by decide +kernel
theorem dX9_lengthBetween_35 : decode cX9_lengthBetween 35 = .ok (.istore_n 3, 1) := by decide +kernel
theorem dX9_lengthBetween_36 : decode cX9_lengthBetween 36 = .ok (.iinc 4 1, 3) := by decide +kernel
theorem dX9_lengthBetween_39 : decode cX9_lengthBetween 39 = .ok (.goto (-34), 3) := by decide +kernel
theorem dX9_lengthBetween_42 : decode cX9_lengthBetween 42 = .ok (.iload_n 3, 1) := by decide +kernel
theorem dX9_lengthBetween_43 : decode cX9_lengthBetween 43 = .ok (.ireturn, 1) := by decide +kernel
theorem dX9_setLength_0 : decode cX9_setLength 0 = .ok (.iload_n 1, 1) := by decide +kernel
theorem dX9_setLength_1 : decode cX9_setLength 1 = .ok (.ifCond .lt 19, 3) := by decide +kernel
theorem dX9_setLength_4 : decode cX9_setLength 4 = .ok (.iload_n 1, 1) := by decide +kernel
theorem dX9_setLength_5 : decode cX9_setLength 5 = .ok (.aload_n 0, 1) := by decide +kernel
theorem dX9_setLength_6 : decode cX9_setLength 6 = .ok (.getfield 100, 3) := by decide +kernel
theorem dX9_setLength_9 : decode cX9_setLength 9 = .ok (.arraylength, 1) := by decide +kernel
theorem dX9_setLength_10 : decode cX9_setLength 10 = .ok (.if_icmp .ge 10, 3) := by decide +kernel
theorem dX9_setLength_13 : decode cX9_setLength 13 = .ok (.aload_n 0, 1) := by decide +kernel
theorem dX9_setLength_14 : decode cX9_setLength 14 = .ok (.getfield 100, 3) := by decide +kernel
theorem dX9_setLength_17 : decode cX9_setLength 17 = .ok (.iload_n 1, 1) := by decide +kernel
theorem dX9_setLength_18 : decode cX9_setLength 18 = .ok (.iload_n 2, 1) := by decide +kernel
theorem dX9_setLength_19 : decode cX9_setLength 19 = .ok (.iastore, 1) := by decide +kernel
theorem dX9_setLength_20 : decode cX9_setLength 20 = .ok (.return_, 1) := by decide +kernel
