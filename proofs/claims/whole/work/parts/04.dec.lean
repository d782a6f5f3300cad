theorem dX0_init_0 : decode cX0_init 0 = .ok (.aload_n 0, 1) := by decide +kernel
theorem dX0_init_1 : decode cX0_init 1 = .ok (.invokespecial 3, 3) := by decide +kernel
theorem dX0_init_4 : decode cX0_init 4 = .ok (.aload_n 0, 1) := by decide +kernel
theorem dX0_init_5 : decode cX0_init 5 = .ok (.iconst 0, 1) := by decide +kernel
theorem dX0_init_6 : decode cX0_init 6 = .ok (.putfield 9, 3) := by decide +kernel
theorem dX0_init_9 : decode cX0_init 9 = .ok (.aload_n 0, 1) := by decide +kernel
theorem dX0_init_10 : decode cX0_init 10 = .ok (.iconst 0, 1) := by decide +kernel
theorem dX0_init_11 : decode cX0_init 11 = .ok (.putfield 15, 3) := by decide +kernel
theorem dX0_init_14 : decode cX0_init 14 = .ok (.aload_n 0, 1) := by decide +kernel
theorem dX0_init_15 : decode cX0_init 15 = .ok (.lconst 0, 1) := by decide +kernel
theorem dX0_init_16 : decode cX0_init 16 = .ok (.putfield 19, 3) := by decide +kernel
theorem dX0_init_19 : decode cX0_init 19 = .ok (.aload_n 0, 1) := by decide +kernel
theorem dX0_init_20 : decode cX0_init 20 = .ok (.iconst 0, 1) := by decide +kernel
theorem dX0_init_21 : decode cX0_init 21 = .ok (.putfield 23, 3) := by decide +kernel
theorem dX0_init_24 : decode cX0_init 24 = .ok (.return_, 1) := by decide +kernel
theorem dX0_set_0 : decode cX0_set 0 = .ok (.aload_n 0, 1) := by decide +kernel
theorem dX0_set_1 : decode cX0_set 1 = .ok (.iload_n 1, 1) := by decide +kernel
theorem dX0_set_2 : decode cX0_set 2 = .ok (.putfield 9, 3) := by decide +kernel
theorem dX0_set_5 : decode cX0_set 5 = .ok (.aload_n 0, 1) := by decide +kernel
theorem dX0_set_6 : decode cX0_set 6 = .ok (.iload_n 2, 1) := by decide +kernel
theorem dX0_set_7 : decode cX0_set 7 = .ok (.putfield 15, 3) := by decide +kernel
theorem dX0_set_10 : decode cX0_set 10 = .ok (.aload_n 0, 1) := by decide +kernel
theorem dX0_set_11 : decode cX0_set 11 = .ok (.lload_n 3, 1) := by decide +kernel
theorem dX0_set_12 : decode cX0_set 12 = .ok (.putfield 19, 3) := by decide +kernel
theorem dX0_set_15 : decode cX0_set 15 = .ok (.aload_n 0, 1) := by decide +kernel
theorem dX0_set_16 : decode cX0_set 16 = .ok (.iload 5, 2) := by decide +kernel
theorem dX0_set_18 : decode cX0_set 18 = .ok (.putfield 23, 3) := by decide +kernel
theorem dX0_set_21 : decode cX0_set 21 = .ok (.return_, 1) := by decide +kernel
theorem dX0_rank_0 : decode cX0_rank 0 = .ok (.aload_n 0, 1) := by decide +kernel
theorem dX0_rank_1 : decode cX0_rank 1 = .ok (.getfield 9, 3) := by decide +kernel
theorem dX0_rank_4 : decode cX0_rank 4 = .ok (.ifCond .ne 11, 3) := by decide +kernel
theorem dX0_rank_7 : decode cX0_rank 7 = .ok (.aload_n 0, 1) := by decide +kernel
theorem dX0_rank_8 : decode cX0_rank 8 = .ok (.getfield 15, 3) := by decide +kernel
theorem dX0_rank_11 : decode cX0_rank 11 = .ok (.bipush 19, 2) := by decide +kernel
theorem dX0_rank_13 : decode cX0_rank 13 = .ok (.ishl, 1) := by decide +kernel
theorem dX0_rank_14 : decode cX0_rank 14 = .ok (.ireturn, 1) := by decide +kernel
theorem dX0_rank_15 : decode cX0_rank 15 = .ok (.aload_n 0, 1) := by decide +kernel
theorem dX0_rank_16 : decode cX0_rank 16 = .ok (.getfield 15, 3) := by decide +kernel
theorem dX0_rank_19 : decode cX0_rank 19 = .ok (.ldc 26, 2) := by decide +kernel
theorem dX0_rank_21 : decode cX0_rank 21 = .ok (.iand, 1) := by decide +kernel
theorem dX0_rank_22 : decode cX0_rank 22 = .ok (.istore_n 1, 1) := by decide +kernel
theorem dX0_rank_23 : decode cX0_rank 23 = .ok (.aload_n 0, 1) := by decide +kernel
theorem dX0_rank_24 : decode cX0_rank 24 = .ok (.getfield 15, 3) := by decide +kernel
theorem dX0_rank_27 : decode cX0_rank 27 = .ok (.bipush 18, 2) := by decide +kernel
theorem dX0_rank_29 : decode cX0_rank 29 = .ok (.ishr, 1) := by decide +kernel
theorem dX0_rank_30 : decode cX0_rank 30 = .ok (.bipush 19, 2) := by decide +kernel
theorem dX0_rank_32 : decode cX0_rank 32 = .ok (.ishl, 1) := by decide +kernel
theorem dX0_rank_33 : decode cX0_rank 33 = .ok (.ldc 27, 2) := by decide +kernel
theorem dX0_rank_35 : decode cX0_rank 35 = .ok (.ior, 1) := by decide +kernel
theorem dX0_rank_36 : decode cX0_rank 36 = .ok (.iload_n 1, 1) := by decide +kernel
theorem dX0_rank_37 : decode cX0_rank 37 = .ok (.ior, 1) := by decide +kernel
theorem dX0_rank_38 : decode cX0_rank 38 = .ok (.ireturn, 1) := by decide +kernel
theorem dX1_init_0 : decode cX1_init 0 = .ok (.aload_n 0, 1) := by decide +kernel
theorem dX1_init_1 : decode cX1_init 1 = .ok (.invokespecial 3, 3) := by decide +kernel
theorem dX1_init_4 : decode cX1_init 4 = .ok (.aload_n 0, 1) := by decide +kernel
theorem dX1_init_5 : decode cX1_init 5 = .ok (.sipush 160, 3) := by decide +kernel
theorem dX1_init_8 : decode cX1_init 8 = .ok (.newarray .int, 2) := by decide +kernel
theorem dX1_init_10 : decode cX1_init 10 = .ok (.putfield 9, 3) := by decide +kernel
theorem dX1_init_13 : decode cX1_init 13 = .ok (.aload_n 0, 1) := by decide +kernel
theorem dX1_init_14 : decode cX1_init 14 = .ok (.sipush 160, 3) := by decide +kernel
theorem dX1_init_17 : decode cX1_init 17 = .ok (.newarray .int, 2) := by decide +kernel
theorem dX1_init_19 : decode cX1_init 19 = .ok (.putfield 15, 3) := by decide +kernel
theorem dX1_init_22 : decode cX1_init 22 = .ok (.aload_n 0, 1) := by decide +kernel
theorem dX1_init_23 : decode cX1_init 23 = .ok (.iconst 0, 1) := by decide +kernel
theorem dX1_init_24 : decode cX1_init 24 = .ok (.putfield 18, 3) := by decide +kernel
theorem dX1_init_27 : decode cX1_init 27 = .ok (.aload_n 0, 1) := by decide +kernel
theorem dX1_init_28 : decode cX1_init 28 = .ok (.iconst 0, 1) := by decide +kernel
theorem dX1_init_29 : decode cX1_init 29 = .ok (.putfield 22, 3) := by decide +kernel
theorem dX1_init_32 : decode cX1_init 32 = .ok (.aload_n 0, 1) := by decide +kernel
theorem dX1_init_33 : decode cX1_init 33 = .ok (.iconst 0, 1) := by decide +kernel
theorem dX1_init_34 : decode cX1_init 34 = .ok (.putfield 25, 3) := by decide +kernel
theorem dX1_init_37 : decode cX1_init 37 = .ok (.aload_n 0, 1) := by decide +kernel
theorem dX1_init_38 : decode cX1_init 38 = .ok (.iconst 0, 1) := by decide +kernel
theorem dX1_init_39 : decode cX1_init 39 = .ok (.putfield 28, 3) := by decide +kernel
theorem dX1_init_42 : decode cX1_init 42 = .ok (.aload_n 0, 1) := by decide +kernel
theorem dX1_init_43 : decode cX1_init 43 = .ok (.iconst (-1), 1) := by decide +kernel
theorem dX1_init_44 : decode cX1_init 44 = .ok (.putfield 31, 3) := by decide +kernel
theorem dX1_init_47 : decode cX1_init 47 = .ok (.aload_n 0, 1) := by decide +kernel
theorem dX1_init_48 : decode cX1_init 48 = .ok (.iconst 0, 1) := by decide +kernel
theorem dX1_init_49 : decode cX1_init 49 = .ok (.putfield 34, 3) := by decide +kernel
theorem dX1_init_52 : decode cX1_init 52 = .ok (.return_, 1) := by decide +kernel
set_option maxRecDepth 20000 in
theorem ggX1_write_X1_clear : GoodIn wsX1_write wsX1_clear := goodIn_r _ [13, 14, 3, 15, 16, 8, 34, 35, 36, 37, 38, 39, 40, 41] (by decide +kernel) (by decide +kernel)
set_option maxRecDepth 20000 in
theorem gX1_write_X1_clear : GoodIn wsX1_write (wsV RX1 37 RX1 yX1_clear wsX1_clear) := goodIn_app (goodIn_of _ (by decide +kernel)) ggX1_write_X1_clear
set_option maxRecDepth 20000 in
theorem ggX1_write_X1_addNumber : GoodIn wsX1_write wsX1_addNumber := goodIn_r _ [20, 15, 16, 3, 8, 21, 22, 23, 12, 24, 14, 25, 26, 27, 28, 29, 34, 35, 36, 37, 38, 39, 40, 41] (by decide +kernel) (by decide +kernel)
set_option maxRecDepth 20000 in
theorem gX1_write_X1_addNumber : GoodIn wsX1_write (wsV RX1 40 RX1 yX1_addNumber wsX1_addNumber) := goodIn_app (goodIn_of _ (by decide +kernel)) ggX1_write_X1_addNumber
set_option maxRecDepth 20000 in
theorem ggX1_write_X1_append : GoodIn wsX1_write wsX1_append := goodIn_r _ [24, 14, 25, 26, 16, 15, 34, 35, 36, 37, 38, 39, 40, 41] (by decide +kernel) (by decide +kernel)
set_option maxRecDepth 20000 in
theorem gX1_write_X1_append : GoodIn wsX1_write (wsV RX1 62 RX1 yX1_append wsX1_append) := goodIn_app (goodIn_of _ (by decide +kernel)) ggX1_write_X1_append
theorem dX1_write_0 : decode cX1_write 0 = .ok (.aload_n 0, 1) := by decide +kernel
theorem dX1_write_1 : decode cX1_write 1 = .ok (.invokevirtual 37, 3) := by decide +kernel
theorem dX1_write_4 : decode cX1_write 4 = .ok (.aload_n 0, 1) := by decide +kernel
theorem dX1_write_5 : decode cX1_write 5 = .ok (.iconst 0, 1) := by decide +kernel
theorem dX1_write_6 : decode cX1_write 6 = .ok (.iconst 1, 1) := by decide +kernel
theorem dX1_write_7 : decode cX1_write 7 = .ok (.invokevirtual 40, 3) := by decide +kernel
theorem dX1_write_10 : decode cX1_write 10 = .ok (.aload_n 1, 1) := by decide +kernel
theorem dX1_write_11 : decode cX1_write 11 = .ok (.getfield 44, 3) := by decide +kernel
theorem dX1_write_14 : decode cX1_write 14 = .ok (.ifCond .eq 35, 3) := by decide +kernel
theorem dX1_write_17 : decode cX1_write 17 = .ok (.aload_n 0, 1) := by decide +kernel
theorem dX1_write_18 : decode cX1_write 18 = .ok (.aload_n 1, 1) := by decide +kernel
theorem dX1_write_19 : decode cX1_write 19 = .ok (.getfield 50, 3) := by decide +kernel
theorem dX1_write_22 : decode cX1_write 22 = .ok (.bipush 18, 2) := by decide +kernel
theorem dX1_write_24 : decode cX1_write 24 = .ok (.ishr, 1) := by decide +kernel
theorem dX1_write_25 : decode cX1_write 25 = .ok (.bipush 11, 2) := by decide +kernel
theorem dX1_write_27 : decode cX1_write 27 = .ok (.invokevirtual 40, 3) := by decide +kernel
theorem dX1_write_30 : decode cX1_write 30 = .ok (.aload_n 0, 1) := by decide +kernel
theorem dX1_write_31 : decode cX1_write 31 = .ok (.iconst 3, 1) := by decide +kernel
theorem dX1_write_32 : decode cX1_write 32 = .ok (.iconst 2, 1) := by decide +kernel
theorem dX1_write_33 : decode cX1_write 33 = .ok (.invokevirtual 40, 3) := by decide +kernel
theorem dX1_write_36 : decode cX1_write 36 = .ok (.aload_n 0, 1) := by decide +kernel
theorem dX1_write_37 : decode cX1_write 37 = .ok (.aload_n 1, 1) := by decide +kernel
theorem dX1_write_38 : decode cX1_write 38 = .ok (.getfield 50, 3) := by decide +kernel
theorem dX1_write_41 : decode cX1_write 41 = .ok (.bipush 18, 2) := by decide +kernel
theorem dX1_write_43 : decode cX1_write 43 = .ok (.invokevirtual 40, 3) := by decide +kernel
theorem dX1_write_46 : decode cX1_write 46 = .ok (.goto 13, 3) := by decide +kernel
theorem dX1_write_49 : decode cX1_write 49 = .ok (.aload_n 0, 1) := by decide +kernel
theorem dX1_write_50 : decode cX1_write 50 = .ok (.aload_n 1, 1) := by decide +kernel
theorem dX1_write_51 : decode cX1_write 51 = .ok (.getfield 50, 3) := by decide +kernel
theorem dX1_write_54 : decode cX1_write 54 = .ok (.bipush 11, 2) := by decide +kernel
theorem dX1_write_56 : decode cX1_write 56 = .ok (.invokevirtual 40, 3) := by decide +kernel
theorem dX1_write_59 : decode cX1_write 59 = .ok (.aload_n 0, 1) := by decide +kernel
theorem dX1_write_60 : decode cX1_write 60 = .ok (.iconst 0, 1) := by decide +kernel
theorem dX1_write_61 : decode cX1_write 61 = .ok (.iconst 3, 1) := by decide +kernel
theorem dX1_write_62 : decode cX1_write 62 = .ok (.invokevirtual 40, 3) := by decide +kernel
theorem dX1_write_65 : decode cX1_write 65 = .ok (.aload_n 0, 1) := by decide +kernel
theorem dX1_write_66 : decode cX1_write 66 = .ok (.aload_n 0, 1) := by decide +kernel
theorem dX1_write_67 : decode cX1_write 67 = .ok (.getfield 25, 3) := by decide +kernel
theorem dX1_write_70 : decode cX1_write 70 = .ok (.putfield 22, 3) := by decide +kernel
theorem dX1_write_73 : decode cX1_write 73 = .ok (.aload_n 0, 1) := by decide +kernel
theorem dX1_write_74 : decode cX1_write 74 = .ok (.aload_n 1, 1) := by decide +kernel
theorem dX1_write_75 : decode cX1_write 75 = .ok (.getfield 53, 3) := by decide +kernel
theorem dX1_write_78 : decode cX1_write 78 = .ok (.iconst 4, 1) := by decide +kernel
theorem dX1_write_79 : decode cX1_write 79 = .ok (.invokevirtual 40, 3) := by decide +kernel
theorem dX1_write_82 : decode cX1_write 82 = .ok (.iconst 0, 1) := by decide +kernel
theorem dX1_write_83 : decode cX1_write 83 = .ok (.istore_n 2, 1) := by decide +kernel
theorem dX1_write_84 : decode cX1_write 84 = .ok (.iload_n 2, 1) := by decide +kernel
theorem dX1_write_85 : decode cX1_write 85 = .ok (.aload_n 1, 1) := by decide +kernel
theorem dX1_write_86 : decode cX1_write 86 = .ok (.getfield 53, 3) := by decide +kernel
theorem dX1_write_89 : decode cX1_write 89 = .ok (.if_icmp .ge 29, 3) := by decide +kernel
theorem dX1_write_92 : decode cX1_write 92 = .ok (.aload_n 0, 1) := by decide +kernel
theorem dX1_write_93 : decode cX1_write 93 = .ok (.aload_n 1, 1) := by decide +kernel
theorem dX1_write_94 : decode cX1_write 94 = .ok (.getfield 56, 3) := by decide +kernel
theorem dX1_write_97 : decode cX1_write 97 = .ok (.bipush 8, 2) := by decide +kernel
theorem dX1_write_99 : decode cX1_write 99 = .ok (.iload_n 2, 1) := by decide +kernel
theorem dX1_write_100 : decode cX1_write 100 = .ok (.imul, 1) := by decide +kernel
theorem dX1_write_101 : decode cX1_write 101 = .ok (.lushr, 1) := by decide +kernel
theorem dX1_write_102 : decode cX1_write 102 = .ok (.ldc2_w 60, 3) := by decide +kernel
theorem dX1_write_105 : decode cX1_write 105 = .ok (.land, 1) := by decide +kernel
theorem dX1_write_106 : decode cX1_write 106 = .ok (.l2i, 1) := by decide +kernel
theorem dX1_write_107 : decode cX1_write 107 = .ok (.bipush 8, 2) := by decide +kernel
theorem dX1_write_109 : decode cX1_write 109 = .ok (.invokevirtual 40, 3) := by decide +kernel
theorem dX1_write_112 : decode cX1_write 112 = .ok (.iinc 2 1, 3) := by decide +kernel
theorem dX1_write_115 : decode cX1_write 115 = .ok (.goto (-31), 3) := by decide +kernel
theorem dX1_write_118 : decode cX1_write 118 = .ok (.aload_n 0, 1) := by decide +kernel
theorem dX1_write_119 : decode cX1_write 119 = .ok (.aload_n 0, 1) := by decide +kernel
theorem dX1_write_120 : decode cX1_write 120 = .ok (.getfield 34, 3) := by decide +kernel
theorem dX1_write_123 : decode cX1_write 123 = .ok (.bipush 15, 2) := by decide +kernel
theorem dX1_write_125 : decode cX1_write 125 = .ok (.invokevirtual 40, 3) := by decide +kernel
theorem dX1_write_128 : decode cX1_write 128 = .ok (.iconst 0, 1) := by decide +kernel
theorem dX1_write_129 : decode cX1_write 129 = .ok (.istore_n 2, 1) := by decide +kernel
theorem dX1_write_130 : decode cX1_write 130 = .ok (.iload_n 2, 1) := by decide +kernel
theorem dX1_write_131 : decode cX1_write 131 = .ok (.bipush 10, 2) := by decide +kernel
theorem dX1_write_133 : decode cX1_write 133 = .ok (.if_icmp .ge 18, 3) := by decide +kernel
theorem dX1_write_136 : decode cX1_write 136 = .ok (.aload_n 0, 1) := by decide +kernel
theorem dX1_write_137 : decode cX1_write 137 = .ok (.iconst 1, 1) := by decide +kernel
theorem dX1_write_138 : decode cX1_write 138 = .ok (.aload_n 0, 1) := by decide +kernel
theorem dX1_write_139 : decode cX1_write 139 = .ok (.getfield 25, 3) := by decide +kernel
theorem dX1_write_142 : decode cX1_write 142 = .ok (.invokevirtual 62, 3) := by decide +kernel
theorem dX1_write_145 : decode cX1_write 145 = .ok (.iinc 2 1, 3) := by decide +kernel
theorem dX1_write_148 : decode cX1_write 148 = .ok (.goto (-18), 3) := by decide +kernel
theorem dX1_write_151 : decode cX1_write 151 = .ok (.return_, 1) := by decide +kernel
theorem dX1_bitAt_0 : decode cX1_bitAt 0 = .ok (.iload_n 1, 1) := by decide +kernel
theorem dX1_bitAt_1 : decode cX1_bitAt 1 = .ok (.ifCond .lt 20, 3) := by decide +kernel
theorem dX1_bitAt_4 : decode cX1_bitAt 4 = .ok (.iload_n 1, 1) := by decide +kernel
theorem dX1_bitAt_5 : decode cX1_bitAt 5 = .ok (.aload_n 0, 1) := by decide +kernel
theorem dX1_bitAt_6 : decode cX1_bitAt 6 = .ok (.getfield 18, 3) := by decide +kernel
theorem dX1_bitAt_9 : decode cX1_bitAt 9 = .ok (.if_icmp .ge 12, 3) := by decide +kernel
theorem dX1_bitAt_12 : decode cX1_bitAt 12 = .ok (.aload_n 0, 1) := by decide +kernel
theorem dX1_bitAt_13 : decode cX1_bitAt 13 = .ok (.getfield 9, 3) := by decide +kernel
theorem dX1_bitAt_16 : decode cX1_bitAt 16 = .ok (.iload_n 1, 1) := by decide +kernel
theorem dX1_bitAt_17 : decode cX1_bitAt 17 = .ok (.iaload, 1) := by decide +kernel
theorem dX1_bitAt_18 : decode cX1_bitAt 18 = .ok (.goto 4, 3) := by decide +kernel
theorem dX1_bitAt_21 : decode cX1_bitAt 21 = .ok (.iconst 1, 1) := by decide +kernel
theorem dX1_bitAt_22 : decode cX1_bitAt 22 = .ok (.ireturn, 1) := by decide +kernel
theorem dX1_isAnswer_0 : decode cX1_isAnswer 0 = .ok (.iload_n 1, 1) := by decide +kernel
theorem dX1_isAnswer_1 : decode cX1_isAnswer 1 = .ok (.aload_n 0, 1) := by decide +kernel
theorem dX1_isAnswer_2 : decode cX1_isAnswer 2 = .ok (.getfield 18, 3) := by decide +kernel
theorem dX1_isAnswer_5 : decode cX1_isAnswer 5 = .ok (.bipush 10, 2) := by decide +kernel
theorem dX1_isAnswer_7 : decode cX1_isAnswer 7 = .ok (.isub, 1) := by decide +kernel
theorem dX1_isAnswer_8 : decode cX1_isAnswer 8 = .ok (.iconst 1, 1) := by decide +kernel
theorem dX1_isAnswer_9 : decode cX1_isAnswer 9 = .ok (.iadd, 1) := by decide +kernel
theorem dX1_isAnswer_10 : decode cX1_isAnswer 10 = .ok (.if_icmp .ne 7, 3) := by decide +kernel
theorem dX1_isAnswer_13 : decode cX1_isAnswer 13 = .ok (.iconst 1, 1) := by decide +kernel
theorem dX1_isAnswer_14 : decode cX1_isAnswer 14 = .ok (.goto 4, 3) := by decide +kernel
theorem dX1_isAnswer_17 : decode cX1_isAnswer 17 = .ok (.iconst 0, 1) := by decide +kernel
theorem dX1_isAnswer_18 : decode cX1_isAnswer 18 = .ok (.ireturn, 1) := by decide +kernel
theorem dX1_mayLose_0 : decode cX1_mayLose 0 = .ok (.iload_n 1, 1) := by decide +kernel
theorem dX1_mayLose_1 : decode cX1_mayLose 1 = .ok (.ifCond .lt 30, 3) := by decide +kernel
theorem dX1_mayLose_4 : decode cX1_mayLose 4 = .ok (.iload_n 1, 1) := by decide +kernel
theorem dX1_mayLose_5 : decode cX1_mayLose 5 = .ok (.aload_n 0, 1) := by decide +kernel
theorem dX1_mayLose_6 : decode cX1_mayLose 6 = .ok (.getfield 18, 3) := by decide +kernel
theorem dX1_mayLose_9 : decode cX1_mayLose 9 = .ok (.if_icmp .ge 22, 3) := by decide +kernel
theorem dX1_mayLose_12 : decode cX1_mayLose 12 = .ok (.aload_n 0, 1) := by decide +kernel
theorem dX1_mayLose_13 : decode cX1_mayLose 13 = .ok (.getfield 9, 3) := by decide +kernel
theorem dX1_mayLose_16 : decode cX1_mayLose 16 = .ok (.iload_n 1, 1) := by decide +kernel
theorem dX1_mayLose_17 : decode cX1_mayLose 17 = .ok (.iaload, 1) := by decide +kernel
theorem dX1_mayLose_18 : decode cX1_mayLose 18 = .ok (.ifCond .eq 13, 3) := by decide +kernel
theorem dX1_mayLose_21 : decode cX1_mayLose 21 = .ok (.aload_n 0, 1) := by decide +kernel
theorem dX1_mayLose_22 : decode cX1_mayLose 22 = .ok (.getfield 15, 3) := by decide +kernel
theorem dX1_mayLose_25 : decode cX1_mayLose 25 = .ok (.iload_n 1, 1) := by decide +kernel
theorem dX1_mayLose_26 : decode cX1_mayLose 26 = .ok (.iaload, 1) := by decide +kernel
theorem dX1_mayLose_27 : decode cX1_mayLose 27 = .ok (.iconst (-1), 1) := by decide +kernel
theorem dX1_mayLose_28 : decode cX1_mayLose 28 = .ok (.if_icmp .ne 5, 3) := by decide +kernel
theorem dX1_mayLose_31 : decode cX1_mayLose 31 = .ok (.iconst 0, 1) := by decide +kernel
theorem dX1_mayLose_32 : decode cX1_mayLose 32 = .ok (.ireturn, 1) := by decide +kernel
theorem dX1_mayLose_33 : decode cX1_mayLose 33 = .ok (.aload_n 0, 1) := by decide +kernel
theorem dX1_mayLose_34 : decode cX1_mayLose 34 = .ok (.getfield 22, 3) := by decide +kernel
theorem dX1_mayLose_37 : decode cX1_mayLose 37 = .ok (.iconst 1, 1) := by decide +kernel
theorem dX1_mayLose_38 : decode cX1_mayLose 38 = .ok (.isub, 1) := by decide +kernel
theorem dX1_mayLose_39 : decode cX1_mayLose 39 = .ok (.aload_n 0, 1) := by decide +kernel
theorem dX1_mayLose_40 : decode cX1_mayLose 40 = .ok (.getfield 15, 3) := by decide +kernel
theorem dX1_mayLose_43 : decode cX1_mayLose 43 = .ok (.iload_n 1, 1) := by decide +kernel
theorem dX1_mayLose_44 : decode cX1_mayLose 44 = .ok (.iaload, 1) := by decide +kernel
theorem dX1_mayLose_45 : decode cX1_mayLose 45 = .ok (.isub, 1) := by decide +kernel
theorem dX1_mayLose_46 : decode cX1_mayLose 46 = .ok (.iconst 2, 1) := by decide +kernel
theorem dX1_mayLose_47 : decode cX1_mayLose 47 = .ok (.if_icmp .le 7, 3) := by decide +kernel
theorem dX1_mayLose_50 : decode cX1_mayLose 50 = .ok (.iconst 1, 1) := by decide +kernel
theorem dX1_mayLose_51 : decode cX1_mayLose 51 = .ok (.goto 4, 3) := by decide +kernel
theorem dX1_mayLose_54 : decode cX1_mayLose 54 = .ok (.iconst 0, 1) := by decide +kernel
theorem dX1_mayLose_55 : decode cX1_mayLose 55 = .ok (.ireturn, 1) := by decide +kernel
theorem dX1_clear_0 : decode cX1_clear 0 = .ok (.aload_n 0, 1) := by decide +kernel
theorem dX1_clear_1 : decode cX1_clear 1 = .ok (.iconst 0, 1) := by decide +kernel
theorem dX1_clear_2 : decode cX1_clear 2 = .ok (.putfield 18, 3) := by decide +kernel
theorem dX1_clear_5 : decode cX1_clear 5 = .ok (.aload_n 0, 1) := by decide +kernel
theorem dX1_clear_6 : decode cX1_clear 6 = .ok (.iconst 0, 1) := by decide +kernel
theorem dX1_clear_7 : decode cX1_clear 7 = .ok (.putfield 25, 3) := by decide +kernel
theorem dX1_clear_10 : decode cX1_clear 10 = .ok (.aload_n 0, 1) := by decide +kernel
theorem dX1_clear_11 : decode cX1_clear 11 = .ok (.iconst 0, 1) := by decide +kernel
theorem dX1_clear_12 : decode cX1_clear 12 = .ok (.putfield 28, 3) := by decide +kernel
theorem dX1_clear_15 : decode cX1_clear 15 = .ok (.aload_n 0, 1) := by decide +kernel
theorem dX1_clear_16 : decode cX1_clear 16 = .ok (.iconst (-1), 1) := by decide +kernel
theorem dX1_clear_17 : decode cX1_clear 17 = .ok (.putfield 31, 3) := by decide +kernel
theorem dX1_clear_20 : decode cX1_clear 20 = .ok (.aload_n 0, 1) := by decide +kernel
theorem dX1_clear_21 : decode cX1_clear 21 = .ok (.iconst 0, 1) := by decide +kernel
theorem dX1_clear_22 : decode cX1_clear 22 = .ok (.putfield 34, 3) := by decide +kernel
theorem dX1_clear_25 : decode cX1_clear 25 = .ok (.return_, 1) := by decide +kernel
set_option maxRecDepth 20000 in
theorem ggX1_addNumber_X1_append : GoodIn wsX1_addNumber wsX1_append := goodIn_r _ [9, 10, 11, 12, 2, 1, 16, 17, 18, 19, 20, 21, 22, 23] (by decide +kernel) (by decide +kernel)
set_option maxRecDepth 20000 in
theorem gX1_addNumber_X1_append : GoodIn wsX1_addNumber (wsV RX1 62 RX1 yX1_append wsX1_append) := goodIn_app (goodIn_of _ (by decide +kernel)) ggX1_addNumber_X1_append
set_option maxRecDepth 20000 in
theorem ggX1_addNumber_X4_nextCheck : GoodIn wsX1_addNumber wsX4_nextCheck := goodIn_r _ [15] (by decide +kernel) (by decide +kernel)
set_option maxRecDepth 20000 in
theorem gX1_addNumber_X4_nextCheck_n65 : GoodIn wsX1_addNumber (wsX4_nextCheck) := ggX1_addNumber_X4_nextCheck
theorem dX1_addNumber_0 : decode cX1_addNumber 0 = .ok (.iload_n 2, 1) := by decide +kernel
theorem dX1_addNumber_1 : decode cX1_addNumber 1 = .ok (.iconst 1, 1) := by decide +kernel
theorem dX1_addNumber_2 : decode cX1_addNumber 2 = .ok (.isub, 1) := by decide +kernel
theorem dX1_addNumber_3 : decode cX1_addNumber 3 = .ok (.istore_n 3, 1) := by decide +kernel
theorem dX1_addNumber_4 : decode cX1_addNumber 4 = .ok (.iload_n 3, 1) := by decide +kernel
theorem dX1_addNumber_5 : decode cX1_addNumber 5 = .ok (.ifCond .lt 68, 3) := by decide +kernel
theorem dX1_addNumber_8 : decode cX1_addNumber 8 = .ok (.iload_n 1, 1) := by decide +kernel
theorem dX1_addNumber_9 : decode cX1_addNumber 9 = .ok (.iload_n 3, 1) := by decide +kernel
theorem dX1_addNumber_10 : decode cX1_addNumber 10 = .ok (.ishr, 1) := by decide +kernel
theorem dX1_addNumber_11 : decode cX1_addNumber 11 = .ok (.iconst 1, 1) := by decide +kernel
theorem dX1_addNumber_12 : decode cX1_addNumber 12 = .ok (.iand, 1) := by decide +kernel
theorem dX1_addNumber_13 : decode cX1_addNumber 13 = .ok (.istore 4, 2) := by decide +kernel
theorem dX1_addNumber_15 : decode cX1_addNumber 15 = .ok (.aload_n 0, 1) := by decide +kernel
theorem dX1_addNumber_16 : decode cX1_addNumber 16 = .ok (.getfield 28, 3) := by decide +kernel
theorem dX1_addNumber_19 : decode cX1_addNumber 19 = .ok (.iconst 5, 1) := by decide +kernel
theorem dX1_addNumber_20 : decode cX1_addNumber 20 = .ok (.if_icmp .ne 14, 3) := by decide +kernel
theorem dX1_addNumber_23 : decode cX1_addNumber 23 = .ok (.aload_n 0, 1) := by decide +kernel
theorem dX1_addNumber_24 : decode cX1_addNumber 24 = .ok (.iconst 1, 1) := by decide +kernel
theorem dX1_addNumber_25 : decode cX1_addNumber 25 = .ok (.aload_n 0, 1) := by decide +kernel
theorem dX1_addNumber_26 : decode cX1_addNumber 26 = .ok (.getfield 31, 3) := by decide +kernel
theorem dX1_addNumber_29 : decode cX1_addNumber 29 = .ok (.isub, 1) := by decide +kernel
theorem dX1_addNumber_30 : decode cX1_addNumber 30 = .ok (.iconst (-1), 1) := by decide +kernel
theorem dX1_addNumber_31 : decode cX1_addNumber 31 = .ok (.invokevirtual 62, 3) := by decide +kernel
theorem dX1_addNumber_34 : decode cX1_addNumber 34 = .ok (.aload_n 0, 1) := by decide +kernel
theorem dX1_addNumber_35 : decode cX1_addNumber 35 = .ok (.iload 4, 2) := by decide +kernel
theorem dX1_addNumber_37 : decode cX1_addNumber 37 = .ok (.aload_n 0, 1) := by decide +kernel
theorem dX1_addNumber_38 : decode cX1_addNumber 38 = .ok (.getfield 25, 3) := by decide +kernel
theorem dX1_addNumber_41 : decode cX1_addNumber 41 = .ok (.invokevirtual 62, 3) := by decide +kernel
theorem dX1_addNumber_44 : decode cX1_addNumber 44 = .ok (.aload_n 0, 1) := by decide +kernel
theorem dX1_addNumber_45 : decode cX1_addNumber 45 = .ok (.dup, 1) := by decide +kernel
theorem dX1_addNumber_46 : decode cX1_addNumber 46 = .ok (.getfield 25, 3) := by decide +kernel
theorem dX1_addNumber_49 : decode cX1_addNumber 49 = .ok (.iconst 1, 1) := by decide +kernel
theorem dX1_addNumber_50 : decode cX1_addNumber 50 = .ok (.iadd, 1) := by decide +kernel
theorem dX1_addNumber_51 : decode cX1_addNumber 51 = .ok (.putfield 25, 3) := by decide +kernel
theorem dX1_addNumber_54 : decode cX1_addNumber 54 = .ok (.aload_n 0, 1) := by decide +kernel
theorem dX1_addNumber_55 : decode cX1_addNumber 55 = .ok (.aload_n 0, 1) := by decide +kernel
theorem dX1_addNumber_56 : decode cX1_addNumber 56 = .ok (.getfield 34, 3) := by decide +kernel
theorem dX1_addNumber_59 : decode cX1_addNumber 59 = .ok (.iload 4, 2) := by decide +kernel
theorem dX1_addNumber_61 : decode cX1_addNumber 61 = .ok (.invokestatic 65, 3) := by decide +kernel
theorem dX1_addNumber_64 : decode cX1_addNumber 64 = .ok (.putfield 34, 3) := by decide +kernel
theorem dX1_addNumber_67 : decode cX1_addNumber 67 = .ok (.iinc 3 (-1), 3) := by decide +kernel
theorem dX1_addNumber_70 : decode cX1_addNumber 70 = .ok (.goto (-66), 3) := by decide +kernel
theorem dX1_addNumber_73 : decode cX1_addNumber 73 = .ok (.return_, 1) := by decide +kernel
theorem dX1_append_0 : decode cX1_append 0 = .ok (.aload_n 0, 1) := by decide +kernel
theorem dX1_append_1 : decode cX1_append 1 = .ok (.getfield 18, 3) := by decide +kernel
theorem dX1_append_4 : decode cX1_append 4 = .ok (.sipush 160, 3) := by decide +kernel
theorem dX1_append_7 : decode cX1_append 7 = .ok (.if_icmp .lt 4, 3) := by decide +kernel
theorem dX1_append_10 : decode cX1_append 10 = .ok (.return_, 1) := by decide +kernel
theorem dX1_append_11 : decode cX1_append 11 = .ok (.aload_n 0, 1) := by decide +kernel
theorem dX1_append_12 : decode cX1_append 12 = .ok (.getfield 9, 3) := by decide +kernel
theorem dX1_append_15 : decode cX1_append 15 = .ok (.aload_n 0, 1) := by decide +kernel
theorem dX1_append_16 : decode cX1_append 16 = .ok (.getfield 18, 3) := by decide +kernel
theorem dX1_append_19 : decode cX1_append 19 = .ok (.iload_n 1, 1) := by decide +kernel
theorem dX1_append_20 : decode cX1_append 20 = .ok (.iastore, 1) := by decide +kernel
theorem dX1_append_21 : decode cX1_append 21 = .ok (.aload_n 0, 1) := by decide +kernel
theorem dX1_append_22 : decode cX1_append 22 = .ok (.getfield 15, 3) := by decide +kernel
theorem dX1_append_25 : decode cX1_append 25 = .ok (.aload_n 0, 1) := by decide +kernel
theorem dX1_append_26 : decode cX1_append 26 = .ok (.getfield 18, 3) := by decide +kernel
theorem dX1_append_29 : decode cX1_append 29 = .ok (.iload_n 2, 1) := by decide +kernel
theorem dX1_append_30 : decode cX1_append 30 = .ok (.iastore, 1) := by decide +kernel
theorem dX1_append_31 : decode cX1_append 31 = .ok (.aload_n 0, 1) := by decide +kernel
theorem dX1_append_32 : decode cX1_append 32 = .ok (.dup, 1) := by decide +kernel
theorem dX1_append_33 : decode cX1_append 33 = .ok (.getfield 18, 3) := by decide +kernel
theorem dX1_append_36 : decode cX1_append 36 = .ok (.iconst 1, 1) := by decide +kernel
theorem dX1_append_37 : decode cX1_append 37 = .ok (.iadd, 1) := by decide +kernel
theorem dX1_append_38 : decode cX1_append 38 = .ok (.putfield 18, 3) := by decide +kernel
theorem dX1_append_41 : decode cX1_append 41 = .ok (.aload_n 0, 1) := by decide +kernel
theorem dX1_append_42 : decode cX1_append 42 = .ok (.iload_n 1, 1) := by decide +kernel
theorem dX1_append_43 : decode cX1_append 43 = .ok (.aload_n 0, 1) := by decide +kernel
theorem dX1_append_44 : decode cX1_append 44 = .ok (.getfield 31, 3) := by decide +kernel
theorem dX1_append_47 : decode cX1_append 47 = .ok (.if_icmp .ne 12, 3) := by decide +kernel
theorem dX1_append_50 : decode cX1_append 50 = .ok (.aload_n 0, 1) := by decide +kernel
theorem dX1_append_51 : decode cX1_append 51 = .ok (.getfield 28, 3) := by decide +kernel
theorem dX1_append_54 : decode cX1_append 54 = .ok (.iconst 1, 1) := by decide +kernel
theorem dX1_append_55 : decode cX1_append 55 = .ok (.iadd, 1) := by decide +kernel
theorem dX1_append_56 : decode cX1_append 56 = .ok (.goto 4, 3) := by decide +kernel
theorem dX1_append_59 : decode cX1_append 59 = .ok (.iconst 1, 1) := by decide +kernel
theorem dX1_append_60 : decode cX1_append 60 = .ok (.putfield 28, 3) := by decide +kernel
theorem dX1_append_63 : decode cX1_append 63 = .ok (.aload_n 0, 1) := by decide +kernel
theorem dX1_append_64 : decode cX1_append 64 = .ok (.iload_n 1, 1) := by decide +kernel
theorem dX1_append_65 : decode cX1_append 65 = .ok (.putfield 31, 3) := by decide +kernel
theorem dX1_append_68 : decode cX1_append 68 = .ok (.return_, 1) := by decide +kernel
set_option maxRecDepth 20000 in
theorem ggX2_init_X0_init : GoodIn wsX2_init wsX0_init := goodIn_r _ [29, 30, 2, 3, 31, 32, 33, 34, 75, 76, 77, 78] (by decide +kernel) (by decide +kernel)
set_option maxRecDepth 20000 in
theorem gX2_init_X0_init_n17 : GoodIn wsX2_init (wsX0_init) := ggX2_init_X0_init
set_option maxRecDepth 20000 in
theorem ggX2_init_X1_init : GoodIn wsX2_init wsX1_init := goodIn_r _ [36, 37, 2, 3, 38, 39, 40, 41, 42, 43, 44, 45, 46, 79, 80, 81, 82, 83, 84, 85, 86] (by decide +kernel) (by decide +kernel)
set_option maxRecDepth 20000 in
theorem gX2_init_X1_init_n24 : GoodIn wsX2_init (wsX1_init) := ggX2_init_X1_init
set_option maxRecDepth 20000 in
theorem ggX2_init_X3_init : GoodIn wsX2_init wsX3_init := goodIn_r _ [48, 49, 2, 3, 50, 6, 7, 51, 52, 53, 54, 55, 56, 57, 58, 59, 28, 29, 30, 31, 32, 33, 34, 75, 76, 77, 78, 87, 88, 89, 90, 91, 92, 93, 94, 95] (by decide +kernel) (by decide +kernel)
set_option maxRecDepth 20000 in
theorem gX2_init_X3_init_n31 : GoodIn wsX2_init (wsX3_init) := ggX2_init_X3_init
theorem dX2_init_0 : decode cX2_init 0 = .ok (.aload_n 0, 1) := by decide +kernel
theorem dX2_init_1 : decode cX2_init 1 = .ok (.invokespecial 3, 3) := by decide +kernel
theorem dX2_init_4 : decode cX2_init 4 = .ok (.aload_n 0, 1) := by decide +kernel
theorem dX2_init_5 : decode cX2_init 5 = .ok (.iconst 4, 1) := by decide +kernel
theorem dX2_init_6 : decode cX2_init 6 = .ok (.anewarray 9, 3) := by decide +kernel
theorem dX2_init_9 : decode cX2_init 9 = .ok (.putfield 11, 3) := by decide +kernel
theorem dX2_init_12 : decode cX2_init 12 = .ok (.aload_n 0, 1) := by decide +kernel
theorem dX2_init_13 : decode cX2_init 13 = .ok (.new 9, 3) := by decide +kernel
theorem dX2_init_16 : decode cX2_init 16 = .ok (.dup, 1) := by decide +kernel
theorem dX2_init_17 : decode cX2_init 17 = .ok (.invokespecial 17, 3) := by decide +kernel
theorem dX2_init_20 : decode cX2_init 20 = .ok (.putfield 18, 3) := by decide +kernel
theorem dX2_init_23 : decode cX2_init 23 = .ok (.aload_n 0, 1) := by decide +kernel
theorem dX2_init_24 : decode cX2_init 24 = .ok (.new 22, 3) := by decide +kernel
theorem dX2_init_27 : decode cX2_init 27 = .ok (.dup, 1) := by decide +kernel
theorem dX2_init_28 : decode cX2_init 28 = .ok (.invokespecial 24, 3) := by decide +kernel
theorem dX2_init_31 : decode cX2_init 31 = .ok (.putfield 25, 3) := by decide +kernel
theorem dX2_init_34 : decode cX2_init 34 = .ok (.aload_n 0, 1) := by decide +kernel
theorem dX2_init_35 : decode cX2_init 35 = .ok (.new 29, 3) := by decide +kernel
theorem dX2_init_38 : decode cX2_init 38 = .ok (.dup, 1) := by decide +kernel
theorem dX2_init_39 : decode cX2_init 39 = .ok (.invokespecial 31, 3) := by decide +kernel
theorem dX2_init_42 : decode cX2_init 42 = .ok (.putfield 32, 3) := by decide +kernel
theorem dX2_init_45 : decode cX2_init 45 = .ok (.aload_n 0, 1) := by decide +kernel
theorem dX2_init_46 : decode cX2_init 46 = .ok (.iconst 1, 1) := by decide +kernel
theorem dX2_init_47 : decode cX2_init 47 = .ok (.putfield 36, 3) := by decide +kernel
theorem dX2_init_50 : decode cX2_init 50 = .ok (.aload_n 0, 1) := by decide +kernel
theorem dX2_init_51 : decode cX2_init 51 = .ok (.iconst 1, 1) := by decide +kernel
theorem dX2_init_52 : decode cX2_init 52 = .ok (.putfield 40, 3) := by decide +kernel
theorem dX2_init_55 : decode cX2_init 55 = .ok (.aload_n 0, 1) := by decide +kernel
theorem dX2_init_56 : decode cX2_init 56 = .ok (.iconst 0, 1) := by decide +kernel
theorem dX2_init_57 : decode cX2_init 57 = .ok (.putfield 44, 3) := by decide +kernel
theorem dX2_init_60 : decode cX2_init 60 = .ok (.aload_n 0, 1) := by decide +kernel
theorem dX2_init_61 : decode cX2_init 61 = .ok (.iconst 0, 1) := by decide +kernel
theorem dX2_init_62 : decode cX2_init 62 = .ok (.putfield 47, 3) := by decide +kernel
theorem dX2_init_65 : decode cX2_init 65 = .ok (.aload_n 0, 1) := by decide +kernel
theorem dX2_init_66 : decode cX2_init 66 = .ok (.iconst 0, 1) := by decide +kernel
theorem dX2_init_67 : decode cX2_init 67 = .ok (.putfield 50, 3) := by decide +kernel
theorem dX2_init_70 : decode cX2_init 70 = .ok (.aload_n 0, 1) := by decide +kernel
theorem dX2_init_71 : decode cX2_init 71 = .ok (.iconst 0, 1) := by decide +kernel
theorem dX2_init_72 : decode cX2_init 72 = .ok (.putfield 53, 3) := by decide +kernel
theorem dX2_init_75 : decode cX2_init 75 = .ok (.aload_n 0, 1) := by decide +kernel
theorem dX2_init_76 : decode cX2_init 76 = .ok (.iconst 0, 1) := by decide +kernel
theorem dX2_init_77 : decode cX2_init 77 = .ok (.putfield 56, 3) := by decide +kernel
theorem dX2_init_80 : decode cX2_init 80 = .ok (.aload_n 0, 1) := by decide +kernel
theorem dX2_init_81 : decode cX2_init 81 = .ok (.iconst 0, 1) := by decide +kernel
theorem dX2_init_82 : decode cX2_init 82 = .ok (.putfield 59, 3) := by decide +kernel
theorem dX2_init_85 : decode cX2_init 85 = .ok (.aload_n 0, 1) := by decide +kernel
theorem dX2_init_86 : decode cX2_init 86 = .ok (.iconst 0, 1) := by decide +kernel
theorem dX2_init_87 : decode cX2_init 87 = .ok (.putfield 62, 3) := by decide +kernel
theorem dX2_init_90 : decode cX2_init 90 = .ok (.aload_n 0, 1) := by decide +kernel
theorem dX2_init_91 : decode cX2_init 91 = .ok (.iconst 0, 1) := by decide +kernel
theorem dX2_init_92 : decode cX2_init 92 = .ok (.putfield 65, 3) := by decide +kernel
theorem dX2_init_95 : decode cX2_init 95 = .ok (.aload_n 0, 1) := by decide +kernel
theorem dX2_init_96 : decode cX2_init 96 = .ok (.iconst 0, 1) := by decide +kernel
theorem dX2_init_97 : decode cX2_init 97 = .ok (.putfield 68, 3) := by decide +kernel
theorem dX2_init_100 : decode cX2_init 100 = .ok (.iconst 0, 1) := by decide +kernel
theorem dX2_init_101 : decode cX2_init 101 = .ok (.istore_n 1, 1) := by decide +kernel
theorem dX2_init_102 : decode cX2_init 102 = .ok (.iload_n 1, 1) := by decide +kernel
theorem dX2_init_103 : decode cX2_init 103 = .ok (.iconst 4, 1) := by decide +kernel
theorem dX2_init_104 : decode cX2_init 104 = .ok (.if_icmp .ge 22, 3) := by decide +kernel
theorem dX2_init_107 : decode cX2_init 107 = .ok (.aload_n 0, 1) := by decide +kernel
theorem dX2_init_108 : decode cX2_init 108 = .ok (.getfield 11, 3) := by decide +kernel
theorem dX2_init_111 : decode cX2_init 111 = .ok (.iload_n 1, 1) := by decide +kernel
theorem dX2_init_112 : decode cX2_init 112 = .ok (.new 9, 3) := by decide +kernel
theorem dX2_init_115 : decode cX2_init 115 = .ok (.dup, 1) := by decide +kernel
theorem dX2_init_116 : decode cX2_init 116 = .ok (.invokespecial 17, 3) := by decide +kernel
theorem dX2_init_119 : decode cX2_init 119 = .ok (.aastore, 1) := by decide +kernel
theorem dX2_init_120 : decode cX2_init 120 = .ok (.iinc 1 1, 3) := by decide +kernel
theorem dX2_init_123 : decode cX2_init 123 = .ok (.goto (-21), 3) := by decide +kernel
theorem dX2_init_126 : decode cX2_init 126 = .ok (.return_, 1) := by decide +kernel
set_option maxRecDepth 20000 in
theorem ggX2_addWanted_X0_set : GoodIn wsX2_addWanted wsX0_set := goodIn_r _ [7, 8, 9, 10, 11, 27, 28, 29, 30] (by decide +kernel) (by decide +kernel)
set_option maxRecDepth 20000 in
theorem gX2_addWanted_X0_set : GoodIn wsX2_addWanted (wsV RX2 71 RX0 yX0_set wsX0_set) := goodIn_app (goodIn_of _ (by decide +kernel)) ggX2_addWanted_X0_set
theorem dX2_addWanted_0 : decode cX2_addWanted 0 = .ok (.aload_n 0, 1) := by decide +kernel
theorem dX2_addWanted_1 : decode cX2_addWanted 1 = .ok (.getfield 44, 3) := by decide +kernel
theorem dX2_addWanted_4 : decode cX2_addWanted 4 = .ok (.iconst 4, 1) := by decide +kernel
theorem dX2_addWanted_5 : decode cX2_addWanted 5 = .ok (.if_icmp .ge 30, 3) := by decide +kernel
theorem dX2_addWanted_8 : decode cX2_addWanted 8 = .ok (.aload_n 0, 1) := by decide +kernel
theorem dX2_addWanted_9 : decode cX2_addWanted 9 = .ok (.getfield 11, 3) := by decide +kernel
theorem dX2_addWanted_12 : decode cX2_addWanted 12 = .ok (.aload_n 0, 1) := by decide +kernel
theorem dX2_addWanted_13 : decode cX2_addWanted 13 = .ok (.getfield 44, 3) := by decide +kernel
theorem dX2_addWanted_16 : decode cX2_addWanted 16 = .ok (.aaload, 1) := by decide +kernel
theorem dX2_addWanted_17 : decode cX2_addWanted 17 = .ok (.iload_n 1, 1) := by decide +kernel
theorem dX2_addWanted_18 : decode cX2_addWanted 18 = .ok (.iload_n 2, 1) := by decide +kernel
theorem dX2_addWanted_19 : decode cX2_addWanted 19 = .ok (.lload_n 3, 1) := by decide +kernel
theorem dX2_addWanted_20 : decode cX2_addWanted 20 = .ok (.iload 5, 2) := by decide +kernel
theorem dX2_addWanted_22 : decode cX2_addWanted 22 = .ok (.invokevirtual 71, 3) := by decide +kernel
theorem dX2_addWanted_25 : decode cX2_addWanted 25 = .ok (.aload_n 0, 1) := by decide +kernel
theorem dX2_addWanted_26 : decode cX2_addWanted 26 = .ok (.dup, 1) := by decide +kernel
theorem dX2_addWanted_27 : decode cX2_addWanted 27 = .ok (.getfield 44, 3) := by decide +kernel
theorem dX2_addWanted_30 : decode cX2_addWanted 30 = .ok (.iconst 1, 1) := by decide +kernel
theorem dX2_addWanted_31 : decode cX2_addWanted 31 = .ok (.iadd, 1) := by decide +kernel
theorem dX2_addWanted_32 : decode cX2_addWanted 32 = .ok (.putfield 44, 3) := by decide +kernel
theorem dX2_addWanted_35 : decode cX2_addWanted 35 = .ok (.return_, 1) := by decide +kernel
set_option maxRecDepth 20000 in
theorem ggX2_offered_X0_rank : GoodIn wsX2_offered wsX0_rank := goodIn_r _ [7, 8, 9, 10, 11, 27, 28, 29, 30] (by decide +kernel) (by decide +kernel)
set_option maxRecDepth 20000 in
theorem gX2_offered_X0_rank : GoodIn wsX2_offered (wsV RX2 75 RX0 yX0_rank wsX0_rank) := goodIn_app (goodIn_of _ (by decide +kernel)) ggX2_offered_X0_rank
theorem dX2_offered_0 : decode cX2_offered 0 = .ok (.iconst (-1), 1) := by decide +kernel
theorem dX2_offered_1 : decode cX2_offered 1 = .ok (.istore_n 1, 1) := by decide +kernel
theorem dX2_offered_2 : decode cX2_offered 2 = .ok (.iconst 0, 1) := by decide +kernel
theorem dX2_offered_3 : decode cX2_offered 3 = .ok (.istore_n 2, 1) := by decide +kernel
theorem dX2_offered_4 : decode cX2_offered 4 = .ok (.iload_n 2, 1) := by decide +kernel
theorem dX2_offered_5 : decode cX2_offered 5 = .ok (.aload_n 0, 1) := by decide +kernel
theorem dX2_offered_6 : decode cX2_offered 6 = .ok (.getfield 44, 3) := by decide +kernel
theorem dX2_offered_9 : decode cX2_offered 9 = .ok (.if_icmp .ge 37, 3) := by decide +kernel
theorem dX2_offered_12 : decode cX2_offered 12 = .ok (.iload_n 1, 1) := by decide +kernel
theorem dX2_offered_13 : decode cX2_offered 13 = .ok (.iconst (-1), 1) := by decide +kernel
theorem dX2_offered_14 : decode cX2_offered 14 = .ok (.if_icmp .eq 24, 3) := by decide +kernel
theorem dX2_offered_17 : decode cX2_offered 17 = .ok (.aload_n 0, 1) := by decide +kernel
theorem dX2_offered_18 : decode cX2_offered 18 = .ok (.getfield 11, 3) := by decide +kernel
theorem dX2_offered_21 : decode cX2_offered 21 = .ok (.iload_n 2, 1) := by decide +kernel
theorem dX2_offered_22 : decode cX2_offered 22 = .ok (.aaload, 1) := by decide +kernel
theorem dX2_offered_23 : decode cX2_offered 23 = .ok (.invokevirtual 75, 3) := by decide +kernel
theorem dX2_offered_26 : decode cX2_offered 26 = .ok (.aload_n 0, 1) := by decide +kernel
theorem dX2_offered_27 : decode cX2_offered 27 = .ok (.getfield 11, 3) := by decide +kernel
theorem dX2_offered_30 : decode cX2_offered 30 = .ok (.iload_n 1, 1) := by decide +kernel
theorem dX2_offered_31 : decode cX2_offered 31 = .ok (.aaload, 1) := by decide +kernel
theorem dX2_offered_32 : decode cX2_offered 32 = .ok (.invokevirtual 75, 3) := by decide +kernel
theorem dX2_offered_35 : decode cX2_offered 35 = .ok (.if_icmp .ge 5, 3) := by decide +kernel
theorem dX2_offered_38 : decode cX2_offered 38 = .ok (.iload_n 2, 1) := by decide +kernel
theorem dX2_offered_39 : decode cX2_offered 39 = .ok (.istore_n 1, 1) := by decide +kernel
theorem dX2_offered_40 : decode cX2_offered 40 = .ok (.iinc 2 1, 3) := by decide +kernel
theorem dX2_offered_43 : decode cX2_offered 43 = .ok (.goto (-39), 3) := by decide +kernel
theorem dX2_offered_46 : decode cX2_offered 46 = .ok (.iload_n 1, 1) := by decide +kernel
theorem dX2_offered_47 : decode cX2_offered 47 = .ok (.ireturn, 1) := by decide +kernel
theorem dX2_switchOn_0 : decode cX2_switchOn 0 = .ok (.aload_n 0, 1) := by decide +kernel
theorem dX2_switchOn_1 : decode cX2_switchOn 1 = .ok (.iconst 1, 1) := by decide +kernel
theorem dX2_switchOn_2 : decode cX2_switchOn 2 = .ok (.putfield 36, 3) := by decide +kernel
theorem dX2_switchOn_5 : decode cX2_switchOn 5 = .ok (.aload_n 0, 1) := by decide +kernel
theorem dX2_switchOn_6 : decode cX2_switchOn 6 = .ok (.iconst 0, 1) := by decide +kernel
theorem dX2_switchOn_7 : decode cX2_switchOn 7 = .ok (.putfield 47, 3) := by decide +kernel
theorem dX2_switchOn_10 : decode cX2_switchOn 10 = .ok (.aload_n 0, 1) := by decide +kernel
theorem dX2_switchOn_11 : decode cX2_switchOn 11 = .ok (.iconst 0, 1) := by decide +kernel
theorem dX2_switchOn_12 : decode cX2_switchOn 12 = .ok (.putfield 50, 3) := by decide +kernel
theorem dX2_switchOn_15 : decode cX2_switchOn 15 = .ok (.return_, 1) := by decide +kernel
set_option maxRecDepth 20000 in
theorem ggX2_startSending_X2_offered : GoodIn wsX2_startSending wsX2_offered := goodIn_r _ [12, 13, 6, 14, 15, 16, 17, 18, 19, 20, 21, 22, 76, 77, 78, 79, 80, 81, 82, 83, 84, 85, 86, 87, 88, 89, 90, 91, 92, 93, 94] (by decide +kernel) (by decide +kernel)
set_option maxRecDepth 20000 in
theorem gX2_startSending_X2_offered : GoodIn wsX2_startSending (wsV RX2 79 RX2 yX2_offered wsX2_offered) := goodIn_app (goodIn_of _ (by decide +kernel)) ggX2_startSending_X2_offered
set_option maxRecDepth 20000 in
theorem ggX2_startSending_X1_write : GoodIn wsX2_startSending wsX1_write := goodIn_r _ [27, 28, 29, 30, 31, 32, 33, 34, 35, 36, 37, 38, 26, 39, 40, 41, 42, 43, 44, 45, 46, 47, 48, 49, 50, 51, 52, 53, 54, 55, 91, 92, 93, 94, 95, 96, 97, 98, 99, 100, 101, 102] (by decide +kernel) (by decide +kernel)
set_option maxRecDepth 20000 in
theorem gX2_startSending_X1_write : GoodIn wsX2_startSending (wsV RX2 82 RX1 yX1_write wsX1_write) := goodIn_app (goodIn_of _ (by decide +kernel)) ggX2_startSending_X1_write
set_option maxRecDepth 20000 in
theorem ggX2_startSending_X3_begin : GoodIn wsX2_startSending wsX3_begin := goodIn_r _ [60, 61, 62, 63, 64, 65, 66, 67, 68, 69, 70, 71, 72, 17, 73, 19, 20, 74, 75, 103, 104, 105, 106, 107, 108, 109, 110, 111, 91, 92, 93, 94] (by decide +kernel) (by decide +kernel)
set_option maxRecDepth 20000 in
theorem gX2_startSending_X3_begin : GoodIn wsX2_startSending (wsV RX2 86 RX3 yX3_begin wsX3_begin) := goodIn_app (goodIn_of _ (by decide +kernel)) ggX2_startSending_X3_begin
theorem dX2_startSending_0 : decode cX2_startSending 0 = .ok (.aload_n 0, 1) := by decide +kernel
theorem dX2_startSending_1 : decode cX2_startSending 1 = .ok (.invokevirtual 79, 3) := by decide +kernel
theorem dX2_startSending_4 : decode cX2_startSending 4 = .ok (.istore_n 1, 1) := by decide +kernel
theorem dX2_startSending_5 : decode cX2_startSending 5 = .ok (.aload_n 0, 1) := by decide +kernel
theorem dX2_startSending_6 : decode cX2_startSending 6 = .ok (.getfield 36, 3) := by decide +kernel
theorem dX2_startSending_9 : decode cX2_startSending 9 = .ok (.ifCond .eq 8, 3) := by decide +kernel
theorem dX2_startSending_12 : decode cX2_startSending 12 = .ok (.iload_n 1, 1) := by decide +kernel
theorem dX2_startSending_13 : decode cX2_startSending 13 = .ok (.iconst (-1), 1) := by decide +kernel
theorem dX2_startSending_14 : decode cX2_startSending 14 = .ok (.if_icmp .ne 4, 3) := by decide +kernel
theorem dX2_startSending_17 : decode cX2_startSending 17 = .ok (.return_, 1) := by decide +kernel
theorem dX2_startSending_18 : decode cX2_startSending 18 = .ok (.aload_n 0, 1) := by decide +kernel
theorem dX2_startSending_19 : decode cX2_startSending 19 = .ok (.iconst 3, 1) := by decide +kernel
theorem dX2_startSending_20 : decode cX2_startSending 20 = .ok (.putfield 40, 3) := by decide +kernel
theorem dX2_startSending_23 : decode cX2_startSending 23 = .ok (.aload_n 0, 1) := by decide +kernel
theorem dX2_startSending_24 : decode cX2_startSending 24 = .ok (.iload_n 1, 1) := by decide +kernel
theorem dX2_startSending_25 : decode cX2_startSending 25 = .ok (.putfield 65, 3) := by decide +kernel
theorem dX2_startSending_28 : decode cX2_startSending 28 = .ok (.aload_n 0, 1) := by decide +kernel
theorem dX2_startSending_29 : decode cX2_startSending 29 = .ok (.iconst 0, 1) := by decide +kernel
theorem dX2_startSending_30 : decode cX2_startSending 30 = .ok (.putfield 68, 3) := by decide +kernel
theorem dX2_startSending_33 : decode cX2_startSending 33 = .ok (.aload_n 0, 1) := by decide +kernel
theorem dX2_startSending_34 : decode cX2_startSending 34 = .ok (.getfield 25, 3) := by decide +kernel
theorem dX2_startSending_37 : decode cX2_startSending 37 = .ok (.aload_n 0, 1) := by decide +kernel
theorem dX2_startSending_38 : decode cX2_startSending 38 = .ok (.getfield 11, 3) := by decide +kernel
theorem dX2_startSending_41 : decode cX2_startSending 41 = .ok (.iload_n 1, 1) := by decide +kernel
theorem dX2_startSending_42 : decode cX2_startSending 42 = .ok (.aaload, 1) := by decide +kernel
theorem dX2_startSending_43 : decode cX2_startSending 43 = .ok (.invokevirtual 82, 3) := by decide +kernel
theorem dX2_startSending_46 : decode cX2_startSending 46 = .ok (.aload_n 0, 1) := by decide +kernel
theorem dX2_startSending_47 : decode cX2_startSending 47 = .ok (.getfield 32, 3) := by decide +kernel
theorem dX2_startSending_50 : decode cX2_startSending 50 = .ok (.invokevirtual 86, 3) := by decide +kernel
theorem dX2_startSending_53 : decode cX2_startSending 53 = .ok (.return_, 1) := by decide +kernel
set_option maxRecDepth 20000 in
theorem ggX2_bitToSend_X1_bitAt : GoodIn wsX2_bitToSend wsX1_bitAt := goodIn_r _ [9, 10, 11, 41, 42, 43, 44, 45, 46, 47, 48] (by decide +kernel) (by decide +kernel)
set_option maxRecDepth 20000 in
theorem gX2_bitToSend_X1_bitAt : GoodIn wsX2_bitToSend (wsV RX2 89 RX1 yX1_bitAt wsX1_bitAt) := goodIn_app (goodIn_of _ (by decide +kernel)) ggX2_bitToSend_X1_bitAt
set_option maxRecDepth 20000 in
theorem ggX2_bitToSend_X3_givesAnswer : GoodIn wsX2_bitToSend wsX3_givesAnswer := goodIn_r _ [16, 17, 18, 19, 20, 21, 22, 15, 23, 24, 25, 49, 50, 51, 52, 53, 54, 55, 56, 57] (by decide +kernel) (by decide +kernel)
set_option maxRecDepth 20000 in
theorem gX2_bitToSend_X3_givesAnswer : GoodIn wsX2_bitToSend (wsV RX2 93 RX3 yX3_givesAnswer wsX3_givesAnswer) := goodIn_app (goodIn_of _ (by decide +kernel)) ggX2_bitToSend_X3_givesAnswer
theorem dX2_bitToSend_0 : decode cX2_bitToSend 0 = .ok (.aload_n 0, 1) := by decide +kernel
theorem dX2_bitToSend_1 : decode cX2_bitToSend 1 = .ok (.getfield 40, 3) := by decide +kernel
theorem dX2_bitToSend_4 : decode cX2_bitToSend 4 = .ok (.iconst 3, 1) := by decide +kernel
theorem dX2_bitToSend_5 : decode cX2_bitToSend 5 = .ok (.if_icmp .ne 15, 3) := by decide +kernel
theorem dX2_bitToSend_8 : decode cX2_bitToSend 8 = .ok (.aload_n 0, 1) := by decide +kernel
theorem dX2_bitToSend_9 : decode cX2_bitToSend 9 = .ok (.getfield 25, 3) := by decide +kernel
theorem dX2_bitToSend_12 : decode cX2_bitToSend 12 = .ok (.aload_n 0, 1) := by decide +kernel
theorem dX2_bitToSend_13 : decode cX2_bitToSend 13 = .ok (.getfield 68, 3) := by decide +kernel
theorem dX2_bitToSend_16 : decode cX2_bitToSend 16 = .ok (.invokevirtual 89, 3) := by decide +kernel
theorem dX2_bitToSend_19 : decode cX2_bitToSend 19 = .ok (.ireturn, 1) := by decide +kernel
theorem dX2_bitToSend_20 : decode cX2_bitToSend 20 = .ok (.aload_n 0, 1) := by decide +kernel
theorem dX2_bitToSend_21 : decode cX2_bitToSend 21 = .ok (.getfield 40, 3) := by decide +kernel
theorem dX2_bitToSend_24 : decode cX2_bitToSend 24 = .ok (.iconst 2, 1) := by decide +kernel
theorem dX2_bitToSend_25 : decode cX2_bitToSend 25 = .ok (.if_icmp .ne 17, 3) := by decide +kernel
theorem dX2_bitToSend_28 : decode cX2_bitToSend 28 = .ok (.aload_n 0, 1) := by decide +kernel
theorem dX2_bitToSend_29 : decode cX2_bitToSend 29 = .ok (.getfield 32, 3) := by decide +kernel
theorem dX2_bitToSend_32 : decode cX2_bitToSend 32 = .ok (.invokevirtual 93, 3) := by decide +kernel
theorem dX2_bitToSend_35 : decode cX2_bitToSend 35 = .ok (.ifCond .eq 7, 3) := by decide +kernel
theorem dX2_bitToSend_38 : decode cX2_bitToSend 38 = .ok (.iconst 0, 1) := by decide +kernel
theorem dX2_bitToSend_39 : decode cX2_bitToSend 39 = .ok (.goto 4, 3) := by decide +kernel
theorem dX2_bitToSend_42 : decode cX2_bitToSend 42 = .ok (.iconst 1, 1) := by decide +kernel
theorem dX2_bitToSend_43 : decode cX2_bitToSend 43 = .ok (.ireturn, 1) := by decide +kernel
set_option maxRecDepth 20000 in
theorem ggX2_look_X3_begin : GoodIn wsX2_look wsX3_begin := goodIn_r _ [9, 10, 11, 12, 13, 14, 15, 16, 17, 18, 19, 20, 21, 22, 23, 24, 25, 26, 27, 106, 107, 108, 109, 110, 111, 112, 113, 114, 115, 116, 117, 118] (by decide +kernel) (by decide +kernel)
set_option maxRecDepth 20000 in
theorem gX2_look_X3_begin : GoodIn wsX2_look (wsV RX2 86 RX3 yX3_begin wsX3_begin) := goodIn_app (goodIn_of _ (by decide +kernel)) ggX2_look_X3_begin
set_option maxRecDepth 20000 in
theorem ggX2_look_X2_lookAsSender : GoodIn wsX2_look wsX2_lookAsSender := goodIn_r _ [32, 33, 34, 1, 3, 35, 36, 37, 38, 39, 40, 41, 42, 43, 44, 45, 46, 47, 48, 49, 50, 51, 91, 92, 93, 94, 95, 96, 97, 98, 99, 100, 101, 102, 103, 104, 105, 119, 120, 121, 122, 123, 124, 125, 126] (by decide +kernel) (by decide +kernel)
set_option maxRecDepth 20000 in
theorem gX2_look_X2_lookAsSender : GoodIn wsX2_look (wsV RX2 97 RX2 yX2_lookAsSender wsX2_lookAsSender) := goodIn_app (goodIn_of _ (by decide +kernel)) ggX2_look_X2_lookAsSender
set_option maxRecDepth 20000 in
theorem ggX2_look_X3_take : GoodIn wsX2_look wsX3_take := goodIn_r _ [55, 11, 13, 14, 56, 57, 58, 8, 59, 18, 60, 61, 62, 63, 12, 15, 16, 64, 65, 66, 67, 17, 68, 69, 70, 71, 72, 73, 74, 10, 75, 76, 77, 78, 79, 80, 81, 82, 83, 84, 85, 86, 87, 88, 89, 90, 106, 107, 108, 109, 110, 111, 112, 113, 114, 115, 116, 117, 118] (by decide +kernel) (by decide +kernel)
set_option maxRecDepth 20000 in
theorem gX2_look_X3_take : GoodIn wsX2_look (wsV RX2 101 RX3 yX3_take wsX3_take) := goodIn_app (goodIn_of _ (by decide +kernel)) ggX2_look_X3_take
theorem dX2_look_0 : decode cX2_look 0 = .ok (.aload_n 0, 1) := by decide +kernel
theorem dX2_look_1 : decode cX2_look 1 = .ok (.iconst 0, 1) := by decide +kernel
theorem dX2_look_2 : decode cX2_look 2 = .ok (.putfield 62, 3) := by decide +kernel
theorem dX2_look_5 : decode cX2_look 5 = .ok (.aload_n 0, 1) := by decide +kernel
theorem dX2_look_6 : decode cX2_look 6 = .ok (.getfield 36, 3) := by decide +kernel
theorem dX2_look_9 : decode cX2_look 9 = .ok (.ifCond .eq 16, 3) := by decide +kernel
theorem dX2_look_12 : decode cX2_look 12 = .ok (.aload_n 0, 1) := by decide +kernel
theorem dX2_look_13 : decode cX2_look 13 = .ok (.getfield 40, 3) := by decide +kernel
theorem dX2_look_16 : decode cX2_look 16 = .ok (.iconst 1, 1) := by decide +kernel
theorem dX2_look_17 : decode cX2_look 17 = .ok (.if_icmp .ne 9, 3) := by decide +kernel
theorem dX2_look_20 : decode cX2_look 20 = .ok (.iload_n 1, 1) := by decide +kernel
theorem dX2_look_21 : decode cX2_look 21 = .ok (.iconst 1, 1) := by decide +kernel
theorem dX2_look_22 : decode cX2_look 22 = .ok (.if_icmp .ne 4, 3) := by decide +kernel
theorem dX2_look_25 : decode cX2_look 25 = .ok (.return_, 1) := by decide +kernel
theorem dX2_look_26 : decode cX2_look 26 = .ok (.aload_n 0, 1) := by decide +kernel
theorem dX2_look_27 : decode cX2_look 27 = .ok (.getfield 40, 3) := by decide +kernel
theorem dX2_look_30 : decode cX2_look 30 = .ok (.iconst 1, 1) := by decide +kernel
theorem dX2_look_31 : decode cX2_look 31 = .ok (.if_icmp .ne 18, 3) := by decide +kernel
theorem dX2_look_34 : decode cX2_look 34 = .ok (.aload_n 0, 1) := by decide +kernel
theorem dX2_look_35 : decode cX2_look 35 = .ok (.iconst 2, 1) := by decide +kernel
theorem dX2_look_36 : decode cX2_look 36 = .ok (.putfield 40, 3) := by decide +kernel
theorem dX2_look_39 : decode cX2_look 39 = .ok (.aload_n 0, 1) := by decide +kernel
theorem dX2_look_40 : decode cX2_look 40 = .ok (.getfield 32, 3) := by decide +kernel
theorem dX2_look_43 : decode cX2_look 43 = .ok (.invokevirtual 86, 3) := by decide +kernel
theorem dX2_look_46 : decode cX2_look 46 = .ok (.goto 16, 3) := by decide +kernel
theorem dX2_look_49 : decode cX2_look 49 = .ok (.aload_n 0, 1) := by decide +kernel
theorem dX2_look_50 : decode cX2_look 50 = .ok (.getfield 40, 3) := by decide +kernel
theorem dX2_look_53 : decode cX2_look 53 = .ok (.iconst 3, 1) := by decide +kernel
theorem dX2_look_54 : decode cX2_look 54 = .ok (.if_icmp .ne 8, 3) := by decide +kernel
theorem dX2_look_57 : decode cX2_look 57 = .ok (.aload_n 0, 1) := by decide +kernel
theorem dX2_look_58 : decode cX2_look 58 = .ok (.iload_n 1, 1) := by decide +kernel
theorem dX2_look_59 : decode cX2_look 59 = .ok (.invokevirtual 97, 3) := by decide +kernel
theorem dX2_look_62 : decode cX2_look 62 = .ok (.aload_n 0, 1) := by decide +kernel
theorem dX2_look_63 : decode cX2_look 63 = .ok (.getfield 32, 3) := by decide +kernel
theorem dX2_look_66 : decode cX2_look 66 = .ok (.iload_n 1, 1) := by decide +kernel
theorem dX2_look_67 : decode cX2_look 67 = .ok (.invokevirtual 101, 3) := by decide +kernel
theorem dX2_look_70 : decode cX2_look 70 = .ok (.istore_n 2, 1) := by decide +kernel
theorem dX2_look_71 : decode cX2_look 71 = .ok (.aload_n 0, 1) := by decide +kernel
theorem dX2_look_72 : decode cX2_look 72 = .ok (.getfield 40, 3) := by decide +kernel
theorem dX2_look_75 : decode cX2_look 75 = .ok (.iconst 2, 1) := by decide +kernel
theorem dX2_look_76 : decode cX2_look 76 = .ok (.if_icmp .ne 8, 3) := by decide +kernel
theorem dX2_look_79 : decode cX2_look 79 = .ok (.aload_n 0, 1) := by decide +kernel
theorem dX2_look_80 : decode cX2_look 80 = .ok (.iload_n 2, 1) := by decide +kernel
theorem dX2_look_81 : decode cX2_look 81 = .ok (.putfield 62, 3) := by decide +kernel
theorem dX2_look_84 : decode cX2_look 84 = .ok (.return_, 1) := by decide +kernel
theorem dX2_countFault_0 : decode cX2_countFault 0 = .ok (.aload_n 0, 1) := by decide +kernel
theorem dX2_countFault_1 : decode cX2_countFault 1 = .ok (.getfield 62, 3) := by decide +kernel
theorem dX2_countFault_4 : decode cX2_countFault 4 = .ok (.ifCond .eq 43, 3) := by decide +kernel
theorem dX2_countFault_7 : decode cX2_countFault 7 = .ok (.aload_n 0, 1) := by decide +kernel
theorem dX2_countFault_8 : decode cX2_countFault 8 = .ok (.aload_n 0, 1) := by decide +kernel
theorem dX2_countFault_9 : decode cX2_countFault 9 = .ok (.getfield 62, 3) := by decide +kernel
theorem dX2_countFault_12 : decode cX2_countFault 12 = .ok (.putfield 59, 3) := by decide +kernel
theorem dX2_countFault_15 : decode cX2_countFault 15 = .ok (.aload_n 0, 1) := by decide +kernel
theorem dX2_countFault_16 : decode cX2_countFault 16 = .ok (.getfield 40, 3) := by decide +kernel
theorem dX2_countFault_19 : decode cX2_countFault 19 = .ok (.iconst 3, 1) := by decide +kernel
theorem dX2_countFault_20 : decode cX2_countFault 20 = .ok (.if_icmp .ne 17, 3) := by decide +kernel
theorem dX2_countFault_23 : decode cX2_countFault 23 = .ok (.aload_n 0, 1) := by decide +kernel
theorem dX2_countFault_24 : decode cX2_countFault 24 = .ok (.dup, 1) := by decide +kernel
theorem dX2_countFault_25 : decode cX2_countFault 25 = .ok (.getfield 47, 3) := by decide +kernel
theorem dX2_countFault_28 : decode cX2_countFault 28 = .ok (.bipush 8, 2) := by decide +kernel
theorem dX2_countFault_30 : decode cX2_countFault 30 = .ok (.iadd, 1) := by decide +kernel
theorem dX2_countFault_31 : decode cX2_countFault 31 = .ok (.putfield 47, 3) := by decide +kernel
theorem dX2_countFault_34 : decode cX2_countFault 34 = .ok (.goto 13, 3) := by decide +kernel
theorem dX2_countFault_37 : decode cX2_countFault 37 = .ok (.aload_n 0, 1) := by decide +kernel
theorem dX2_countFault_38 : decode cX2_countFault 38 = .ok (.dup, 1) := by decide +kernel
theorem dX2_countFault_39 : decode cX2_countFault 39 = .ok (.getfield 50, 3) := by decide +kernel
theorem dX2_countFault_42 : decode cX2_countFault 42 = .ok (.iconst 1, 1) := by decide +kernel
theorem dX2_countFault_43 : decode cX2_countFault 43 = .ok (.iadd, 1) := by decide +kernel
theorem dX2_countFault_44 : decode cX2_countFault 44 = .ok (.putfield 50, 3) := by decide +kernel
theorem dX2_countFault_47 : decode cX2_countFault 47 = .ok (.aload_n 0, 1) := by decide +kernel
theorem dX2_countFault_48 : decode cX2_countFault 48 = .ok (.getfield 47, 3) := by decide +kernel
theorem dX2_countFault_51 : decode cX2_countFault 51 = .ok (.sipush 255, 3) := by decide +kernel
theorem dX2_countFault_54 : decode cX2_countFault 54 = .ok (.if_icmp .le 8, 3) := by decide +kernel
theorem dX2_countFault_57 : decode cX2_countFault 57 = .ok (.aload_n 0, 1) := by decide +kernel
theorem dX2_countFault_58 : decode cX2_countFault 58 = .ok (.iconst 0, 1) := by decide +kernel
theorem dX2_countFault_59 : decode cX2_countFault 59 = .ok (.putfield 36, 3) := by decide +kernel
theorem dX2_countFault_62 : decode cX2_countFault 62 = .ok (.aload_n 0, 1) := by decide +kernel
theorem dX2_countFault_63 : decode cX2_countFault 63 = .ok (.iconst 1, 1) := by decide +kernel
theorem dX2_countFault_64 : decode cX2_countFault 64 = .ok (.putfield 40, 3) := by decide +kernel
theorem dX2_countFault_67 : decode cX2_countFault 67 = .ok (.return_, 1) := by decide +kernel
set_option maxRecDepth 20000 in
theorem ggX2_endFrame_X2_endSending : GoodIn wsX2_endFrame wsX2_endSending := goodIn_r _ [10, 1, 11, 12, 13, 14, 15, 16, 17, 18, 19, 20, 9, 21, 22, 23, 51, 52, 53, 54, 55, 56, 57, 58, 59, 60, 61, 62, 63, 64, 65] (by decide +kernel) (by decide +kernel)
set_option maxRecDepth 20000 in
theorem gX2_endFrame_X2_endSending : GoodIn wsX2_endFrame (wsV RX2 107 RX2 yX2_endSending wsX2_endSending) := goodIn_app (goodIn_of _ (by decide +kernel)) ggX2_endFrame_X2_endSending
set_option maxRecDepth 20000 in
theorem ggX2_endFrame_X3_isFinished : GoodIn wsX2_endFrame wsX3_isFinished := goodIn_r _ [28, 29, 74, 75, 76, 77, 78, 79, 80, 81, 82] (by decide +kernel) (by decide +kernel)
set_option maxRecDepth 20000 in
theorem gX2_endFrame_X3_isFinished : GoodIn wsX2_endFrame (wsV RX2 110 RX3 yX3_isFinished wsX3_isFinished) := goodIn_app (goodIn_of _ (by decide +kernel)) ggX2_endFrame_X3_isFinished
set_option maxRecDepth 20000 in
theorem ggX2_endFrame_X2_endReading : GoodIn wsX2_endFrame wsX2_endReading := goodIn_r _ [33, 1, 34, 35, 13, 14, 15, 16, 5, 36, 37, 38, 39, 40, 41, 42, 43, 44, 45, 46, 47, 48, 49, 50, 51, 52, 53, 54, 55, 56, 57, 58, 59, 60, 61, 62, 63, 64, 65, 74, 75, 76, 77, 78, 79, 80, 81, 82, 83, 84, 85, 86] (by decide +kernel) (by decide +kernel)
set_option maxRecDepth 20000 in
theorem gX2_endFrame_X2_endReading : GoodIn wsX2_endFrame (wsV RX2 113 RX2 yX2_endReading wsX2_endReading) := goodIn_app (goodIn_of _ (by decide +kernel)) ggX2_endFrame_X2_endReading
theorem dX2_endFrame_0 : decode cX2_endFrame 0 = .ok (.aload_n 0, 1) := by decide +kernel
theorem dX2_endFrame_1 : decode cX2_endFrame 1 = .ok (.getfield 40, 3) := by decide +kernel
theorem dX2_endFrame_4 : decode cX2_endFrame 4 = .ok (.iconst 3, 1) := by decide +kernel
theorem dX2_endFrame_5 : decode cX2_endFrame 5 = .ok (.if_icmp .ne 24, 3) := by decide +kernel
theorem dX2_endFrame_8 : decode cX2_endFrame 8 = .ok (.aload_n 0, 1) := by decide +kernel
theorem dX2_endFrame_9 : decode cX2_endFrame 9 = .ok (.getfield 68, 3) := by decide +kernel
theorem dX2_endFrame_12 : decode cX2_endFrame 12 = .ok (.aload_n 0, 1) := by decide +kernel
theorem dX2_endFrame_13 : decode cX2_endFrame 13 = .ok (.getfield 25, 3) := by decide +kernel
theorem dX2_endFrame_16 : decode cX2_endFrame 16 = .ok (.getfield 104, 3) := by decide +kernel
theorem dX2_endFrame_19 : decode cX2_endFrame 19 = .ok (.if_icmp .lt 10, 3) := by decide +kernel
theorem dX2_endFrame_22 : decode cX2_endFrame 22 = .ok (.aload_n 0, 1) := by decide +kernel
theorem dX2_endFrame_23 : decode cX2_endFrame 23 = .ok (.invokevirtual 107, 3) := by decide +kernel
theorem dX2_endFrame_26 : decode cX2_endFrame 26 = .ok (.goto 25, 3) := by decide +kernel
theorem dX2_endFrame_29 : decode cX2_endFrame 29 = .ok (.aload_n 0, 1) := by decide +kernel
theorem dX2_endFrame_30 : decode cX2_endFrame 30 = .ok (.getfield 40, 3) := by decide +kernel
theorem dX2_endFrame_33 : decode cX2_endFrame 33 = .ok (.iconst 2, 1) := by decide +kernel
theorem dX2_endFrame_34 : decode cX2_endFrame 34 = .ok (.if_icmp .ne 17, 3) := by decide +kernel
theorem dX2_endFrame_37 : decode cX2_endFrame 37 = .ok (.aload_n 0, 1) := by decide +kernel
theorem dX2_endFrame_38 : decode cX2_endFrame 38 = .ok (.getfield 32, 3) := by decide +kernel
theorem dX2_endFrame_41 : decode cX2_endFrame 41 = .ok (.invokevirtual 110, 3) := by decide +kernel
theorem dX2_endFrame_44 : decode cX2_endFrame 44 = .ok (.ifCond .eq 7, 3) := by decide +kernel
theorem dX2_endFrame_47 : decode cX2_endFrame 47 = .ok (.aload_n 0, 1) := by decide +kernel
theorem dX2_endFrame_48 : decode cX2_endFrame 48 = .ok (.invokevirtual 113, 3) := by decide +kernel
theorem dX2_endFrame_51 : decode cX2_endFrame 51 = .ok (.return_, 1) := by decide +kernel
set_option maxRecDepth 20000 in
theorem ggX2_lookAsSender_X1_isAnswer : GoodIn wsX2_lookAsSender wsX1_isAnswer := goodIn_r _ [9, 10, 37, 38, 39, 40, 41, 42, 43, 44] (by decide +kernel) (by decide +kernel)
set_option maxRecDepth 20000 in
theorem gX2_lookAsSender_X1_isAnswer : GoodIn wsX2_lookAsSender (wsV RX2 116 RX1 yX1_isAnswer wsX1_isAnswer) := goodIn_app (goodIn_of _ (by decide +kernel)) ggX2_lookAsSender_X1_isAnswer
set_option maxRecDepth 20000 in
theorem ggX2_lookAsSender_X1_bitAt : GoodIn wsX2_lookAsSender wsX1_bitAt := goodIn_r _ [14, 10, 15, 37, 38, 39, 40, 41, 42, 43, 44] (by decide +kernel) (by decide +kernel)
set_option maxRecDepth 20000 in
theorem gX2_lookAsSender_X1_bitAt : GoodIn wsX2_lookAsSender (wsV RX2 89 RX1 yX1_bitAt wsX1_bitAt) := goodIn_app (goodIn_of _ (by decide +kernel)) ggX2_lookAsSender_X1_bitAt
set_option maxRecDepth 20000 in
theorem ggX2_lookAsSender_X1_mayLose : GoodIn wsX2_lookAsSender wsX1_mayLose := goodIn_r _ [19, 10, 15, 20, 21, 37, 38, 39, 40, 41, 42, 43, 44] (by decide +kernel) (by decide +kernel)
set_option maxRecDepth 20000 in
theorem gX2_lookAsSender_X1_mayLose : GoodIn wsX2_lookAsSender (wsV RX2 120 RX1 yX1_mayLose wsX1_mayLose) := goodIn_app (goodIn_of _ (by decide +kernel)) ggX2_lookAsSender_X1_mayLose
theorem dX2_lookAsSender_0 : decode cX2_lookAsSender 0 = .ok (.aload_n 0, 1) := by decide +kernel
theorem dX2_lookAsSender_1 : decode cX2_lookAsSender 1 = .ok (.getfield 25, 3) := by decide +kernel
theorem dX2_lookAsSender_4 : decode cX2_lookAsSender 4 = .ok (.aload_n 0, 1) := by decide +kernel
theorem dX2_lookAsSender_5 : decode cX2_lookAsSender 5 = .ok (.getfield 68, 3) := by decide +kernel
theorem dX2_lookAsSender_8 : decode cX2_lookAsSender 8 = .ok (.invokevirtual 116, 3) := by decide +kernel
theorem dX2_lookAsSender_11 : decode cX2_lookAsSender 11 = .ok (.istore_n 2, 1) := by decide +kernel
theorem dX2_lookAsSender_12 : decode cX2_lookAsSender 12 = .ok (.iload_n 2, 1) := by decide +kernel
theorem dX2_lookAsSender_13 : decode cX2_lookAsSender 13 = .ok (.ifCond .eq 16, 3) := by decide +kernel
theorem dX2_lookAsSender_16 : decode cX2_lookAsSender 16 = .ok (.iload_n 1, 1) := by decide +kernel
theorem dX2_lookAsSender_17 : decode cX2_lookAsSender 17 = .ok (.iconst 1, 1) := by decide +kernel
theorem dX2_lookAsSender_18 : decode cX2_lookAsSender 18 = .ok (.if_icmp .ne 11, 3) := by decide +kernel
theorem dX2_lookAsSender_21 : decode cX2_lookAsSender 21 = .ok (.aload_n 0, 1) := by decide +kernel
theorem dX2_lookAsSender_22 : decode cX2_lookAsSender 22 = .ok (.iconst 5, 1) := by decide +kernel
theorem dX2_lookAsSender_23 : decode cX2_lookAsSender 23 = .ok (.putfield 62, 3) := by decide +kernel
theorem dX2_lookAsSender_26 : decode cX2_lookAsSender 26 = .ok (.goto 62, 3) := by decide +kernel
theorem dX2_lookAsSender_29 : decode cX2_lookAsSender 29 = .ok (.iload_n 2, 1) := by decide +kernel
theorem dX2_lookAsSender_30 : decode cX2_lookAsSender 30 = .ok (.ifCond .ne 18, 3) := by decide +kernel
theorem dX2_lookAsSender_33 : decode cX2_lookAsSender 33 = .ok (.iload_n 1, 1) := by decide +kernel
theorem dX2_lookAsSender_34 : decode cX2_lookAsSender 34 = .ok (.aload_n 0, 1) := by decide +kernel
theorem dX2_lookAsSender_35 : decode cX2_lookAsSender 35 = .ok (.getfield 25, 3) := by decide +kernel
theorem dX2_lookAsSender_38 : decode cX2_lookAsSender 38 = .ok (.aload_n 0, 1) := by decide +kernel
theorem dX2_lookAsSender_39 : decode cX2_lookAsSender 39 = .ok (.getfield 68, 3) := by decide +kernel
theorem dX2_lookAsSender_42 : decode cX2_lookAsSender 42 = .ok (.invokevirtual 89, 3) := by decide +kernel
theorem dX2_lookAsSender_45 : decode cX2_lookAsSender 45 = .ok (.if_icmp .ne 16, 3) := by decide +kernel
theorem dX2_lookAsSender_48 : decode cX2_lookAsSender 48 = .ok (.aload_n 0, 1) := by decide +kernel
theorem dX2_lookAsSender_49 : decode cX2_lookAsSender 49 = .ok (.dup, 1) := by decide +kernel
theorem dX2_lookAsSender_50 : decode cX2_lookAsSender 50 = .ok (.getfield 68, 3) := by decide +kernel
theorem dX2_lookAsSender_53 : decode cX2_lookAsSender 53 = .ok (.iconst 1, 1) := by decide +kernel
theorem dX2_lookAsSender_54 : decode cX2_lookAsSender 54 = .ok (.iadd, 1) := by decide +kernel
theorem dX2_lookAsSender_55 : decode cX2_lookAsSender 55 = .ok (.putfield 68, 3) := by decide +kernel
theorem dX2_lookAsSender_58 : decode cX2_lookAsSender 58 = .ok (.goto 30, 3) := by decide +kernel
theorem dX2_lookAsSender_61 : decode cX2_lookAsSender 61 = .ok (.aload_n 0, 1) := by decide +kernel
theorem dX2_lookAsSender_62 : decode cX2_lookAsSender 62 = .ok (.getfield 25, 3) := by decide +kernel
theorem dX2_lookAsSender_65 : decode cX2_lookAsSender 65 = .ok (.aload_n 0, 1) := by decide +kernel
theorem dX2_lookAsSender_66 : decode cX2_lookAsSender 66 = .ok (.getfield 68, 3) := by decide +kernel
theorem dX2_lookAsSender_69 : decode cX2_lookAsSender 69 = .ok (.invokevirtual 120, 3) := by decide +kernel
theorem dX2_lookAsSender_72 : decode cX2_lookAsSender 72 = .ok (.ifCond .eq 11, 3) := by decide +kernel
theorem dX2_lookAsSender_75 : decode cX2_lookAsSender 75 = .ok (.aload_n 0, 1) := by decide +kernel
theorem dX2_lookAsSender_76 : decode cX2_lookAsSender 76 = .ok (.iconst 2, 1) := by decide +kernel
theorem dX2_lookAsSender_77 : decode cX2_lookAsSender 77 = .ok (.putfield 40, 3) := by decide +kernel
theorem dX2_lookAsSender_80 : decode cX2_lookAsSender 80 = .ok (.goto 8, 3) := by decide +kernel
theorem dX2_lookAsSender_83 : decode cX2_lookAsSender 83 = .ok (.aload_n 0, 1) := by decide +kernel
theorem dX2_lookAsSender_84 : decode cX2_lookAsSender 84 = .ok (.iconst 4, 1) := by decide +kernel
theorem dX2_lookAsSender_85 : decode cX2_lookAsSender 85 = .ok (.putfield 62, 3) := by decide +kernel
theorem dX2_lookAsSender_88 : decode cX2_lookAsSender 88 = .ok (.return_, 1) := by decide +kernel
set_option maxRecDepth 20000 in
theorem ggX2_endSending_X2_removeWanted : GoodIn wsX2_endSending wsX2_removeWanted := goodIn_r _ [13, 14, 15, 16, 17, 18, 19, 20, 21, 22, 23, 24, 25, 26, 27, 28, 29, 30] (by decide +kernel) (by decide +kernel)
set_option maxRecDepth 20000 in
theorem gX2_endSending_X2_removeWanted : GoodIn wsX2_endSending (wsV RX2 129 RX2 yX2_removeWanted wsX2_removeWanted) := goodIn_app (goodIn_of _ (by decide +kernel)) ggX2_endSending_X2_removeWanted
theorem dX2_endSending_0 : decode cX2_endSending 0 = .ok (.aload_n 0, 1) := by decide +kernel
theorem dX2_endSending_1 : decode cX2_endSending 1 = .ok (.iconst 1, 1) := by decide +kernel
theorem dX2_endSending_2 : decode cX2_endSending 2 = .ok (.putfield 40, 3) := by decide +kernel
theorem dX2_endSending_5 : decode cX2_endSending 5 = .ok (.aload_n 0, 1) := by decide +kernel
theorem dX2_endSending_6 : decode cX2_endSending 6 = .ok (.dup, 1) := by decide +kernel
theorem dX2_endSending_7 : decode cX2_endSending 7 = .ok (.getfield 53, 3) := by decide +kernel
theorem dX2_endSending_10 : decode cX2_endSending 10 = .ok (.iconst 1, 1) := by decide +kernel
theorem dX2_endSending_11 : decode cX2_endSending 11 = .ok (.iadd, 1) := by decide +kernel
theorem dX2_endSending_12 : decode cX2_endSending 12 = .ok (.putfield 53, 3) := by decide +kernel
theorem dX2_endSending_15 : decode cX2_endSending 15 = .ok (.aload_n 0, 1) := by decide +kernel
theorem dX2_endSending_16 : decode cX2_endSending 16 = .ok (.aload_n 0, 1) := by decide +kernel
theorem dX2_endSending_17 : decode cX2_endSending 17 = .ok (.getfield 47, 3) := by decide +kernel
theorem dX2_endSending_20 : decode cX2_endSending 20 = .ok (.iconst 1, 1) := by decide +kernel
theorem dX2_endSending_21 : decode cX2_endSending 21 = .ok (.isub, 1) := by decide +kernel
theorem dX2_endSending_22 : decode cX2_endSending 22 = .ok (.iconst 0, 1) := by decide +kernel
theorem dX2_endSending_23 : decode cX2_endSending 23 = .ok (.invokestatic 123, 3) := by decide +kernel
theorem dX2_endSending_26 : decode cX2_endSending 26 = .ok (.putfield 47, 3) := by decide +kernel
theorem dX2_endSending_29 : decode cX2_endSending 29 = .ok (.aload_n 0, 1) := by decide +kernel
theorem dX2_endSending_30 : decode cX2_endSending 30 = .ok (.aload_n 0, 1) := by decide +kernel
theorem dX2_endSending_31 : decode cX2_endSending 31 = .ok (.getfield 65, 3) := by decide +kernel
theorem dX2_endSending_34 : decode cX2_endSending 34 = .ok (.invokevirtual 129, 3) := by decide +kernel
theorem dX2_endSending_37 : decode cX2_endSending 37 = .ok (.return_, 1) := by decide +kernel
set_option maxRecDepth 20000 in
theorem ggX2_endReading_X0_set : GoodIn wsX2_endReading wsX0_set := goodIn_r _ [19, 20, 21, 22, 23, 48, 49, 50, 51] (by decide +kernel) (by decide +kernel)
set_option maxRecDepth 20000 in
theorem gX2_endReading_X0_set : GoodIn wsX2_endReading (wsV RX2 71 RX0 yX0_set wsX0_set) := goodIn_app (goodIn_of _ (by decide +kernel)) ggX2_endReading_X0_set
theorem dX2_endReading_0 : decode cX2_endReading 0 = .ok (.aload_n 0, 1) := by decide +kernel
theorem dX2_endReading_1 : decode cX2_endReading 1 = .ok (.iconst 1, 1) := by decide +kernel
theorem dX2_endReading_2 : decode cX2_endReading 2 = .ok (.putfield 40, 3) := by decide +kernel
theorem dX2_endReading_5 : decode cX2_endReading 5 = .ok (.aload_n 0, 1) := by decide +kernel
theorem dX2_endReading_6 : decode cX2_endReading 6 = .ok (.dup, 1) := by decide +kernel
theorem dX2_endReading_7 : decode cX2_endReading 7 = .ok (.getfield 56, 3) := by decide +kernel
theorem dX2_endReading_10 : decode cX2_endReading 10 = .ok (.iconst 1, 1) := by decide +kernel
theorem dX2_endReading_11 : decode cX2_endReading 11 = .ok (.iadd, 1) := by decide +kernel
theorem dX2_endReading_12 : decode cX2_endReading 12 = .ok (.putfield 56, 3) := by decide +kernel
theorem dX2_endReading_15 : decode cX2_endReading 15 = .ok (.aload_n 0, 1) := by decide +kernel
theorem dX2_endReading_16 : decode cX2_endReading 16 = .ok (.aload_n 0, 1) := by decide +kernel
theorem dX2_endReading_17 : decode cX2_endReading 17 = .ok (.getfield 50, 3) := by decide +kernel
theorem dX2_endReading_20 : decode cX2_endReading 20 = .ok (.iconst 1, 1) := by decide +kernel
theorem dX2_endReading_21 : decode cX2_endReading 21 = .ok (.isub, 1) := by decide +kernel
theorem dX2_endReading_22 : decode cX2_endReading 22 = .ok (.iconst 0, 1) := by decide +kernel
theorem dX2_endReading_23 : decode cX2_endReading 23 = .ok (.invokestatic 123, 3) := by decide +kernel
theorem dX2_endReading_26 : decode cX2_endReading 26 = .ok (.putfield 50, 3) := by decide +kernel
theorem dX2_endReading_29 : decode cX2_endReading 29 = .ok (.aload_n 0, 1) := by decide +kernel
theorem dX2_endReading_30 : decode cX2_endReading 30 = .ok (.getfield 32, 3) := by decide +kernel
theorem dX2_endReading_33 : decode cX2_endReading 33 = .ok (.getfield 132, 3) := by decide +kernel
theorem dX2_endReading_36 : decode cX2_endReading 36 = .ok (.astore_n 1, 1) := by decide +kernel
theorem dX2_endReading_37 : decode cX2_endReading 37 = .ok (.aload_n 0, 1) := by decide +kernel
theorem dX2_endReading_38 : decode cX2_endReading 38 = .ok (.getfield 18, 3) := by decide +kernel
theorem dX2_endReading_41 : decode cX2_endReading 41 = .ok (.aload_n 1, 1) := by decide +kernel
theorem dX2_endReading_42 : decode cX2_endReading 42 = .ok (.getfield 135, 3) := by decide +kernel
theorem dX2_endReading_45 : decode cX2_endReading 45 = .ok (.aload_n 1, 1) := by decide +kernel
theorem dX2_endReading_46 : decode cX2_endReading 46 = .ok (.getfield 138, 3) := by decide +kernel
theorem dX2_endReading_49 : decode cX2_endReading 49 = .ok (.aload_n 1, 1) := by decide +kernel
theorem dX2_endReading_50 : decode cX2_endReading 50 = .ok (.getfield 141, 3) := by decide +kernel
theorem dX2_endReading_53 : decode cX2_endReading 53 = .ok (.aload_n 1, 1) := by decide +kernel
theorem dX2_endReading_54 : decode cX2_endReading 54 = .ok (.getfield 145, 3) := by decide +kernel
theorem dX2_endReading_57 : decode cX2_endReading 57 = .ok (.invokevirtual 71, 3) := by decide +kernel
theorem dX2_endReading_60 : decode cX2_endReading 60 = .ok (.return_, 1) := by decide +kernel
theorem dX2_removeWanted_0 : decode cX2_removeWanted 0 = .ok (.iload_n 1, 1) := by decide +kernel
theorem dX2_removeWanted_1 : decode cX2_removeWanted 1 = .ok (.ifCond .lt 11, 3) := by decide +kernel
theorem dX2_removeWanted_4 : decode cX2_removeWanted 4 = .ok (.iload_n 1, 1) := by decide +kernel
theorem dX2_removeWanted_5 : decode cX2_removeWanted 5 = .ok (.aload_n 0, 1) := by decide +kernel
theorem dX2_removeWanted_6 : decode cX2_removeWanted 6 = .ok (.getfield 44, 3) := by decide +kernel
theorem dX2_removeWanted_9 : decode cX2_removeWanted 9 = .ok (.if_icmp .lt 4, 3) := by decide +kernel
theorem dX2_removeWanted_12 : decode cX2_removeWanted 12 = .ok (.return_, 1) := by decide +kernel
theorem dX2_removeWanted_13 : decode cX2_removeWanted 13 = .ok (.aload_n 0, 1) := by decide +kernel
theorem dX2_removeWanted_14 : decode cX2_removeWanted 14 = .ok (.getfield 11, 3) := by decide +kernel
theorem dX2_removeWanted_17 : decode cX2_removeWanted 17 = .ok (.iload_n 1, 1) := by decide +kernel
theorem dX2_removeWanted_18 : decode cX2_removeWanted 18 = .ok (.aaload, 1) := by decide +kernel
theorem dX2_removeWanted_19 : decode cX2_removeWanted 19 = .ok (.astore_n 2, 1) := by decide +kernel
theorem dX2_removeWanted_20 : decode cX2_removeWanted 20 = .ok (.iload_n 1, 1) := by decide +kernel
theorem dX2_removeWanted_21 : decode cX2_removeWanted 21 = .ok (.iconst 1, 1) := by decide +kernel
theorem dX2_removeWanted_22 : decode cX2_removeWanted 22 = .ok (.iadd, 1) := by decide +kernel
theorem dX2_removeWanted_23 : decode cX2_removeWanted 23 = .ok (.istore_n 3, 1) := by decide +kernel
theorem dX2_removeWanted_24 : decode cX2_removeWanted 24 = .ok (.iload_n 3, 1) := by decide +kernel
theorem dX2_removeWanted_25 : decode cX2_removeWanted 25 = .ok (.aload_n 0, 1) := by decide +kernel
theorem dX2_removeWanted_26 : decode cX2_removeWanted 26 = .ok (.getfield 44, 3) := by decide +kernel
theorem dX2_removeWanted_29 : decode cX2_removeWanted 29 = .ok (.if_icmp .ge 23, 3) := by decide +kernel
theorem dX2_removeWanted_32 : decode cX2_removeWanted 32 = .ok (.aload_n 0, 1) := by decide +kernel
theorem dX2_removeWanted_33 : decode cX2_removeWanted 33 = .ok (.getfield 11, 3) := by decide +kernel
theorem dX2_removeWanted_36 : decode cX2_removeWanted 36 = .ok (.iload_n 3, 1) := by decide +kernel
theorem dX2_removeWanted_37 : decode cX2_removeWanted 37 = .ok (.iconst 1, 1) := by decide +kernel
theorem dX2_removeWanted_38 : decode cX2_removeWanted 38 = .ok (.isub, 1) := by decide +kernel
theorem dX2_removeWanted_39 : decode cX2_removeWanted 39 = .ok (.aload_n 0, 1) := by decide +kernel
theorem dX2_removeWanted_40 : decode cX2_removeWanted 40 = .ok (.getfield 11, 3) := by decide +kernel
theorem dX2_removeWanted_43 : decode cX2_removeWanted 43 = .ok (.iload_n 3, 1) := by decide +kernel
theorem dX2_removeWanted_44 : decode cX2_removeWanted 44 = .ok (.aaload, 1) := by decide +kernel
theorem dX2_removeWanted_45 : decode cX2_removeWanted 45 = .ok (.aastore, 1) := by decide +kernel
theorem dX2_removeWanted_46 : decode cX2_removeWanted 46 = .ok (.iinc 3 1, 3) := by decide +kernel
theorem dX2_removeWanted_49 : decode cX2_removeWanted 49 = .ok (.goto (-25), 3) := by decide +kernel
theorem dX2_removeWanted_52 : decode cX2_removeWanted 52 = .ok (.aload_n 0, 1) := by decide +kernel
theorem dX2_removeWanted_53 : decode cX2_removeWanted 53 = .ok (.dup, 1) := by decide +kernel
theorem dX2_removeWanted_54 : decode cX2_removeWanted 54 = .ok (.getfield 44, 3) := by decide +kernel
theorem dX2_removeWanted_57 : decode cX2_removeWanted 57 = .ok (.iconst 1, 1) := by decide +kernel
theorem dX2_removeWanted_58 : decode cX2_removeWanted 58 = .ok (.isub, 1) := by decide +kernel
theorem dX2_removeWanted_59 : decode cX2_removeWanted 59 = .ok (.putfield 44, 3) := by decide +kernel
theorem dX2_removeWanted_62 : decode cX2_removeWanted 62 = .ok (.aload_n 0, 1) := by decide +kernel
theorem dX2_removeWanted_63 : decode cX2_removeWanted 63 = .ok (.getfield 11, 3) := by decide +kernel
theorem dX2_removeWanted_66 : decode cX2_removeWanted 66 = .ok (.aload_n 0, 1) := by decide +kernel
theorem dX2_removeWanted_67 : decode cX2_removeWanted 67 = .ok (.getfield 44, 3) := by decide +kernel
theorem dX2_removeWanted_70 : decode cX2_removeWanted 70 = .ok (.aload_n 2, 1) := by decide +kernel
theorem dX2_removeWanted_71 : decode cX2_removeWanted 71 = .ok (.aastore, 1) := by decide +kernel
theorem dX2_removeWanted_72 : decode cX2_removeWanted 72 = .ok (.return_, 1) := by decide +kernel
set_option maxRecDepth 20000 in
theorem ggX3_init_X0_init : GoodIn wsX3_init wsX0_init := goodIn_r _ [17, 18, 2, 3, 19, 20, 21, 22, 23, 24, 25, 26] (by decide +kernel) (by decide +kernel)
set_option maxRecDepth 20000 in
theorem gX3_init_X0_init_n11 : GoodIn wsX3_init (wsX0_init) := ggX3_init_X0_init
theorem dX3_init_0 : decode cX3_init 0 = .ok (.aload_n 0, 1) := by decide +kernel
theorem dX3_init_1 : decode cX3_init 1 = .ok (.invokespecial 3, 3) := by decide +kernel
theorem dX3_init_4 : decode cX3_init 4 = .ok (.aload_n 0, 1) := by decide +kernel
theorem dX3_init_5 : decode cX3_init 5 = .ok (.new 9, 3) := by decide +kernel
theorem dX3_init_8 : decode cX3_init 8 = .ok (.dup, 1) := by decide +kernel
theorem dX3_init_9 : decode cX3_init 9 = .ok (.invokespecial 11, 3) := by decide +kernel
theorem dX3_init_12 : decode cX3_init 12 = .ok (.putfield 12, 3) := by decide +kernel
theorem dX3_init_15 : decode cX3_init 15 = .ok (.aload_n 0, 1) := by decide +kernel
theorem dX3_init_16 : decode cX3_init 16 = .ok (.iconst 0, 1) := by decide +kernel
theorem dX3_init_17 : decode cX3_init 17 = .ok (.putfield 18, 3) := by decide +kernel
theorem dX3_init_20 : decode cX3_init 20 = .ok (.aload_n 0, 1) := by decide +kernel
theorem dX3_init_21 : decode cX3_init 21 = .ok (.iconst 0, 1) := by decide +kernel
theorem dX3_init_22 : decode cX3_init 22 = .ok (.putfield 22, 3) := by decide +kernel
theorem dX3_init_25 : decode cX3_init 25 = .ok (.aload_n 0, 1) := by decide +kernel
theorem dX3_init_26 : decode cX3_init 26 = .ok (.iconst 0, 1) := by decide +kernel
theorem dX3_init_27 : decode cX3_init 27 = .ok (.putfield 25, 3) := by decide +kernel
theorem dX3_init_30 : decode cX3_init 30 = .ok (.aload_n 0, 1) := by decide +kernel
theorem dX3_init_31 : decode cX3_init 31 = .ok (.iconst (-1), 1) := by decide +kernel
theorem dX3_init_32 : decode cX3_init 32 = .ok (.putfield 28, 3) := by decide +kernel
theorem dX3_init_35 : decode cX3_init 35 = .ok (.aload_n 0, 1) := by decide +kernel
theorem dX3_init_36 : decode cX3_init 36 = .ok (.iconst 0, 1) := by decide +kernel
theorem dX3_init_37 : decode cX3_init 37 = .ok (.putfield 31, 3) := by decide +kernel
theorem dX3_init_40 : decode cX3_init 40 = .ok (.aload_n 0, 1) := by decide +kernel
theorem dX3_init_41 : decode cX3_init 41 = .ok (.iconst 0, 1) := by decide +kernel
theorem dX3_init_42 : decode cX3_init 42 = .ok (.putfield 34, 3) := by decide +kernel
theorem dX3_init_45 : decode cX3_init 45 = .ok (.aload_n 0, 1) := by decide +kernel
theorem dX3_init_46 : decode cX3_init 46 = .ok (.bipush 15, 2) := by decide +kernel
theorem dX3_init_48 : decode cX3_init 48 = .ok (.putfield 37, 3) := by decide +kernel
theorem dX3_init_51 : decode cX3_init 51 = .ok (.aload_n 0, 1) := by decide +kernel
theorem dX3_init_52 : decode cX3_init 52 = .ok (.bipush 19, 2) := by decide +kernel
theorem dX3_init_54 : decode cX3_init 54 = .ok (.putfield 40, 3) := by decide +kernel
theorem dX3_init_57 : decode cX3_init 57 = .ok (.return_, 1) := by decide +kernel
set_option maxRecDepth 20000 in
theorem ggX3_begin_X0_set : GoodIn wsX3_begin wsX0_set := goodIn_r _ [14, 15, 16, 17, 18, 28, 29, 30, 31] (by decide +kernel) (by decide +kernel)
set_option maxRecDepth 20000 in
theorem gX3_begin_X0_set : GoodIn wsX3_begin (wsV RX3 43 RX0 yX0_set wsX0_set) := goodIn_app (goodIn_of _ (by decide +kernel)) ggX3_begin_X0_set
theorem dX3_begin_0 : decode cX3_begin 0 = .ok (.aload_n 0, 1) := by decide +kernel
theorem dX3_begin_1 : decode cX3_begin 1 = .ok (.getfield 12, 3) := by decide +kernel
theorem dX3_begin_4 : decode cX3_begin 4 = .ok (.iconst 0, 1) := by decide +kernel
theorem dX3_begin_5 : decode cX3_begin 5 = .ok (.iconst 0, 1) := by decide +kernel
theorem dX3_begin_6 : decode cX3_begin 6 = .ok (.lconst 0, 1) := by decide +kernel
theorem dX3_begin_7 : decode cX3_begin 7 = .ok (.iconst 0, 1) := by decide +kernel
theorem dX3_begin_8 : decode cX3_begin 8 = .ok (.invokevirtual 43, 3) := by decide +kernel
theorem dX3_begin_11 : decode cX3_begin 11 = .ok (.aload_n 0, 1) := by decide +kernel
theorem dX3_begin_12 : decode cX3_begin 12 = .ok (.iconst 0, 1) := by decide +kernel
theorem dX3_begin_13 : decode cX3_begin 13 = .ok (.putfield 18, 3) := by decide +kernel
theorem dX3_begin_16 : decode cX3_begin 16 = .ok (.aload_n 0, 1) := by decide +kernel
theorem dX3_begin_17 : decode cX3_begin 17 = .ok (.iconst 0, 1) := by decide +kernel
theorem dX3_begin_18 : decode cX3_begin 18 = .ok (.putfield 22, 3) := by decide +kernel
theorem dX3_begin_21 : decode cX3_begin 21 = .ok (.aload_n 0, 1) := by decide +kernel
theorem dX3_begin_22 : decode cX3_begin 22 = .ok (.iconst 0, 1) := by decide +kernel
theorem dX3_begin_23 : decode cX3_begin 23 = .ok (.putfield 25, 3) := by decide +kernel
theorem dX3_begin_26 : decode cX3_begin 26 = .ok (.aload_n 0, 1) := by decide +kernel
theorem dX3_begin_27 : decode cX3_begin 27 = .ok (.iconst (-1), 1) := by decide +kernel
theorem dX3_begin_28 : decode cX3_begin 28 = .ok (.putfield 28, 3) := by decide +kernel
theorem dX3_begin_31 : decode cX3_begin 31 = .ok (.aload_n 0, 1) := by decide +kernel
theorem dX3_begin_32 : decode cX3_begin 32 = .ok (.iconst 0, 1) := by decide +kernel
theorem dX3_begin_33 : decode cX3_begin 33 = .ok (.putfield 31, 3) := by decide +kernel
theorem dX3_begin_36 : decode cX3_begin 36 = .ok (.aload_n 0, 1) := by decide +kernel
theorem dX3_begin_37 : decode cX3_begin 37 = .ok (.iconst 0, 1) := by decide +kernel
theorem dX3_begin_38 : decode cX3_begin 38 = .ok (.putfield 34, 3) := by decide +kernel
theorem dX3_begin_41 : decode cX3_begin 41 = .ok (.aload_n 0, 1) := by decide +kernel
theorem dX3_begin_42 : decode cX3_begin 42 = .ok (.bipush 15, 2) := by decide +kernel
theorem dX3_begin_44 : decode cX3_begin 44 = .ok (.putfield 37, 3) := by decide +kernel
theorem dX3_begin_47 : decode cX3_begin 47 = .ok (.aload_n 0, 1) := by decide +kernel
theorem dX3_begin_48 : decode cX3_begin 48 = .ok (.bipush 19, 2) := by decide +kernel
theorem dX3_begin_50 : decode cX3_begin 50 = .ok (.putfield 40, 3) := by decide +kernel
theorem dX3_begin_53 : decode cX3_begin 53 = .ok (.return_, 1) := by decide +kernel
set_option maxRecDepth 20000 in
theorem ggX3_take_X3_hasWholeFrame : GoodIn wsX3_take wsX3_hasWholeFrame := goodIn_r _ [8, 1, 9, 46, 47, 48, 49, 50, 51, 52, 53, 54] (by decide +kernel) (by decide +kernel)
set_option maxRecDepth 20000 in
theorem gX3_take_X3_hasWholeFrame : GoodIn wsX3_take (wsV RX3 47 RX3 yX3_hasWholeFrame wsX3_hasWholeFrame) := goodIn_app (goodIn_of _ (by decide +kernel)) ggX3_take_X3_hasWholeFrame
set_option maxRecDepth 20000 in
theorem ggX3_take_X3_takeTail : GoodIn wsX3_take wsX3_takeTail := goodIn_r _ [13, 14, 15, 16, 46, 47, 48, 49, 50, 51, 52, 53, 54] (by decide +kernel) (by decide +kernel)
set_option maxRecDepth 20000 in
theorem gX3_take_X3_takeTail : GoodIn wsX3_take (wsV RX3 51 RX3 yX3_takeTail wsX3_takeTail) := goodIn_app (goodIn_of _ (by decide +kernel)) ggX3_take_X3_takeTail
set_option maxRecDepth 20000 in
theorem ggX3_take_X3_takeFramed : GoodIn wsX3_take wsX3_takeFramed := goodIn_r _ [20, 1, 9, 16, 15, 21, 22, 23, 24, 25, 26, 27, 7, 28, 29, 30, 31, 32, 33, 34, 35, 36, 37, 38, 39, 40, 41, 42, 43, 44, 45, 46, 47, 48, 49, 50, 51, 52, 53, 54, 55, 56, 57, 58] (by decide +kernel) (by decide +kernel)
set_option maxRecDepth 20000 in
theorem gX3_take_X3_takeFramed : GoodIn wsX3_take (wsV RX3 55 RX3 yX3_takeFramed wsX3_takeFramed) := goodIn_app (goodIn_of _ (by decide +kernel)) ggX3_take_X3_takeFramed
theorem dX3_take_0 : decode cX3_take 0 = .ok (.aload_n 0, 1) := by decide +kernel
theorem dX3_take_1 : decode cX3_take 1 = .ok (.getfield 18, 3) := by decide +kernel
theorem dX3_take_4 : decode cX3_take 4 = .ok (.ifCond .ne 9, 3) := by decide +kernel
theorem dX3_take_7 : decode cX3_take 7 = .ok (.iload_n 1, 1) := by decide +kernel
theorem dX3_take_8 : decode cX3_take 8 = .ok (.ifCond .eq 5, 3) := by decide +kernel
theorem dX3_take_11 : decode cX3_take 11 = .ok (.iconst 3, 1) := by decide +kernel
theorem dX3_take_12 : decode cX3_take 12 = .ok (.ireturn, 1) := by decide +kernel
theorem dX3_take_13 : decode cX3_take 13 = .ok (.aload_n 0, 1) := by decide +kernel
theorem dX3_take_14 : decode cX3_take 14 = .ok (.invokevirtual 47, 3) := by decide +kernel
theorem dX3_take_17 : decode cX3_take 17 = .ok (.ifCond .eq 9, 3) := by decide +kernel
theorem dX3_take_20 : decode cX3_take 20 = .ok (.aload_n 0, 1) := by decide +kernel
theorem dX3_take_21 : decode cX3_take 21 = .ok (.iload_n 1, 1) := by decide +kernel
theorem dX3_take_22 : decode cX3_take 22 = .ok (.invokevirtual 51, 3) := by decide +kernel
theorem dX3_take_25 : decode cX3_take 25 = .ok (.ireturn, 1) := by decide +kernel
theorem dX3_take_26 : decode cX3_take 26 = .ok (.aload_n 0, 1) := by decide +kernel
theorem dX3_take_27 : decode cX3_take 27 = .ok (.getfield 25, 3) := by decide +kernel
theorem dX3_take_30 : decode cX3_take 30 = .ok (.iconst 5, 1) := by decide +kernel
theorem dX3_take_31 : decode cX3_take 31 = .ok (.if_icmp .ne 7, 3) := by decide +kernel
theorem dX3_take_34 : decode cX3_take 34 = .ok (.iconst 1, 1) := by decide +kernel
theorem dX3_take_35 : decode cX3_take 35 = .ok (.goto 4, 3) := by decide +kernel
theorem dX3_take_38 : decode cX3_take 38 = .ok (.iconst 0, 1) := by decide +kernel
theorem dX3_take_39 : decode cX3_take 39 = .ok (.istore_n 2, 1) := by decide +kernel
theorem dX3_take_40 : decode cX3_take 40 = .ok (.iload_n 2, 1) := by decide +kernel
theorem dX3_take_41 : decode cX3_take 41 = .ok (.ifCond .eq 13, 3) := by decide +kernel
theorem dX3_take_44 : decode cX3_take 44 = .ok (.iload_n 1, 1) := by decide +kernel
theorem dX3_take_45 : decode cX3_take 45 = .ok (.aload_n 0, 1) := by decide +kernel
theorem dX3_take_46 : decode cX3_take 46 = .ok (.getfield 28, 3) := by decide +kernel
theorem dX3_take_49 : decode cX3_take 49 = .ok (.if_icmp .ne 5, 3) := by decide +kernel
theorem dX3_take_52 : decode cX3_take 52 = .ok (.iconst 1, 1) := by decide +kernel
theorem dX3_take_53 : decode cX3_take 53 = .ok (.ireturn, 1) := by decide +kernel
theorem dX3_take_54 : decode cX3_take 54 = .ok (.aload_n 0, 1) := by decide +kernel
theorem dX3_take_55 : decode cX3_take 55 = .ok (.iload_n 1, 1) := by decide +kernel
theorem dX3_take_56 : decode cX3_take 56 = .ok (.aload_n 0, 1) := by decide +kernel
theorem dX3_take_57 : decode cX3_take 57 = .ok (.getfield 28, 3) := by decide +kernel
theorem dX3_take_60 : decode cX3_take 60 = .ok (.if_icmp .ne 12, 3) := by decide +kernel
theorem dX3_take_63 : decode cX3_take 63 = .ok (.aload_n 0, 1) := by decide +kernel
theorem dX3_take_64 : decode cX3_take 64 = .ok (.getfield 25, 3) := by decide +kernel
theorem dX3_take_67 : decode cX3_take 67 = .ok (.iconst 1, 1) := by decide +kernel
theorem dX3_take_68 : decode cX3_take 68 = .ok (.iadd, 1) := by decide +kernel
theorem dX3_take_69 : decode cX3_take 69 = .ok (.goto 4, 3) := by decide +kernel
theorem dX3_take_72 : decode cX3_take 72 = .ok (.iconst 1, 1) := by decide +kernel
theorem dX3_take_73 : decode cX3_take 73 = .ok (.putfield 25, 3) := by decide +kernel
theorem dX3_take_76 : decode cX3_take 76 = .ok (.aload_n 0, 1) := by decide +kernel
theorem dX3_take_77 : decode cX3_take 77 = .ok (.iload_n 1, 1) := by decide +kernel
theorem dX3_take_78 : decode cX3_take 78 = .ok (.putfield 28, 3) := by decide +kernel
theorem dX3_take_81 : decode cX3_take 81 = .ok (.iload_n 2, 1) := by decide +kernel
theorem dX3_take_82 : decode cX3_take 82 = .ok (.ifCond .ne 8, 3) := by decide +kernel
theorem dX3_take_85 : decode cX3_take 85 = .ok (.aload_n 0, 1) := by decide +kernel
theorem dX3_take_86 : decode cX3_take 86 = .ok (.iload_n 1, 1) := by decide +kernel
theorem dX3_take_87 : decode cX3_take 87 = .ok (.invokevirtual 55, 3) := by decide +kernel
theorem dX3_take_90 : decode cX3_take 90 = .ok (.iconst 0, 1) := by decide +kernel
theorem dX3_take_91 : decode cX3_take 91 = .ok (.ireturn, 1) := by decide +kernel
theorem dX3_isFinished_0 : decode cX3_isFinished 0 = .ok (.aload_n 0, 1) := by decide +kernel
theorem dX3_isFinished_1 : decode cX3_isFinished 1 = .ok (.getfield 22, 3) := by decide +kernel
theorem dX3_isFinished_4 : decode cX3_isFinished 4 = .ok (.bipush 10, 2) := by decide +kernel
theorem dX3_isFinished_6 : decode cX3_isFinished 6 = .ok (.if_icmp .ne 7, 3) := by decide +kernel
theorem dX3_isFinished_9 : decode cX3_isFinished 9 = .ok (.iconst 1, 1) := by decide +kernel
theorem dX3_isFinished_10 : decode cX3_isFinished 10 = .ok (.goto 4, 3) := by decide +kernel
theorem dX3_isFinished_13 : decode cX3_isFinished 13 = .ok (.iconst 0, 1) := by decide +kernel
theorem dX3_isFinished_14 : decode cX3_isFinished 14 = .ok (.ireturn, 1) := by decide +kernel
set_option maxRecDepth 20000 in
theorem ggX3_givesAnswer_X3_hasWholeFrame : GoodIn wsX3_givesAnswer wsX3_hasWholeFrame := goodIn_r _ [8, 9, 10, 11, 12, 13, 14, 15, 16, 17, 18, 19] (by decide +kernel) (by decide +kernel)
set_option maxRecDepth 20000 in
theorem gX3_givesAnswer_X3_hasWholeFrame : GoodIn wsX3_givesAnswer (wsV RX3 47 RX3 yX3_hasWholeFrame wsX3_hasWholeFrame) := goodIn_app (goodIn_of _ (by decide +kernel)) ggX3_givesAnswer_X3_hasWholeFrame
theorem dX3_givesAnswer_0 : decode cX3_givesAnswer 0 = .ok (.aload_n 0, 1) := by decide +kernel
theorem dX3_givesAnswer_1 : decode cX3_givesAnswer 1 = .ok (.invokevirtual 47, 3) := by decide +kernel
theorem dX3_givesAnswer_4 : decode cX3_givesAnswer 4 = .ok (.ifCond .eq 26, 3) := by decide +kernel
theorem dX3_givesAnswer_7 : decode cX3_givesAnswer 7 = .ok (.aload_n 0, 1) := by decide +kernel
theorem dX3_givesAnswer_8 : decode cX3_givesAnswer 8 = .ok (.getfield 22, 3) := by decide +kernel
theorem dX3_givesAnswer_11 : decode cX3_givesAnswer 11 = .ok (.iconst 1, 1) := by decide +kernel
theorem dX3_givesAnswer_12 : decode cX3_givesAnswer 12 = .ok (.if_icmp .ne 18, 3) := by decide +kernel
theorem dX3_givesAnswer_15 : decode cX3_givesAnswer 15 = .ok (.aload_n 0, 1) := by decide +kernel
theorem dX3_givesAnswer_16 : decode cX3_givesAnswer 16 = .ok (.getfield 31, 3) := by decide +kernel
theorem dX3_givesAnswer_19 : decode cX3_givesAnswer 19 = .ok (.aload_n 0, 1) := by decide +kernel
theorem dX3_givesAnswer_20 : decode cX3_givesAnswer 20 = .ok (.getfield 34, 3) := by decide +kernel
theorem dX3_givesAnswer_23 : decode cX3_givesAnswer 23 = .ok (.if_icmp .ne 7, 3) := by decide +kernel
theorem dX3_givesAnswer_26 : decode cX3_givesAnswer 26 = .ok (.iconst 1, 1) := by decide +kernel
theorem dX3_givesAnswer_27 : decode cX3_givesAnswer 27 = .ok (.goto 4, 3) := by decide +kernel
theorem dX3_givesAnswer_30 : decode cX3_givesAnswer 30 = .ok (.iconst 0, 1) := by decide +kernel
theorem dX3_givesAnswer_31 : decode cX3_givesAnswer 31 = .ok (.ireturn, 1) := by decide +kernel
theorem dX3_hasWholeFrame_0 : decode cX3_hasWholeFrame 0 = .ok (.aload_n 0, 1) := by decide +kernel
theorem dX3_hasWholeFrame_1 : decode cX3_hasWholeFrame 1 = .ok (.getfield 18, 3) := by decide +kernel
theorem dX3_hasWholeFrame_4 : decode cX3_hasWholeFrame 4 = .ok (.aload_n 0, 1) := by decide +kernel
theorem dX3_hasWholeFrame_5 : decode cX3_hasWholeFrame 5 = .ok (.getfield 40, 3) := by decide +kernel
theorem dX3_hasWholeFrame_8 : decode cX3_hasWholeFrame 8 = .ok (.bipush 15, 2) := by decide +kernel
theorem dX3_hasWholeFrame_10 : decode cX3_hasWholeFrame 10 = .ok (.iadd, 1) := by decide +kernel
theorem dX3_hasWholeFrame_11 : decode cX3_hasWholeFrame 11 = .ok (.if_icmp .ne 7, 3) := by decide +kernel
theorem dX3_hasWholeFrame_14 : decode cX3_hasWholeFrame 14 = .ok (.iconst 1, 1) := by decide +kernel
theorem dX3_hasWholeFrame_15 : decode cX3_hasWholeFrame 15 = .ok (.goto 4, 3) := by decide +kernel
theorem dX3_hasWholeFrame_18 : decode cX3_hasWholeFrame 18 = .ok (.iconst 0, 1) := by decide +kernel
theorem dX3_hasWholeFrame_19 : decode cX3_hasWholeFrame 19 = .ok (.ireturn, 1) := by decide +kernel
theorem dX3_takeTail_0 : decode cX3_takeTail 0 = .ok (.aload_n 0, 1) := by decide +kernel
theorem dX3_takeTail_1 : decode cX3_takeTail 1 = .ok (.getfield 22, 3) := by decide +kernel
theorem dX3_takeTail_4 : decode cX3_takeTail 4 = .ok (.iconst 2, 1) := by decide +kernel
theorem dX3_takeTail_5 : decode cX3_takeTail 5 = .ok (.if_icmp .ne 16, 3) := by decide +kernel
theorem dX3_takeTail_8 : decode cX3_takeTail 8 = .ok (.aload_n 0, 1) := by decide +kernel
theorem dX3_takeTail_9 : decode cX3_takeTail 9 = .ok (.getfield 31, 3) := by decide +kernel
theorem dX3_takeTail_12 : decode cX3_takeTail 12 = .ok (.aload_n 0, 1) := by decide +kernel
theorem dX3_takeTail_13 : decode cX3_takeTail 13 = .ok (.getfield 34, 3) := by decide +kernel
theorem dX3_takeTail_16 : decode cX3_takeTail 16 = .ok (.if_icmp .eq 5, 3) := by decide +kernel
theorem dX3_takeTail_19 : decode cX3_takeTail 19 = .ok (.iconst 2, 1) := by decide +kernel
theorem dX3_takeTail_20 : decode cX3_takeTail 20 = .ok (.ireturn, 1) := by decide +kernel
theorem dX3_takeTail_21 : decode cX3_takeTail 21 = .ok (.aload_n 0, 1) := by decide +kernel
theorem dX3_takeTail_22 : decode cX3_takeTail 22 = .ok (.getfield 22, 3) := by decide +kernel
theorem dX3_takeTail_25 : decode cX3_takeTail 25 = .ok (.iconst 1, 1) := by decide +kernel
theorem dX3_takeTail_26 : decode cX3_takeTail 26 = .ok (.if_icmp .eq 10, 3) := by decide +kernel
theorem dX3_takeTail_29 : decode cX3_takeTail 29 = .ok (.iload_n 1, 1) := by decide +kernel
theorem dX3_takeTail_30 : decode cX3_takeTail 30 = .ok (.iconst 1, 1) := by decide +kernel
theorem dX3_takeTail_31 : decode cX3_takeTail 31 = .ok (.if_icmp .eq 5, 3) := by decide +kernel
theorem dX3_takeTail_34 : decode cX3_takeTail 34 = .ok (.iconst 3, 1) := by decide +kernel
theorem dX3_takeTail_35 : decode cX3_takeTail 35 = .ok (.ireturn, 1) := by decide +kernel
theorem dX3_takeTail_36 : decode cX3_takeTail 36 = .ok (.aload_n 0, 1) := by decide +kernel
theorem dX3_takeTail_37 : decode cX3_takeTail 37 = .ok (.dup, 1) := by decide +kernel
theorem dX3_takeTail_38 : decode cX3_takeTail 38 = .ok (.getfield 22, 3) := by decide +kernel
theorem dX3_takeTail_41 : decode cX3_takeTail 41 = .ok (.iconst 1, 1) := by decide +kernel
theorem dX3_takeTail_42 : decode cX3_takeTail 42 = .ok (.iadd, 1) := by decide +kernel
theorem dX3_takeTail_43 : decode cX3_takeTail 43 = .ok (.putfield 22, 3) := by decide +kernel
theorem dX3_takeTail_46 : decode cX3_takeTail 46 = .ok (.iconst 0, 1) := by decide +kernel
theorem dX3_takeTail_47 : decode cX3_takeTail 47 = .ok (.ireturn, 1) := by decide +kernel
set_option maxRecDepth 20000 in
theorem ggX3_takeFramed_X4_nextCheck : GoodIn wsX3_takeFramed wsX4_nextCheck := goodIn_r _ [8] (by decide +kernel) (by decide +kernel)
set_option maxRecDepth 20000 in
theorem gX3_takeFramed_X4_nextCheck_n59 : GoodIn wsX3_takeFramed (wsX4_nextCheck) := ggX3_takeFramed_X4_nextCheck
set_option maxRecDepth 20000 in
theorem ggX3_takeFramed_X3_takeHead : GoodIn wsX3_takeFramed wsX3_takeHead := goodIn_r _ [13, 14, 15, 16, 5, 2, 31, 32, 33, 34, 35, 36, 37, 38, 39, 40, 41, 42, 43] (by decide +kernel) (by decide +kernel)
set_option maxRecDepth 20000 in
theorem gX3_takeFramed_X3_takeHead : GoodIn wsX3_takeFramed (wsV RX3 63 RX3 yX3_takeHead wsX3_takeHead) := goodIn_app (goodIn_of _ (by decide +kernel)) ggX3_takeFramed_X3_takeHead
set_option maxRecDepth 20000 in
theorem ggX3_takeFramed_X3_takeSize : GoodIn wsX3_takeFramed wsX3_takeSize := goodIn_r _ [20, 14, 21, 5, 22, 23, 24, 25, 2, 31, 32, 33, 34, 35, 36, 37, 38, 39, 40, 41, 42, 43] (by decide +kernel) (by decide +kernel)
set_option maxRecDepth 20000 in
theorem gX3_takeFramed_X3_takeSize : GoodIn wsX3_takeFramed (wsV RX3 67 RX3 yX3_takeSize wsX3_takeSize) := goodIn_app (goodIn_of _ (by decide +kernel)) ggX3_takeFramed_X3_takeSize
set_option maxRecDepth 20000 in
theorem ggX3_takeFramed_X3_takeData : GoodIn wsX3_takeFramed wsX3_takeData := goodIn_r _ [29, 14, 30, 31, 32, 33, 34, 35, 36, 37, 38, 39, 40, 41, 42, 43] (by decide +kernel) (by decide +kernel)
set_option maxRecDepth 20000 in
theorem gX3_takeFramed_X3_takeData : GoodIn wsX3_takeFramed (wsV RX3 70 RX3 yX3_takeData wsX3_takeData) := goodIn_app (goodIn_of _ (by decide +kernel)) ggX3_takeFramed_X3_takeData
theorem dX3_takeFramed_0 : decode cX3_takeFramed 0 = .ok (.aload_n 0, 1) := by decide +kernel
theorem dX3_takeFramed_1 : decode cX3_takeFramed 1 = .ok (.getfield 18, 3) := by decide +kernel
theorem dX3_takeFramed_4 : decode cX3_takeFramed 4 = .ok (.istore_n 2, 1) := by decide +kernel
theorem dX3_takeFramed_5 : decode cX3_takeFramed 5 = .ok (.aload_n 0, 1) := by decide +kernel
theorem dX3_takeFramed_6 : decode cX3_takeFramed 6 = .ok (.dup, 1) := by decide +kernel
theorem dX3_takeFramed_7 : decode cX3_takeFramed 7 = .ok (.getfield 18, 3) := by decide +kernel
theorem dX3_takeFramed_10 : decode cX3_takeFramed 10 = .ok (.iconst 1, 1) := by decide +kernel
theorem dX3_takeFramed_11 : decode cX3_takeFramed 11 = .ok (.iadd, 1) := by decide +kernel
theorem dX3_takeFramed_12 : decode cX3_takeFramed 12 = .ok (.putfield 18, 3) := by decide +kernel
theorem dX3_takeFramed_15 : decode cX3_takeFramed 15 = .ok (.iload_n 2, 1) := by decide +kernel
theorem dX3_takeFramed_16 : decode cX3_takeFramed 16 = .ok (.aload_n 0, 1) := by decide +kernel
theorem dX3_takeFramed_17 : decode cX3_takeFramed 17 = .ok (.getfield 40, 3) := by decide +kernel
theorem dX3_takeFramed_20 : decode cX3_takeFramed 20 = .ok (.if_icmp .lt 16, 3) := by decide +kernel
theorem dX3_takeFramed_23 : decode cX3_takeFramed 23 = .ok (.aload_n 0, 1) := by decide +kernel
theorem dX3_takeFramed_24 : decode cX3_takeFramed 24 = .ok (.aload_n 0, 1) := by decide +kernel
theorem dX3_takeFramed_25 : decode cX3_takeFramed 25 = .ok (.getfield 34, 3) := by decide +kernel
theorem dX3_takeFramed_28 : decode cX3_takeFramed 28 = .ok (.iconst 1, 1) := by decide +kernel
theorem dX3_takeFramed_29 : decode cX3_takeFramed 29 = .ok (.ishl, 1) := by decide +kernel
theorem dX3_takeFramed_30 : decode cX3_takeFramed 30 = .ok (.iload_n 1, 1) := by decide +kernel
theorem dX3_takeFramed_31 : decode cX3_takeFramed 31 = .ok (.ior, 1) := by decide +kernel
theorem dX3_takeFramed_32 : decode cX3_takeFramed 32 = .ok (.putfield 34, 3) := by decide +kernel
theorem dX3_takeFramed_35 : decode cX3_takeFramed 35 = .ok (.return_, 1) := by decide +kernel
theorem dX3_takeFramed_36 : decode cX3_takeFramed 36 = .ok (.aload_n 0, 1) := by decide +kernel
theorem dX3_takeFramed_37 : decode cX3_takeFramed 37 = .ok (.aload_n 0, 1) := by decide +kernel
theorem dX3_takeFramed_38 : decode cX3_takeFramed 38 = .ok (.getfield 31, 3) := by decide +kernel
theorem dX3_takeFramed_41 : decode cX3_takeFramed 41 = .ok (.iload_n 1, 1) := by decide +kernel
theorem dX3_takeFramed_42 : decode cX3_takeFramed 42 = .ok (.invokestatic 59, 3) := by decide +kernel
theorem dX3_takeFramed_45 : decode cX3_takeFramed 45 = .ok (.putfield 31, 3) := by decide +kernel
theorem dX3_takeFramed_48 : decode cX3_takeFramed 48 = .ok (.iload_n 2, 1) := by decide +kernel
theorem dX3_takeFramed_49 : decode cX3_takeFramed 49 = .ok (.aload_n 0, 1) := by decide +kernel
theorem dX3_takeFramed_50 : decode cX3_takeFramed 50 = .ok (.getfield 37, 3) := by decide +kernel
theorem dX3_takeFramed_53 : decode cX3_takeFramed 53 = .ok (.if_icmp .ge 12, 3) := by decide +kernel
theorem dX3_takeFramed_56 : decode cX3_takeFramed 56 = .ok (.aload_n 0, 1) := by decide +kernel
theorem dX3_takeFramed_57 : decode cX3_takeFramed 57 = .ok (.iload_n 2, 1) := by decide +kernel
theorem dX3_takeFramed_58 : decode cX3_takeFramed 58 = .ok (.iload_n 1, 1) := by decide +kernel
theorem dX3_takeFramed_59 : decode cX3_takeFramed 59 = .ok (.invokevirtual 63, 3) := by decide +kernel
theorem dX3_takeFramed_62 : decode cX3_takeFramed 62 = .ok (.goto 35, 3) := by decide +kernel
theorem dX3_takeFramed_65 : decode cX3_takeFramed 65 = .ok (.iload_n 2, 1) := by decide +kernel
theorem dX3_takeFramed_66 : decode cX3_takeFramed 66 = .ok (.aload_n 0, 1) := by decide +kernel
theorem dX3_takeFramed_67 : decode cX3_takeFramed 67 = .ok (.getfield 37, 3) := by decide +kernel
theorem dX3_takeFramed_70 : decode cX3_takeFramed 70 = .ok (.iconst 4, 1) := by decide +kernel
theorem dX3_takeFramed_71 : decode cX3_takeFramed 71 = .ok (.iadd, 1) := by decide +kernel
theorem dX3_takeFramed_72 : decode cX3_takeFramed 72 = .ok (.if_icmp .ge 12, 3) := by decide +kernel
theorem dX3_takeFramed_75 : decode cX3_takeFramed 75 = .ok (.aload_n 0, 1) := by decide +kernel
theorem dX3_takeFramed_76 : decode cX3_takeFramed 76 = .ok (.iload_n 2, 1) := by decide +kernel
theorem dX3_takeFramed_77 : decode cX3_takeFramed 77 = .ok (.iload_n 1, 1) := by decide +kernel
theorem dX3_takeFramed_78 : decode cX3_takeFramed 78 = .ok (.invokevirtual 67, 3) := by decide +kernel
theorem dX3_takeFramed_81 : decode cX3_takeFramed 81 = .ok (.goto 16, 3) := by decide +kernel
theorem dX3_takeFramed_84 : decode cX3_takeFramed 84 = .ok (.aload_n 0, 1) := by decide +kernel
theorem dX3_takeFramed_85 : decode cX3_takeFramed 85 = .ok (.iload_n 2, 1) := by decide +kernel
theorem dX3_takeFramed_86 : decode cX3_takeFramed 86 = .ok (.aload_n 0, 1) := by decide +kernel
theorem dX3_takeFramed_87 : decode cX3_takeFramed 87 = .ok (.getfield 37, 3) := by decide +kernel
theorem dX3_takeFramed_90 : decode cX3_takeFramed 90 = .ok (.isub, 1) := by decide +kernel
theorem dX3_takeFramed_91 : decode cX3_takeFramed 91 = .ok (.iconst 4, 1) := by decide +kernel
theorem dX3_takeFramed_92 : decode cX3_takeFramed 92 = .ok (.isub, 1) := by decide +kernel
theorem dX3_takeFramed_93 : decode cX3_takeFramed 93 = .ok (.iload_n 1, 1) := by decide +kernel
theorem dX3_takeFramed_94 : decode cX3_takeFramed 94 = .ok (.invokevirtual 70, 3) := by decide +kernel
theorem dX3_takeFramed_97 : decode cX3_takeFramed 97 = .ok (.return_, 1) := by decide +kernel
theorem dX3_takeHead_0 : decode cX3_takeHead 0 = .ok (.iload_n 1, 1) := by decide +kernel
theorem dX3_takeHead_1 : decode cX3_takeHead 1 = .ok (.iconst 1, 1) := by decide +kernel
theorem dX3_takeHead_2 : decode cX3_takeHead 2 = .ok (.if_icmp .lt 13, 3) := by decide +kernel
theorem dX3_takeHead_5 : decode cX3_takeHead 5 = .ok (.iload_n 1, 1) := by decide +kernel
theorem dX3_takeHead_6 : decode cX3_takeHead 6 = .ok (.bipush 11, 2) := by decide +kernel
theorem dX3_takeHead_8 : decode cX3_takeHead 8 = .ok (.if_icmp .gt 7, 3) := by decide +kernel
theorem dX3_takeHead_11 : decode cX3_takeHead 11 = .ok (.iconst 1, 1) := by decide +kernel
theorem dX3_takeHead_12 : decode cX3_takeHead 12 = .ok (.goto 4, 3) := by decide +kernel
theorem dX3_takeHead_15 : decode cX3_takeHead 15 = .ok (.iconst 0, 1) := by decide +kernel
theorem dX3_takeHead_16 : decode cX3_takeHead 16 = .ok (.istore_n 3, 1) := by decide +kernel
theorem dX3_takeHead_17 : decode cX3_takeHead 17 = .ok (.iload_n 1, 1) := by decide +kernel
theorem dX3_takeHead_18 : decode cX3_takeHead 18 = .ok (.bipush 13, 2) := by decide +kernel
theorem dX3_takeHead_20 : decode cX3_takeHead 20 = .ok (.if_icmp .le 13, 3) := by decide +kernel
theorem dX3_takeHead_23 : decode cX3_takeHead 23 = .ok (.iload_n 1, 1) := by decide +kernel
theorem dX3_takeHead_24 : decode cX3_takeHead 24 = .ok (.bipush 31, 2) := by decide +kernel
theorem dX3_takeHead_26 : decode cX3_takeHead 26 = .ok (.if_icmp .gt 7, 3) := by decide +kernel
theorem dX3_takeHead_29 : decode cX3_takeHead 29 = .ok (.iconst 1, 1) := by decide +kernel
theorem dX3_takeHead_30 : decode cX3_takeHead 30 = .ok (.goto 4, 3) := by decide +kernel
theorem dX3_takeHead_33 : decode cX3_takeHead 33 = .ok (.iconst 0, 1) := by decide +kernel
theorem dX3_takeHead_34 : decode cX3_takeHead 34 = .ok (.istore 4, 2) := by decide +kernel
theorem dX3_takeHead_36 : decode cX3_takeHead 36 = .ok (.iload_n 3, 1) := by decide +kernel
theorem dX3_takeHead_37 : decode cX3_takeHead 37 = .ok (.ifCond .ne 18, 3) := by decide +kernel
theorem dX3_takeHead_40 : decode cX3_takeHead 40 = .ok (.aload_n 0, 1) := by decide +kernel
theorem dX3_takeHead_41 : decode cX3_takeHead 41 = .ok (.getfield 12, 3) := by decide +kernel
theorem dX3_takeHead_44 : decode cX3_takeHead 44 = .ok (.getfield 73, 3) := by decide +kernel
theorem dX3_takeHead_47 : decode cX3_takeHead 47 = .ok (.ifCond .eq 29, 3) := by decide +kernel
theorem dX3_takeHead_50 : decode cX3_takeHead 50 = .ok (.iload 4, 2) := by decide +kernel
theorem dX3_takeHead_52 : decode cX3_takeHead 52 = .ok (.ifCond .eq 24, 3) := by decide +kernel
theorem dX3_takeHead_55 : decode cX3_takeHead 55 = .ok (.aload_n 0, 1) := by decide +kernel
theorem dX3_takeHead_56 : decode cX3_takeHead 56 = .ok (.getfield 12, 3) := by decide +kernel
theorem dX3_takeHead_59 : decode cX3_takeHead 59 = .ok (.aload_n 0, 1) := by decide +kernel
theorem dX3_takeHead_60 : decode cX3_takeHead 60 = .ok (.getfield 12, 3) := by decide +kernel
theorem dX3_takeHead_63 : decode cX3_takeHead 63 = .ok (.getfield 77, 3) := by decide +kernel
theorem dX3_takeHead_66 : decode cX3_takeHead 66 = .ok (.iconst 1, 1) := by decide +kernel
theorem dX3_takeHead_67 : decode cX3_takeHead 67 = .ok (.ishl, 1) := by decide +kernel
theorem dX3_takeHead_68 : decode cX3_takeHead 68 = .ok (.iload_n 2, 1) := by decide +kernel
theorem dX3_takeHead_69 : decode cX3_takeHead 69 = .ok (.ior, 1) := by decide +kernel
theorem dX3_takeHead_70 : decode cX3_takeHead 70 = .ok (.putfield 77, 3) := by decide +kernel
theorem dX3_takeHead_73 : decode cX3_takeHead 73 = .ok (.goto 34, 3) := by decide +kernel
theorem dX3_takeHead_76 : decode cX3_takeHead 76 = .ok (.iload_n 1, 1) := by decide +kernel
theorem dX3_takeHead_77 : decode cX3_takeHead 77 = .ok (.bipush 13, 2) := by decide +kernel
theorem dX3_takeHead_79 : decode cX3_takeHead 79 = .ok (.if_icmp .ne 28, 3) := by decide +kernel
theorem dX3_takeHead_82 : decode cX3_takeHead 82 = .ok (.iload_n 2, 1) := by decide +kernel
theorem dX3_takeHead_83 : decode cX3_takeHead 83 = .ok (.iconst 1, 1) := by decide +kernel
theorem dX3_takeHead_84 : decode cX3_takeHead 84 = .ok (.if_icmp .ne 23, 3) := by decide +kernel
theorem dX3_takeHead_87 : decode cX3_takeHead 87 = .ok (.aload_n 0, 1) := by decide +kernel
theorem dX3_takeHead_88 : decode cX3_takeHead 88 = .ok (.getfield 12, 3) := by decide +kernel
theorem dX3_takeHead_91 : decode cX3_takeHead 91 = .ok (.iconst 1, 1) := by decide +kernel
theorem dX3_takeHead_92 : decode cX3_takeHead 92 = .ok (.putfield 73, 3) := by decide +kernel
theorem dX3_takeHead_95 : decode cX3_takeHead 95 = .ok (.aload_n 0, 1) := by decide +kernel
theorem dX3_takeHead_96 : decode cX3_takeHead 96 = .ok (.bipush 35, 2) := by decide +kernel
theorem dX3_takeHead_98 : decode cX3_takeHead 98 = .ok (.putfield 37, 3) := by decide +kernel
theorem dX3_takeHead_101 : decode cX3_takeHead 101 = .ok (.aload_n 0, 1) := by decide +kernel
theorem dX3_takeHead_102 : decode cX3_takeHead 102 = .ok (.bipush 39, 2) := by decide +kernel
theorem dX3_takeHead_104 : decode cX3_takeHead 104 = .ok (.putfield 40, 3) := by decide +kernel
theorem dX3_takeHead_107 : decode cX3_takeHead 107 = .ok (.return_, 1) := by decide +kernel
theorem dX3_takeSize_0 : decode cX3_takeSize 0 = .ok (.aload_n 0, 1) := by decide +kernel
theorem dX3_takeSize_1 : decode cX3_takeSize 1 = .ok (.getfield 12, 3) := by decide +kernel
theorem dX3_takeSize_4 : decode cX3_takeSize 4 = .ok (.aload_n 0, 1) := by decide +kernel
theorem dX3_takeSize_5 : decode cX3_takeSize 5 = .ok (.getfield 12, 3) := by decide +kernel
theorem dX3_takeSize_8 : decode cX3_takeSize 8 = .ok (.getfield 80, 3) := by decide +kernel
theorem dX3_takeSize_11 : decode cX3_takeSize 11 = .ok (.iconst 1, 1) := by decide +kernel
theorem dX3_takeSize_12 : decode cX3_takeSize 12 = .ok (.ishl, 1) := by decide +kernel
theorem dX3_takeSize_13 : decode cX3_takeSize 13 = .ok (.iload_n 2, 1) := by decide +kernel
theorem dX3_takeSize_14 : decode cX3_takeSize 14 = .ok (.ior, 1) := by decide +kernel
theorem dX3_takeSize_15 : decode cX3_takeSize 15 = .ok (.putfield 80, 3) := by decide +kernel
theorem dX3_takeSize_18 : decode cX3_takeSize 18 = .ok (.iload_n 1, 1) := by decide +kernel
theorem dX3_takeSize_19 : decode cX3_takeSize 19 = .ok (.aload_n 0, 1) := by decide +kernel
theorem dX3_takeSize_20 : decode cX3_takeSize 20 = .ok (.getfield 37, 3) := by decide +kernel
theorem dX3_takeSize_23 : decode cX3_takeSize 23 = .ok (.iconst 4, 1) := by decide +kernel
theorem dX3_takeSize_24 : decode cX3_takeSize 24 = .ok (.iadd, 1) := by decide +kernel
theorem dX3_takeSize_25 : decode cX3_takeSize 25 = .ok (.iconst 1, 1) := by decide +kernel
theorem dX3_takeSize_26 : decode cX3_takeSize 26 = .ok (.isub, 1) := by decide +kernel
theorem dX3_takeSize_27 : decode cX3_takeSize 27 = .ok (.if_icmp .ne 43, 3) := by decide +kernel
theorem dX3_takeSize_30 : decode cX3_takeSize 30 = .ok (.aload_n 0, 1) := by decide +kernel
theorem dX3_takeSize_31 : decode cX3_takeSize 31 = .ok (.getfield 12, 3) := by decide +kernel
theorem dX3_takeSize_34 : decode cX3_takeSize 34 = .ok (.aload_n 0, 1) := by decide +kernel
theorem dX3_takeSize_35 : decode cX3_takeSize 35 = .ok (.getfield 12, 3) := by decide +kernel
theorem dX3_takeSize_38 : decode cX3_takeSize 38 = .ok (.getfield 80, 3) := by decide +kernel
theorem dX3_takeSize_41 : decode cX3_takeSize 41 = .ok (.bipush 8, 2) := by decide +kernel
theorem dX3_takeSize_43 : decode cX3_takeSize 43 = .ok (.invokestatic 83, 3) := by decide +kernel
theorem dX3_takeSize_46 : decode cX3_takeSize 46 = .ok (.putfield 80, 3) := by decide +kernel
theorem dX3_takeSize_49 : decode cX3_takeSize 49 = .ok (.aload_n 0, 1) := by decide +kernel
theorem dX3_takeSize_50 : decode cX3_takeSize 50 = .ok (.aload_n 0, 1) := by decide +kernel
theorem dX3_takeSize_51 : decode cX3_takeSize 51 = .ok (.getfield 37, 3) := by decide +kernel
theorem dX3_takeSize_54 : decode cX3_takeSize 54 = .ok (.iconst 4, 1) := by decide +kernel
theorem dX3_takeSize_55 : decode cX3_takeSize 55 = .ok (.iadd, 1) := by decide +kernel
theorem dX3_takeSize_56 : decode cX3_takeSize 56 = .ok (.bipush 8, 2) := by decide +kernel
theorem dX3_takeSize_58 : decode cX3_takeSize 58 = .ok (.aload_n 0, 1) := by decide +kernel
theorem dX3_takeSize_59 : decode cX3_takeSize 59 = .ok (.getfield 12, 3) := by decide +kernel
theorem dX3_takeSize_62 : decode cX3_takeSize 62 = .ok (.getfield 80, 3) := by decide +kernel
theorem dX3_takeSize_65 : decode cX3_takeSize 65 = .ok (.imul, 1) := by decide +kernel
theorem dX3_takeSize_66 : decode cX3_takeSize 66 = .ok (.iadd, 1) := by decide +kernel
theorem dX3_takeSize_67 : decode cX3_takeSize 67 = .ok (.putfield 40, 3) := by decide +kernel
theorem dX3_takeSize_70 : decode cX3_takeSize 70 = .ok (.return_, 1) := by decide +kernel
theorem dX3_takeData_0 : decode cX3_takeData 0 = .ok (.iload_n 1, 1) := by decide +kernel
theorem dX3_takeData_1 : decode cX3_takeData 1 = .ok (.bipush 8, 2) := by decide +kernel
theorem dX3_takeData_3 : decode cX3_takeData 3 = .ok (.idiv, 1) := by decide +kernel
theorem dX3_takeData_4 : decode cX3_takeData 4 = .ok (.bipush 8, 2) := by decide +kernel
theorem dX3_takeData_6 : decode cX3_takeData 6 = .ok (.imul, 1) := by decide +kernel
theorem dX3_takeData_7 : decode cX3_takeData 7 = .ok (.istore_n 3, 1) := by decide +kernel
theorem dX3_takeData_8 : decode cX3_takeData 8 = .ok (.iload_n 3, 1) := by decide +kernel
theorem dX3_takeData_9 : decode cX3_takeData 9 = .ok (.bipush 8, 2) := by decide +kernel
theorem dX3_takeData_11 : decode cX3_takeData 11 = .ok (.iadd, 1) := by decide +kernel
theorem dX3_takeData_12 : decode cX3_takeData 12 = .ok (.iconst 1, 1) := by decide +kernel
theorem dX3_takeData_13 : decode cX3_takeData 13 = .ok (.isub, 1) := by decide +kernel
theorem dX3_takeData_14 : decode cX3_takeData 14 = .ok (.iload_n 1, 1) := by decide +kernel
theorem dX3_takeData_15 : decode cX3_takeData 15 = .ok (.bipush 8, 2) := by decide +kernel
theorem dX3_takeData_17 : decode cX3_takeData 17 = .ok (.irem, 1) := by decide +kernel
theorem dX3_takeData_18 : decode cX3_takeData 18 = .ok (.isub, 1) := by decide +kernel
theorem dX3_takeData_19 : decode cX3_takeData 19 = .ok (.istore 4, 2) := by decide +kernel
theorem dX3_takeData_21 : decode cX3_takeData 21 = .ok (.aload_n 0, 1) := by decide +kernel
theorem dX3_takeData_22 : decode cX3_takeData 22 = .ok (.getfield 12, 3) := by decide +kernel
theorem dX3_takeData_25 : decode cX3_takeData 25 = .ok (.dup, 1) := by decide +kernel
theorem dX3_takeData_26 : decode cX3_takeData 26 = .ok (.getfield 88, 3) := by decide +kernel
theorem dX3_takeData_29 : decode cX3_takeData 29 = .ok (.iload_n 2, 1) := by decide +kernel
theorem dX3_takeData_30 : decode cX3_takeData 30 = .ok (.i2l, 1) := by decide +kernel
theorem dX3_takeData_31 : decode cX3_takeData 31 = .ok (.iload 4, 2) := by decide +kernel
theorem dX3_takeData_33 : decode cX3_takeData 33 = .ok (.lshl, 1) := by decide +kernel
theorem dX3_takeData_34 : decode cX3_takeData 34 = .ok (.lor, 1) := by decide +kernel
theorem dX3_takeData_35 : decode cX3_takeData 35 = .ok (.putfield 88, 3) := by decide +kernel
theorem dX3_takeData_38 : decode cX3_takeData 38 = .ok (.return_, 1) := by decide +kernel
