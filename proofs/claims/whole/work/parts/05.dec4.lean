set_option maxRecDepth 20000 in
theorem ggX4_init_X1_init : GoodIn wsX4_init wsX1_init := goodIn_r _ [22, 23, 2, 3, 8, 24, 25, 26, 27, 28, 29, 30, 31, 83, 84, 85, 86, 87, 88, 89, 90] (by decide +kernel) (by decide +kernel)
set_option maxRecDepth 20000 in
theorem gX4_init_X1_init_n31 : GoodIn wsX4_init (wsX1_init) := ggX4_init_X1_init
set_option maxRecDepth 20000 in
theorem ggX4_init_X3_init : GoodIn wsX4_init wsX3_init := goodIn_r _ [33, 34, 2, 3, 35, 36, 37, 38, 39, 40, 41, 42, 43, 44, 45, 46, 47, 48, 49, 50, 51, 52, 53, 115, 116, 117, 118, 91, 92, 93, 94, 95, 96, 97, 98, 99] (by decide +kernel) (by decide +kernel)
set_option maxRecDepth 20000 in
theorem gX4_init_X3_init_n38 : GoodIn wsX4_init (wsX3_init) := ggX4_init_X3_init
set_option maxRecDepth 20000 in
theorem ggX4_init_X2_init : GoodIn wsX4_init wsX2_init := goodIn_r _ [56, 57, 2, 3, 58, 59, 36, 37, 60, 61, 12, 13, 62, 63, 16, 17, 64, 65, 66, 67, 68, 69, 70, 71, 72, 73, 74, 75, 47, 48, 49, 50, 51, 52, 53, 21, 22, 23, 8, 24, 25, 26, 27, 28, 29, 30, 31, 32, 33, 34, 35, 38, 39, 40, 41, 42, 43, 44, 45, 46, 100, 101, 102, 103, 104, 105, 106, 107, 108, 109, 110, 111, 112, 113, 114, 115, 116, 117, 118, 83, 84, 85, 86, 87, 88, 89, 90, 91, 92, 93, 94, 95, 96, 97, 98, 99] (by decide +kernel) (by decide +kernel)
set_option maxRecDepth 20000 in
theorem gX4_init_X2_init : GoodIn wsX4_init (wsX2_init) := ggX4_init_X2_init
theorem dX4_init_0 : decode cX4_init 0 = .ok (.aload_n 0, 1) := by decide +kernel
theorem dX4_init_1 : decode cX4_init 1 = .ok (.invokespecial 3, 3) := by decide +kernel
theorem dX4_init_4 : decode cX4_init 4 = .ok (.aload_n 0, 1) := by decide +kernel
theorem dX4_init_5 : decode cX4_init 5 = .ok (.iconst 4, 1) := by decide +kernel
theorem dX4_init_6 : decode cX4_init 6 = .ok (.anewarray 9, 3) := by decide +kernel
theorem dX4_init_9 : decode cX4_init 9 = .ok (.putfield 11, 3) := by decide +kernel
theorem dX4_init_12 : decode cX4_init 12 = .ok (.aload_n 0, 1) := by decide +kernel
theorem dX4_init_13 : decode cX4_init 13 = .ok (.iconst 0, 1) := by decide +kernel
theorem dX4_init_14 : decode cX4_init 14 = .ok (.putfield 15, 3) := by decide +kernel
theorem dX4_init_17 : decode cX4_init 17 = .ok (.aload_n 0, 1) := by decide +kernel
theorem dX4_init_18 : decode cX4_init 18 = .ok (.iconst 0, 1) := by decide +kernel
theorem dX4_init_19 : decode cX4_init 19 = .ok (.putfield 19, 3) := by decide +kernel
theorem dX4_init_22 : decode cX4_init 22 = .ok (.aload_n 0, 1) := by decide +kernel
theorem dX4_init_23 : decode cX4_init 23 = .ok (.sipush 200, 3) := by decide +kernel
theorem dX4_init_26 : decode cX4_init 26 = .ok (.newarray .int, 2) := by decide +kernel
theorem dX4_init_28 : decode cX4_init 28 = .ok (.putfield 22, 3) := by decide +kernel
theorem dX4_init_31 : decode cX4_init 31 = .ok (.aload_n 0, 1) := by decide +kernel
theorem dX4_init_32 : decode cX4_init 32 = .ok (.iconst 0, 1) := by decide +kernel
theorem dX4_init_33 : decode cX4_init 33 = .ok (.putfield 26, 3) := by decide +kernel
theorem dX4_init_36 : decode cX4_init 36 = .ok (.aload_n 0, 1) := by decide +kernel
theorem dX4_init_37 : decode cX4_init 37 = .ok (.new 29, 3) := by decide +kernel
theorem dX4_init_40 : decode cX4_init 40 = .ok (.dup, 1) := by decide +kernel
theorem dX4_init_41 : decode cX4_init 41 = .ok (.invokespecial 31, 3) := by decide +kernel
theorem dX4_init_44 : decode cX4_init 44 = .ok (.putfield 32, 3) := by decide +kernel
theorem dX4_init_47 : decode cX4_init 47 = .ok (.aload_n 0, 1) := by decide +kernel
theorem dX4_init_48 : decode cX4_init 48 = .ok (.new 36, 3) := by decide +kernel
theorem dX4_init_51 : decode cX4_init 51 = .ok (.dup, 1) := by decide +kernel
theorem dX4_init_52 : decode cX4_init 52 = .ok (.invokespecial 38, 3) := by decide +kernel
theorem dX4_init_55 : decode cX4_init 55 = .ok (.putfield 39, 3) := by decide +kernel
theorem dX4_init_58 : decode cX4_init 58 = .ok (.iconst 0, 1) := by decide +kernel
theorem dX4_init_59 : decode cX4_init 59 = .ok (.istore_n 1, 1) := by decide +kernel
theorem dX4_init_60 : decode cX4_init 60 = .ok (.iload_n 1, 1) := by decide +kernel
theorem dX4_init_61 : decode cX4_init 61 = .ok (.iconst 4, 1) := by decide +kernel
theorem dX4_init_62 : decode cX4_init 62 = .ok (.if_icmp .ge 22, 3) := by decide +kernel
theorem dX4_init_65 : decode cX4_init 65 = .ok (.aload_n 0, 1) := by decide +kernel
theorem dX4_init_66 : decode cX4_init 66 = .ok (.getfield 11, 3) := by decide +kernel
theorem dX4_init_69 : decode cX4_init 69 = .ok (.iload_n 1, 1) := by decide +kernel
theorem dX4_init_70 : decode cX4_init 70 = .ok (.new 9, 3) := by decide +kernel
theorem dX4_init_73 : decode cX4_init 73 = .ok (.dup, 1) := by decide +kernel
theorem dX4_init_74 : decode cX4_init 74 = .ok (.invokespecial 43, 3) := by decide +kernel
theorem dX4_init_77 : decode cX4_init 77 = .ok (.aastore, 1) := by decide +kernel
theorem dX4_init_78 : decode cX4_init 78 = .ok (.iinc 1 1, 3) := by decide +kernel
theorem dX4_init_81 : decode cX4_init 81 = .ok (.goto (-21), 3) := by decide +kernel
theorem dX4_init_84 : decode cX4_init 84 = .ok (.return_, 1) := by decide +kernel
set_option maxRecDepth 20000 in
theorem ggX4_want_X4_isNode : GoodIn wsX4_want wsX4_isNode := goodIn_r _ [12] (by decide +kernel) (by decide +kernel)
set_option maxRecDepth 20000 in
theorem gX4_want_X4_isNode : GoodIn wsX4_want (va_wsS RX4 44 yX4_isNode wsX4_isNode) := goodIn_app (goodIn_of _ (by decide +kernel)) ggX4_want_X4_isNode
set_option maxRecDepth 20000 in
theorem ggX4_want_X2_addWanted : GoodIn wsX4_want wsX2_addWanted := goodIn_r _ [17, 18, 19, 20, 21, 22, 23, 24, 25, 26, 27, 28, 36, 37, 38, 39, 40, 41, 42, 43, 44, 45, 46, 47, 48, 49, 50, 51, 52, 53, 54] (by decide +kernel) (by decide +kernel)
set_option maxRecDepth 20000 in
theorem gX4_want_X2_addWanted : GoodIn wsX4_want (wsV RX4 60 RX2 yX2_addWanted wsX2_addWanted) := goodIn_app (goodIn_of _ (by decide +kernel)) ggX4_want_X2_addWanted
theorem dX4_want_0 : decode cX4_want 0 = .ok (.iload_n 1, 1) := by decide +kernel
theorem dX4_want_1 : decode cX4_want 1 = .ok (.invokestatic 44, 3) := by decide +kernel
theorem dX4_want_4 : decode cX4_want 4 = .ok (.ifCond .ne 11, 3) := by decide +kernel
theorem dX4_want_7 : decode cX4_want 7 = .ok (.new 48, 3) := by decide +kernel
theorem dX4_want_10 : decode cX4_want 10 = .ok (.dup, 1) := by decide +kernel
theorem dX4_want_11 : decode cX4_want 11 = .ok (.invokespecial 50, 3) := by decide +kernel
theorem dX4_want_14 : decode cX4_want 14 = .ok (.athrow, 1) := by decide +kernel
theorem dX4_want_15 : decode cX4_want 15 = .ok (.iload_n 2, 1) := by decide +kernel
theorem dX4_want_16 : decode cX4_want 16 = .ok (.ifCond .eq 8, 3) := by decide +kernel
theorem dX4_want_19 : decode cX4_want 19 = .ok (.bipush 29, 2) := by decide +kernel
theorem dX4_want_21 : decode cX4_want 21 = .ok (.goto 5, 3) := by decide +kernel
theorem dX4_want_24 : decode cX4_want 24 = .ok (.bipush 11, 2) := by decide +kernel
theorem dX4_want_26 : decode cX4_want 26 = .ok (.istore 7, 2) := by decide +kernel
theorem dX4_want_28 : decode cX4_want 28 = .ok (.iload_n 3, 1) := by decide +kernel
theorem dX4_want_29 : decode cX4_want 29 = .ok (.ifCond .lt 23, 3) := by decide +kernel
theorem dX4_want_32 : decode cX4_want 32 = .ok (.iload_n 3, 1) := by decide +kernel
theorem dX4_want_33 : decode cX4_want 33 = .ok (.iconst 1, 1) := by decide +kernel
theorem dX4_want_34 : decode cX4_want 34 = .ok (.iload 7, 2) := by decide +kernel
theorem dX4_want_36 : decode cX4_want 36 = .ok (.ishl, 1) := by decide +kernel
theorem dX4_want_37 : decode cX4_want 37 = .ok (.if_icmp .ge 15, 3) := by decide +kernel
theorem dX4_want_40 : decode cX4_want 40 = .ok (.iload 6, 2) := by decide +kernel
theorem dX4_want_42 : decode cX4_want 42 = .ok (.ifCond .lt 10, 3) := by decide +kernel
theorem dX4_want_45 : decode cX4_want 45 = .ok (.iload 6, 2) := by decide +kernel
theorem dX4_want_47 : decode cX4_want 47 = .ok (.bipush 8, 2) := by decide +kernel
theorem dX4_want_49 : decode cX4_want 49 = .ok (.if_icmp .le 11, 3) := by decide +kernel
theorem dX4_want_52 : decode cX4_want 52 = .ok (.new 51, 3) := by decide +kernel
theorem dX4_want_55 : decode cX4_want 55 = .ok (.dup, 1) := by decide +kernel
theorem dX4_want_56 : decode cX4_want 56 = .ok (.invokespecial 53, 3) := by decide +kernel
theorem dX4_want_59 : decode cX4_want 59 = .ok (.athrow, 1) := by decide +kernel
theorem dX4_want_60 : decode cX4_want 60 = .ok (.aload_n 0, 1) := by decide +kernel
theorem dX4_want_61 : decode cX4_want 61 = .ok (.getfield 11, 3) := by decide +kernel
theorem dX4_want_64 : decode cX4_want 64 = .ok (.iload_n 1, 1) := by decide +kernel
theorem dX4_want_65 : decode cX4_want 65 = .ok (.aaload, 1) := by decide +kernel
theorem dX4_want_66 : decode cX4_want 66 = .ok (.astore 8, 2) := by decide +kernel
theorem dX4_want_68 : decode cX4_want 68 = .ok (.aload 8, 2) := by decide +kernel
theorem dX4_want_70 : decode cX4_want 70 = .ok (.getfield 54, 3) := by decide +kernel
theorem dX4_want_73 : decode cX4_want 73 = .ok (.iconst 4, 1) := by decide +kernel
theorem dX4_want_74 : decode cX4_want 74 = .ok (.if_icmp .lt 11, 3) := by decide +kernel
theorem dX4_want_77 : decode cX4_want 77 = .ok (.new 57, 3) := by decide +kernel
theorem dX4_want_80 : decode cX4_want 80 = .ok (.dup, 1) := by decide +kernel
theorem dX4_want_81 : decode cX4_want 81 = .ok (.invokespecial 59, 3) := by decide +kernel
theorem dX4_want_84 : decode cX4_want 84 = .ok (.athrow, 1) := by decide +kernel
theorem dX4_want_85 : decode cX4_want 85 = .ok (.aload 8, 2) := by decide +kernel
theorem dX4_want_87 : decode cX4_want 87 = .ok (.iload_n 2, 1) := by decide +kernel
theorem dX4_want_88 : decode cX4_want 88 = .ok (.iload_n 3, 1) := by decide +kernel
theorem dX4_want_89 : decode cX4_want 89 = .ok (.lload 4, 2) := by decide +kernel
theorem dX4_want_91 : decode cX4_want 91 = .ok (.iload 6, 2) := by decide +kernel
theorem dX4_want_93 : decode cX4_want 93 = .ok (.invokevirtual 60, 3) := by decide +kernel
theorem dX4_want_96 : decode cX4_want 96 = .ok (.aload 8, 2) := by decide +kernel
theorem dX4_want_98 : decode cX4_want 98 = .ok (.getfield 54, 3) := by decide +kernel
theorem dX4_want_101 : decode cX4_want 101 = .ok (.ireturn, 1) := by decide +kernel
set_option maxRecDepth 20000 in
theorem ggX4_step_X4_oneStep : GoodIn wsX4_step wsX4_oneStep := goodIn_r _ [7, 8, 9, 10, 11, 6, 12, 13, 14, 15, 16, 17, 18, 19, 20, 21, 22, 23, 24, 25, 26, 27, 28, 29, 30, 31, 32, 33, 34, 35, 36, 37, 38, 39, 40, 41, 42, 43, 44, 45, 46, 47, 48, 49, 50, 51, 52, 53, 54, 55, 56, 57, 58, 59, 60, 61, 62, 63, 64, 65, 66, 67, 68, 69, 70, 71, 72, 73, 74, 75, 76, 77, 78, 79, 80, 81, 82, 83, 84, 85, 86, 87, 88, 89, 90, 91, 92, 93, 94, 95, 96, 97, 98, 99, 100, 101, 102, 103, 104, 105, 106, 107, 108, 109, 110, 111, 112, 113, 114, 115, 116, 117, 118, 119, 120, 121, 122, 123, 124, 125, 126, 127, 128, 129, 130, 131, 132, 133, 134, 135, 136, 137, 138, 139, 140, 141, 142, 143, 144, 145, 146, 147, 148, 149, 150, 151, 152, 153, 154, 155, 156, 157, 158, 159, 160, 161, 162, 163, 164, 165, 166, 167, 168, 169, 170, 171, 172, 173, 174, 175, 176, 177, 178, 179, 180, 181, 182, 183, 184, 185, 186, 187, 188, 189, 190, 191, 192, 193, 194, 195, 196, 197, 198, 199, 200, 201, 202, 203, 204, 205, 206, 207, 208, 209, 210, 211, 212, 213, 214, 215, 216, 217, 218, 219, 220, 221, 222, 223, 224, 225, 226, 227, 228, 229, 230, 231, 232, 233, 234, 235, 236, 237, 238, 239, 240, 241, 242, 243, 244, 245, 246, 247, 248, 249, 250, 251, 252, 253, 254, 255, 256, 257, 258, 259, 260, 261, 262, 263, 264, 265, 266, 267, 268, 269, 270] (by decide +kernel) (by decide +kernel)
set_option maxRecDepth 20000 in
theorem gX4_step_X4_oneStep : GoodIn wsX4_step (wsV RX4 64 RX4 yX4_oneStep wsX4_oneStep) := goodIn_app (goodIn_of _ (by decide +kernel)) ggX4_step_X4_oneStep
theorem dX4_step_0 : decode cX4_step 0 = .ok (.iload_n 1, 1) := by decide +kernel
theorem dX4_step_1 : decode cX4_step 1 = .ok (.iconst 1, 1) := by decide +kernel
theorem dX4_step_2 : decode cX4_step 2 = .ok (.if_icmp .lt 20, 3) := by decide +kernel
theorem dX4_step_5 : decode cX4_step 5 = .ok (.iload_n 1, 1) := by decide +kernel
theorem dX4_step_6 : decode cX4_step 6 = .ok (.sipush 200, 3) := by decide +kernel
theorem dX4_step_9 : decode cX4_step 9 = .ok (.if_icmp .gt 13, 3) := by decide +kernel
theorem dX4_step_12 : decode cX4_step 12 = .ok (.iload_n 2, 1) := by decide +kernel
theorem dX4_step_13 : decode cX4_step 13 = .ok (.ifCond .lt 9, 3) := by decide +kernel
theorem dX4_step_16 : decode cX4_step 16 = .ok (.iload_n 2, 1) := by decide +kernel
theorem dX4_step_17 : decode cX4_step 17 = .ok (.bipush 15, 2) := by decide +kernel
theorem dX4_step_19 : decode cX4_step 19 = .ok (.if_icmp .le 11, 3) := by decide +kernel
theorem dX4_step_22 : decode cX4_step 22 = .ok (.new 51, 3) := by decide +kernel
theorem dX4_step_25 : decode cX4_step 25 = .ok (.dup, 1) := by decide +kernel
theorem dX4_step_26 : decode cX4_step 26 = .ok (.invokespecial 53, 3) := by decide +kernel
theorem dX4_step_29 : decode cX4_step 29 = .ok (.athrow, 1) := by decide +kernel
theorem dX4_step_30 : decode cX4_step 30 = .ok (.aload_n 0, 1) := by decide +kernel
theorem dX4_step_31 : decode cX4_step 31 = .ok (.iload_n 2, 1) := by decide +kernel
theorem dX4_step_32 : decode cX4_step 32 = .ok (.invokevirtual 64, 3) := by decide +kernel
theorem dX4_step_35 : decode cX4_step 35 = .ok (.istore_n 3, 1) := by decide +kernel
theorem dX4_step_36 : decode cX4_step 36 = .ok (.iconst 1, 1) := by decide +kernel
theorem dX4_step_37 : decode cX4_step 37 = .ok (.istore 4, 2) := by decide +kernel
theorem dX4_step_39 : decode cX4_step 39 = .ok (.iload 4, 2) := by decide +kernel
theorem dX4_step_41 : decode cX4_step 41 = .ok (.iload_n 1, 1) := by decide +kernel
theorem dX4_step_42 : decode cX4_step 42 = .ok (.if_icmp .ge 15, 3) := by decide +kernel
theorem dX4_step_45 : decode cX4_step 45 = .ok (.aload_n 0, 1) := by decide +kernel
theorem dX4_step_46 : decode cX4_step 46 = .ok (.iconst 0, 1) := by decide +kernel
theorem dX4_step_47 : decode cX4_step 47 = .ok (.invokevirtual 64, 3) := by decide +kernel
theorem dX4_step_50 : decode cX4_step 50 = .ok (.istore_n 3, 1) := by decide +kernel
theorem dX4_step_51 : decode cX4_step 51 = .ok (.iinc 4 1, 3) := by decide +kernel
theorem dX4_step_54 : decode cX4_step 54 = .ok (.goto (-15), 3) := by decide +kernel
theorem dX4_step_57 : decode cX4_step 57 = .ok (.iload_n 3, 1) := by decide +kernel
theorem dX4_step_58 : decode cX4_step 58 = .ok (.ireturn, 1) := by decide +kernel
set_option maxRecDepth 20000 in
theorem ggX4_join_X4_isNode : GoodIn wsX4_join wsX4_isNode := goodIn_r _ [8] (by decide +kernel) (by decide +kernel)
set_option maxRecDepth 20000 in
theorem gX4_join_X4_isNode : GoodIn wsX4_join (va_wsS RX4 44 yX4_isNode wsX4_isNode) := goodIn_app (goodIn_of _ (by decide +kernel)) ggX4_join_X4_isNode
set_option maxRecDepth 20000 in
theorem ggX4_join_X2_switchOn : GoodIn wsX4_join wsX2_switchOn := goodIn_r _ [13, 14, 15, 16, 24, 25, 26, 27, 28, 29, 30, 31, 32, 33, 34, 35, 36, 37, 38] (by decide +kernel) (by decide +kernel)
set_option maxRecDepth 20000 in
theorem gX4_join_X2_switchOn : GoodIn wsX4_join (wsV RX4 72 RX2 yX2_switchOn wsX2_switchOn) := goodIn_app (goodIn_of _ (by decide +kernel)) ggX4_join_X2_switchOn
theorem dX4_join_0 : decode cX4_join 0 = .ok (.iload_n 1, 1) := by decide +kernel
theorem dX4_join_1 : decode cX4_join 1 = .ok (.invokestatic 44, 3) := by decide +kernel
theorem dX4_join_4 : decode cX4_join 4 = .ok (.ifCond .ne 11, 3) := by decide +kernel
theorem dX4_join_7 : decode cX4_join 7 = .ok (.new 48, 3) := by decide +kernel
theorem dX4_join_10 : decode cX4_join 10 = .ok (.dup, 1) := by decide +kernel
theorem dX4_join_11 : decode cX4_join 11 = .ok (.invokespecial 50, 3) := by decide +kernel
theorem dX4_join_14 : decode cX4_join 14 = .ok (.athrow, 1) := by decide +kernel
theorem dX4_join_15 : decode cX4_join 15 = .ok (.aload_n 0, 1) := by decide +kernel
theorem dX4_join_16 : decode cX4_join 16 = .ok (.getfield 11, 3) := by decide +kernel
theorem dX4_join_19 : decode cX4_join 19 = .ok (.iload_n 1, 1) := by decide +kernel
theorem dX4_join_20 : decode cX4_join 20 = .ok (.aaload, 1) := by decide +kernel
theorem dX4_join_21 : decode cX4_join 21 = .ok (.astore_n 2, 1) := by decide +kernel
theorem dX4_join_22 : decode cX4_join 22 = .ok (.aload_n 2, 1) := by decide +kernel
theorem dX4_join_23 : decode cX4_join 23 = .ok (.getfield 68, 3) := by decide +kernel
theorem dX4_join_26 : decode cX4_join 26 = .ok (.ifCond .eq 5, 3) := by decide +kernel
theorem dX4_join_29 : decode cX4_join 29 = .ok (.iconst 0, 1) := by decide +kernel
theorem dX4_join_30 : decode cX4_join 30 = .ok (.ireturn, 1) := by decide +kernel
theorem dX4_join_31 : decode cX4_join 31 = .ok (.aload_n 2, 1) := by decide +kernel
theorem dX4_join_32 : decode cX4_join 32 = .ok (.invokevirtual 72, 3) := by decide +kernel
theorem dX4_join_35 : decode cX4_join 35 = .ok (.iconst 1, 1) := by decide +kernel
theorem dX4_join_36 : decode cX4_join 36 = .ok (.ireturn, 1) := by decide +kernel
theorem dX4_wire_0 : decode cX4_wire 0 = .ok (.aload_n 0, 1) := by decide +kernel
theorem dX4_wire_1 : decode cX4_wire 1 = .ok (.getfield 15, 3) := by decide +kernel
theorem dX4_wire_4 : decode cX4_wire 4 = .ok (.ireturn, 1) := by decide +kernel
set_option maxRecDepth 20000 in
theorem ggX4_node_X4_isNode : GoodIn wsX4_node wsX4_isNode := goodIn_r _ [15] (by decide +kernel) (by decide +kernel)
set_option maxRecDepth 20000 in
theorem gX4_node_X4_isNode : GoodIn wsX4_node (va_wsS RX4 44 yX4_isNode wsX4_isNode) := goodIn_app (goodIn_of _ (by decide +kernel)) ggX4_node_X4_isNode
theorem dX4_node_0 : decode cX4_node 0 = .ok (.iload_n 1, 1) := by decide +kernel
theorem dX4_node_1 : decode cX4_node 1 = .ok (.invokestatic 44, 3) := by decide +kernel
theorem dX4_node_4 : decode cX4_node 4 = .ok (.ifCond .ne 11, 3) := by decide +kernel
theorem dX4_node_7 : decode cX4_node 7 = .ok (.new 48, 3) := by decide +kernel
theorem dX4_node_10 : decode cX4_node 10 = .ok (.dup, 1) := by decide +kernel
theorem dX4_node_11 : decode cX4_node 11 = .ok (.invokespecial 50, 3) := by decide +kernel
theorem dX4_node_14 : decode cX4_node 14 = .ok (.athrow, 1) := by decide +kernel
theorem dX4_node_15 : decode cX4_node 15 = .ok (.aload_n 0, 1) := by decide +kernel
theorem dX4_node_16 : decode cX4_node 16 = .ok (.getfield 11, 3) := by decide +kernel
theorem dX4_node_19 : decode cX4_node 19 = .ok (.iload_n 1, 1) := by decide +kernel
theorem dX4_node_20 : decode cX4_node 20 = .ok (.aaload, 1) := by decide +kernel
theorem dX4_node_21 : decode cX4_node 21 = .ok (.astore_n 3, 1) := by decide +kernel
theorem dX4_node_22 : decode cX4_node 22 = .ok (.iload_n 2, 1) := by decide +kernel
theorem dX4_node_23 : decode cX4_node 23 = .ok (.tableswitch 87 0 6 #[41, 57, 62, 67, 72, 77, 82], 41) := by decide +kernel
theorem dX4_node_64 : decode cX4_node 64 = .ok (.aload_n 3, 1) := by decide +kernel
theorem dX4_node_65 : decode cX4_node 65 = .ok (.getfield 68, 3) := by decide +kernel
theorem dX4_node_68 : decode cX4_node 68 = .ok (.ifCond .eq 10, 3) := by decide +kernel
theorem dX4_node_71 : decode cX4_node 71 = .ok (.aload_n 3, 1) := by decide +kernel
theorem dX4_node_72 : decode cX4_node 72 = .ok (.getfield 75, 3) := by decide +kernel
theorem dX4_node_75 : decode cX4_node 75 = .ok (.goto 4, 3) := by decide +kernel
theorem dX4_node_78 : decode cX4_node 78 = .ok (.iconst 0, 1) := by decide +kernel
theorem dX4_node_79 : decode cX4_node 79 = .ok (.ireturn, 1) := by decide +kernel
theorem dX4_node_80 : decode cX4_node 80 = .ok (.aload_n 3, 1) := by decide +kernel
theorem dX4_node_81 : decode cX4_node 81 = .ok (.getfield 78, 3) := by decide +kernel
theorem dX4_node_84 : decode cX4_node 84 = .ok (.ireturn, 1) := by decide +kernel
theorem dX4_node_85 : decode cX4_node 85 = .ok (.aload_n 3, 1) := by decide +kernel
theorem dX4_node_86 : decode cX4_node 86 = .ok (.getfield 81, 3) := by decide +kernel
theorem dX4_node_89 : decode cX4_node 89 = .ok (.ireturn, 1) := by decide +kernel
theorem dX4_node_90 : decode cX4_node 90 = .ok (.aload_n 3, 1) := by decide +kernel
theorem dX4_node_91 : decode cX4_node 91 = .ok (.getfield 54, 3) := by decide +kernel
theorem dX4_node_94 : decode cX4_node 94 = .ok (.ireturn, 1) := by decide +kernel
theorem dX4_node_95 : decode cX4_node 95 = .ok (.aload_n 3, 1) := by decide +kernel
theorem dX4_node_96 : decode cX4_node 96 = .ok (.getfield 84, 3) := by decide +kernel
theorem dX4_node_99 : decode cX4_node 99 = .ok (.ireturn, 1) := by decide +kernel
theorem dX4_node_100 : decode cX4_node 100 = .ok (.aload_n 3, 1) := by decide +kernel
theorem dX4_node_101 : decode cX4_node 101 = .ok (.getfield 87, 3) := by decide +kernel
theorem dX4_node_104 : decode cX4_node 104 = .ok (.ireturn, 1) := by decide +kernel
theorem dX4_node_105 : decode cX4_node 105 = .ok (.aload_n 3, 1) := by decide +kernel
theorem dX4_node_106 : decode cX4_node 106 = .ok (.getfield 90, 3) := by decide +kernel
theorem dX4_node_109 : decode cX4_node 109 = .ok (.ireturn, 1) := by decide +kernel
theorem dX4_node_110 : decode cX4_node 110 = .ok (.new 48, 3) := by decide +kernel
theorem dX4_node_113 : decode cX4_node 113 = .ok (.dup, 1) := by decide +kernel
theorem dX4_node_114 : decode cX4_node 114 = .ok (.invokespecial 50, 3) := by decide +kernel
theorem dX4_node_117 : decode cX4_node 117 = .ok (.athrow, 1) := by decide +kernel
set_option maxRecDepth 20000 in
theorem ggX4_received_X4_isNode : GoodIn wsX4_received wsX4_isNode := goodIn_r _ [15] (by decide +kernel) (by decide +kernel)
set_option maxRecDepth 20000 in
theorem gX4_received_X4_isNode : GoodIn wsX4_received (va_wsS RX4 44 yX4_isNode wsX4_isNode) := goodIn_app (goodIn_of _ (by decide +kernel)) ggX4_received_X4_isNode
theorem dX4_received_0 : decode cX4_received 0 = .ok (.iload_n 1, 1) := by decide +kernel
theorem dX4_received_1 : decode cX4_received 1 = .ok (.invokestatic 44, 3) := by decide +kernel
theorem dX4_received_4 : decode cX4_received 4 = .ok (.ifCond .eq 12, 3) := by decide +kernel
theorem dX4_received_7 : decode cX4_received 7 = .ok (.iload_n 2, 1) := by decide +kernel
theorem dX4_received_8 : decode cX4_received 8 = .ok (.ifCond .lt 8, 3) := by decide +kernel
theorem dX4_received_11 : decode cX4_received 11 = .ok (.iload_n 2, 1) := by decide +kernel
theorem dX4_received_12 : decode cX4_received 12 = .ok (.iconst 3, 1) := by decide +kernel
theorem dX4_received_13 : decode cX4_received 13 = .ok (.if_icmp .le 11, 3) := by decide +kernel
theorem dX4_received_16 : decode cX4_received 16 = .ok (.new 48, 3) := by decide +kernel
theorem dX4_received_19 : decode cX4_received 19 = .ok (.dup, 1) := by decide +kernel
theorem dX4_received_20 : decode cX4_received 20 = .ok (.invokespecial 50, 3) := by decide +kernel
theorem dX4_received_23 : decode cX4_received 23 = .ok (.athrow, 1) := by decide +kernel
theorem dX4_received_24 : decode cX4_received 24 = .ok (.aload_n 0, 1) := by decide +kernel
theorem dX4_received_25 : decode cX4_received 25 = .ok (.getfield 11, 3) := by decide +kernel
theorem dX4_received_28 : decode cX4_received 28 = .ok (.iload_n 1, 1) := by decide +kernel
theorem dX4_received_29 : decode cX4_received 29 = .ok (.aaload, 1) := by decide +kernel
theorem dX4_received_30 : decode cX4_received 30 = .ok (.astore_n 3, 1) := by decide +kernel
theorem dX4_received_31 : decode cX4_received 31 = .ok (.aload_n 3, 1) := by decide +kernel
theorem dX4_received_32 : decode cX4_received 32 = .ok (.getfield 87, 3) := by decide +kernel
theorem dX4_received_35 : decode cX4_received 35 = .ok (.ifCond .ne 11, 3) := by decide +kernel
theorem dX4_received_38 : decode cX4_received 38 = .ok (.new 93, 3) := by decide +kernel
theorem dX4_received_41 : decode cX4_received 41 = .ok (.dup, 1) := by decide +kernel
theorem dX4_received_42 : decode cX4_received 42 = .ok (.invokespecial 95, 3) := by decide +kernel
theorem dX4_received_45 : decode cX4_received 45 = .ok (.athrow, 1) := by decide +kernel
theorem dX4_received_46 : decode cX4_received 46 = .ok (.aload_n 3, 1) := by decide +kernel
theorem dX4_received_47 : decode cX4_received 47 = .ok (.getfield 96, 3) := by decide +kernel
theorem dX4_received_50 : decode cX4_received 50 = .ok (.astore 4, 2) := by decide +kernel
theorem dX4_received_52 : decode cX4_received 52 = .ok (.iload_n 2, 1) := by decide +kernel
theorem dX4_received_53 : decode cX4_received 53 = .ok (.tableswitch 55 0 2 #[27, 34, 48], 27) := by decide +kernel
theorem dX4_received_80 : decode cX4_received 80 = .ok (.aload 4, 2) := by decide +kernel
theorem dX4_received_82 : decode cX4_received 82 = .ok (.getfield 100, 3) := by decide +kernel
theorem dX4_received_85 : decode cX4_received 85 = .ok (.i2l, 1) := by decide +kernel
theorem dX4_received_86 : decode cX4_received 86 = .ok (.lreturn, 1) := by decide +kernel
theorem dX4_received_87 : decode cX4_received 87 = .ok (.aload 4, 2) := by decide +kernel
theorem dX4_received_89 : decode cX4_received 89 = .ok (.getfield 105, 3) := by decide +kernel
theorem dX4_received_92 : decode cX4_received 92 = .ok (.ifCond .eq 7, 3) := by decide +kernel
theorem dX4_received_95 : decode cX4_received 95 = .ok (.lconst 1, 1) := by decide +kernel
theorem dX4_received_96 : decode cX4_received 96 = .ok (.goto 4, 3) := by decide +kernel
theorem dX4_received_99 : decode cX4_received 99 = .ok (.lconst 0, 1) := by decide +kernel
theorem dX4_received_100 : decode cX4_received 100 = .ok (.lreturn, 1) := by decide +kernel
theorem dX4_received_101 : decode cX4_received 101 = .ok (.aload 4, 2) := by decide +kernel
theorem dX4_received_103 : decode cX4_received 103 = .ok (.getfield 108, 3) := by decide +kernel
theorem dX4_received_106 : decode cX4_received 106 = .ok (.i2l, 1) := by decide +kernel
theorem dX4_received_107 : decode cX4_received 107 = .ok (.lreturn, 1) := by decide +kernel
theorem dX4_received_108 : decode cX4_received 108 = .ok (.aload 4, 2) := by decide +kernel
theorem dX4_received_110 : decode cX4_received 110 = .ok (.getfield 111, 3) := by decide +kernel
theorem dX4_received_113 : decode cX4_received 113 = .ok (.lreturn, 1) := by decide +kernel
set_option maxRecDepth 20000 in
theorem ggX4_tape_X4_isNode : GoodIn wsX4_tape wsX4_isNode := goodIn_r _ [14] (by decide +kernel) (by decide +kernel)
set_option maxRecDepth 20000 in
theorem gX4_tape_X4_isNode : GoodIn wsX4_tape (va_wsS RX4 44 yX4_isNode wsX4_isNode) := goodIn_app (goodIn_of _ (by decide +kernel)) ggX4_tape_X4_isNode
set_option maxRecDepth 20000 in
theorem ggX4_tape_X2_offered : GoodIn wsX4_tape wsX2_offered := goodIn_r _ [19, 20, 21, 22, 23, 24, 25, 26, 27, 28, 29, 30, 74, 75, 76, 77, 78, 79, 80, 81, 82, 83, 84, 85, 86, 87, 88, 97, 98, 99, 100] (by decide +kernel) (by decide +kernel)
set_option maxRecDepth 20000 in
theorem gX4_tape_X2_offered : GoodIn wsX4_tape (wsV RX4 115 RX2 yX2_offered wsX2_offered) := goodIn_app (goodIn_of _ (by decide +kernel)) ggX4_tape_X2_offered
set_option maxRecDepth 20000 in
theorem ggX4_tape_X1_write : GoodIn wsX4_tape wsX1_write := goodIn_r _ [35, 36, 37, 38, 39, 40, 41, 42, 43, 44, 45, 46, 34, 47, 48, 49, 50, 51, 52, 53, 54, 55, 56, 57, 58, 59, 60, 61, 13, 62, 97, 98, 99, 100, 89, 90, 91, 92, 93, 94, 95, 96] (by decide +kernel) (by decide +kernel)
set_option maxRecDepth 20000 in
theorem gX4_tape_X1_write : GoodIn wsX4_tape (wsV RX4 123 RX1 yX1_write wsX1_write) := goodIn_app (goodIn_of _ (by decide +kernel)) ggX4_tape_X1_write
set_option maxRecDepth 20000 in
theorem ggX4_tape_X1_bitAt : GoodIn wsX4_tape wsX1_bitAt := goodIn_r _ [66, 48, 59, 89, 90, 91, 92, 93, 94, 95, 96] (by decide +kernel) (by decide +kernel)
set_option maxRecDepth 20000 in
theorem gX4_tape_X1_bitAt : GoodIn wsX4_tape (wsV RX4 130 RX1 yX1_bitAt wsX1_bitAt) := goodIn_app (goodIn_of _ (by decide +kernel)) ggX4_tape_X1_bitAt
theorem dX4_tape_0 : decode cX4_tape 0 = .ok (.iload_n 1, 1) := by decide +kernel
theorem dX4_tape_1 : decode cX4_tape 1 = .ok (.invokestatic 44, 3) := by decide +kernel
theorem dX4_tape_4 : decode cX4_tape 4 = .ok (.ifCond .ne 11, 3) := by decide +kernel
theorem dX4_tape_7 : decode cX4_tape 7 = .ok (.new 48, 3) := by decide +kernel
theorem dX4_tape_10 : decode cX4_tape 10 = .ok (.dup, 1) := by decide +kernel
theorem dX4_tape_11 : decode cX4_tape 11 = .ok (.invokespecial 50, 3) := by decide +kernel
theorem dX4_tape_14 : decode cX4_tape 14 = .ok (.athrow, 1) := by decide +kernel
theorem dX4_tape_15 : decode cX4_tape 15 = .ok (.aload_n 0, 1) := by decide +kernel
theorem dX4_tape_16 : decode cX4_tape 16 = .ok (.getfield 11, 3) := by decide +kernel
theorem dX4_tape_19 : decode cX4_tape 19 = .ok (.iload_n 1, 1) := by decide +kernel
theorem dX4_tape_20 : decode cX4_tape 20 = .ok (.aaload, 1) := by decide +kernel
theorem dX4_tape_21 : decode cX4_tape 21 = .ok (.astore_n 2, 1) := by decide +kernel
theorem dX4_tape_22 : decode cX4_tape 22 = .ok (.aload_n 2, 1) := by decide +kernel
theorem dX4_tape_23 : decode cX4_tape 23 = .ok (.invokevirtual 115, 3) := by decide +kernel
theorem dX4_tape_26 : decode cX4_tape 26 = .ok (.istore_n 3, 1) := by decide +kernel
theorem dX4_tape_27 : decode cX4_tape 27 = .ok (.iload_n 3, 1) := by decide +kernel
theorem dX4_tape_28 : decode cX4_tape 28 = .ok (.iconst (-1), 1) := by decide +kernel
theorem dX4_tape_29 : decode cX4_tape 29 = .ok (.if_icmp .ne 11, 3) := by decide +kernel
theorem dX4_tape_32 : decode cX4_tape 32 = .ok (.new 93, 3) := by decide +kernel
theorem dX4_tape_35 : decode cX4_tape 35 = .ok (.dup, 1) := by decide +kernel
theorem dX4_tape_36 : decode cX4_tape 36 = .ok (.invokespecial 95, 3) := by decide +kernel
theorem dX4_tape_39 : decode cX4_tape 39 = .ok (.athrow, 1) := by decide +kernel
theorem dX4_tape_40 : decode cX4_tape 40 = .ok (.aload_n 0, 1) := by decide +kernel
theorem dX4_tape_41 : decode cX4_tape 41 = .ok (.getfield 32, 3) := by decide +kernel
theorem dX4_tape_44 : decode cX4_tape 44 = .ok (.aload_n 2, 1) := by decide +kernel
theorem dX4_tape_45 : decode cX4_tape 45 = .ok (.getfield 119, 3) := by decide +kernel
theorem dX4_tape_48 : decode cX4_tape 48 = .ok (.iload_n 3, 1) := by decide +kernel
theorem dX4_tape_49 : decode cX4_tape 49 = .ok (.aaload, 1) := by decide +kernel
theorem dX4_tape_50 : decode cX4_tape 50 = .ok (.invokevirtual 123, 3) := by decide +kernel
theorem dX4_tape_53 : decode cX4_tape 53 = .ok (.aload_n 0, 1) := by decide +kernel
theorem dX4_tape_54 : decode cX4_tape 54 = .ok (.aload_n 0, 1) := by decide +kernel
theorem dX4_tape_55 : decode cX4_tape 55 = .ok (.getfield 32, 3) := by decide +kernel
theorem dX4_tape_58 : decode cX4_tape 58 = .ok (.getfield 127, 3) := by decide +kernel
theorem dX4_tape_61 : decode cX4_tape 61 = .ok (.putfield 26, 3) := by decide +kernel
theorem dX4_tape_64 : decode cX4_tape 64 = .ok (.iconst 0, 1) := by decide +kernel
theorem dX4_tape_65 : decode cX4_tape 65 = .ok (.istore 4, 2) := by decide +kernel
theorem dX4_tape_67 : decode cX4_tape 67 = .ok (.iload 4, 2) := by decide +kernel
theorem dX4_tape_69 : decode cX4_tape 69 = .ok (.aload_n 0, 1) := by decide +kernel
theorem dX4_tape_70 : decode cX4_tape 70 = .ok (.getfield 26, 3) := by decide +kernel
theorem dX4_tape_73 : decode cX4_tape 73 = .ok (.if_icmp .ge 25, 3) := by decide +kernel
theorem dX4_tape_76 : decode cX4_tape 76 = .ok (.aload_n 0, 1) := by decide +kernel
theorem dX4_tape_77 : decode cX4_tape 77 = .ok (.getfield 22, 3) := by decide +kernel
theorem dX4_tape_80 : decode cX4_tape 80 = .ok (.iload 4, 2) := by decide +kernel
theorem dX4_tape_82 : decode cX4_tape 82 = .ok (.aload_n 0, 1) := by decide +kernel
theorem dX4_tape_83 : decode cX4_tape 83 = .ok (.getfield 32, 3) := by decide +kernel
theorem dX4_tape_86 : decode cX4_tape 86 = .ok (.iload 4, 2) := by decide +kernel
theorem dX4_tape_88 : decode cX4_tape 88 = .ok (.invokevirtual 130, 3) := by decide +kernel
theorem dX4_tape_91 : decode cX4_tape 91 = .ok (.iastore, 1) := by decide +kernel
theorem dX4_tape_92 : decode cX4_tape 92 = .ok (.iinc 4 1, 3) := by decide +kernel
theorem dX4_tape_95 : decode cX4_tape 95 = .ok (.goto (-28), 3) := by decide +kernel
theorem dX4_tape_98 : decode cX4_tape 98 = .ok (.aload_n 0, 1) := by decide +kernel
theorem dX4_tape_99 : decode cX4_tape 99 = .ok (.getfield 26, 3) := by decide +kernel
theorem dX4_tape_102 : decode cX4_tape 102 = .ok (.ireturn, 1) := by decide +kernel
theorem dX4_put_0 : decode cX4_put 0 = .ok (.iload_n 3, 1) := by decide +kernel
theorem dX4_put_1 : decode cX4_put 1 = .ok (.iconst 1, 1) := by decide +kernel
theorem dX4_put_2 : decode cX4_put 2 = .ok (.if_icmp .lt 21, 3) := by decide +kernel
theorem dX4_put_5 : decode cX4_put 5 = .ok (.iload_n 3, 1) := by decide +kernel
theorem dX4_put_6 : decode cX4_put 6 = .ok (.bipush 64, 2) := by decide +kernel
theorem dX4_put_8 : decode cX4_put 8 = .ok (.if_icmp .gt 15, 3) := by decide +kernel
theorem dX4_put_11 : decode cX4_put 11 = .ok (.iload_n 3, 1) := by decide +kernel
theorem dX4_put_12 : decode cX4_put 12 = .ok (.sipush 200, 3) := by decide +kernel
theorem dX4_put_15 : decode cX4_put 15 = .ok (.aload_n 0, 1) := by decide +kernel
theorem dX4_put_16 : decode cX4_put 16 = .ok (.getfield 26, 3) := by decide +kernel
theorem dX4_put_19 : decode cX4_put 19 = .ok (.isub, 1) := by decide +kernel
theorem dX4_put_20 : decode cX4_put 20 = .ok (.if_icmp .le 5, 3) := by decide +kernel
theorem dX4_put_23 : decode cX4_put 23 = .ok (.iconst 0, 1) := by decide +kernel
theorem dX4_put_24 : decode cX4_put 24 = .ok (.ireturn, 1) := by decide +kernel
theorem dX4_put_25 : decode cX4_put 25 = .ok (.iconst 0, 1) := by decide +kernel
theorem dX4_put_26 : decode cX4_put 26 = .ok (.istore 4, 2) := by decide +kernel
theorem dX4_put_28 : decode cX4_put 28 = .ok (.iload 4, 2) := by decide +kernel
theorem dX4_put_30 : decode cX4_put 30 = .ok (.iload_n 3, 1) := by decide +kernel
theorem dX4_put_31 : decode cX4_put 31 = .ok (.if_icmp .ge 35, 3) := by decide +kernel
theorem dX4_put_34 : decode cX4_put 34 = .ok (.aload_n 0, 1) := by decide +kernel
theorem dX4_put_35 : decode cX4_put 35 = .ok (.getfield 22, 3) := by decide +kernel
theorem dX4_put_38 : decode cX4_put 38 = .ok (.aload_n 0, 1) := by decide +kernel
theorem dX4_put_39 : decode cX4_put 39 = .ok (.getfield 26, 3) := by decide +kernel
theorem dX4_put_42 : decode cX4_put 42 = .ok (.lload_n 1, 1) := by decide +kernel
theorem dX4_put_43 : decode cX4_put 43 = .ok (.iload 4, 2) := by decide +kernel
theorem dX4_put_45 : decode cX4_put 45 = .ok (.lushr, 1) := by decide +kernel
theorem dX4_put_46 : decode cX4_put 46 = .ok (.lconst 1, 1) := by decide +kernel
theorem dX4_put_47 : decode cX4_put 47 = .ok (.land, 1) := by decide +kernel
theorem dX4_put_48 : decode cX4_put 48 = .ok (.l2i, 1) := by decide +kernel
theorem dX4_put_49 : decode cX4_put 49 = .ok (.iastore, 1) := by decide +kernel
theorem dX4_put_50 : decode cX4_put 50 = .ok (.aload_n 0, 1) := by decide +kernel
theorem dX4_put_51 : decode cX4_put 51 = .ok (.dup, 1) := by decide +kernel
theorem dX4_put_52 : decode cX4_put 52 = .ok (.getfield 26, 3) := by decide +kernel
theorem dX4_put_55 : decode cX4_put 55 = .ok (.iconst 1, 1) := by decide +kernel
theorem dX4_put_56 : decode cX4_put 56 = .ok (.iadd, 1) := by decide +kernel
theorem dX4_put_57 : decode cX4_put 57 = .ok (.putfield 26, 3) := by decide +kernel
theorem dX4_put_60 : decode cX4_put 60 = .ok (.iinc 4 1, 3) := by decide +kernel
theorem dX4_put_63 : decode cX4_put 63 = .ok (.goto (-35), 3) := by decide +kernel
theorem dX4_put_66 : decode cX4_put 66 = .ok (.iconst 1, 1) := by decide +kernel
theorem dX4_put_67 : decode cX4_put 67 = .ok (.ireturn, 1) := by decide +kernel
set_option maxRecDepth 20000 in
theorem ggX4_bit_X4_isOnTape : GoodIn wsX4_bit wsX4_isOnTape := goodIn_r _ [8, 9, 10, 11, 12, 13, 14, 15, 16] (by decide +kernel) (by decide +kernel)
set_option maxRecDepth 20000 in
theorem gX4_bit_X4_isOnTape : GoodIn wsX4_bit (wsV RX4 133 RX4 yX4_isOnTape wsX4_isOnTape) := goodIn_app (goodIn_of _ (by decide +kernel)) ggX4_bit_X4_isOnTape
theorem dX4_bit_0 : decode cX4_bit 0 = .ok (.aload_n 0, 1) := by decide +kernel
theorem dX4_bit_1 : decode cX4_bit 1 = .ok (.iload_n 1, 1) := by decide +kernel
theorem dX4_bit_2 : decode cX4_bit 2 = .ok (.invokevirtual 133, 3) := by decide +kernel
theorem dX4_bit_5 : decode cX4_bit 5 = .ok (.ifCond .ne 11, 3) := by decide +kernel
theorem dX4_bit_8 : decode cX4_bit 8 = .ok (.new 48, 3) := by decide +kernel
theorem dX4_bit_11 : decode cX4_bit 11 = .ok (.dup, 1) := by decide +kernel
theorem dX4_bit_12 : decode cX4_bit 12 = .ok (.invokespecial 50, 3) := by decide +kernel
theorem dX4_bit_15 : decode cX4_bit 15 = .ok (.athrow, 1) := by decide +kernel
theorem dX4_bit_16 : decode cX4_bit 16 = .ok (.aload_n 0, 1) := by decide +kernel
theorem dX4_bit_17 : decode cX4_bit 17 = .ok (.getfield 22, 3) := by decide +kernel
theorem dX4_bit_20 : decode cX4_bit 20 = .ok (.iload_n 1, 1) := by decide +kernel
theorem dX4_bit_21 : decode cX4_bit 21 = .ok (.iaload, 1) := by decide +kernel
theorem dX4_bit_22 : decode cX4_bit 22 = .ok (.ireturn, 1) := by decide +kernel
set_option maxRecDepth 20000 in
theorem ggX4_flip_X4_isOnTape : GoodIn wsX4_flip wsX4_isOnTape := goodIn_r _ [8, 9, 10, 11, 12, 13, 14, 15, 16] (by decide +kernel) (by decide +kernel)
set_option maxRecDepth 20000 in
theorem gX4_flip_X4_isOnTape : GoodIn wsX4_flip (wsV RX4 133 RX4 yX4_isOnTape wsX4_isOnTape) := goodIn_app (goodIn_of _ (by decide +kernel)) ggX4_flip_X4_isOnTape
theorem dX4_flip_0 : decode cX4_flip 0 = .ok (.aload_n 0, 1) := by decide +kernel
theorem dX4_flip_1 : decode cX4_flip 1 = .ok (.iload_n 1, 1) := by decide +kernel
theorem dX4_flip_2 : decode cX4_flip 2 = .ok (.invokevirtual 133, 3) := by decide +kernel
theorem dX4_flip_5 : decode cX4_flip 5 = .ok (.ifCond .ne 11, 3) := by decide +kernel
theorem dX4_flip_8 : decode cX4_flip 8 = .ok (.new 48, 3) := by decide +kernel
theorem dX4_flip_11 : decode cX4_flip 11 = .ok (.dup, 1) := by decide +kernel
theorem dX4_flip_12 : decode cX4_flip 12 = .ok (.invokespecial 50, 3) := by decide +kernel
theorem dX4_flip_15 : decode cX4_flip 15 = .ok (.athrow, 1) := by decide +kernel
theorem dX4_flip_16 : decode cX4_flip 16 = .ok (.aload_n 0, 1) := by decide +kernel
theorem dX4_flip_17 : decode cX4_flip 17 = .ok (.getfield 22, 3) := by decide +kernel
theorem dX4_flip_20 : decode cX4_flip 20 = .ok (.iload_n 1, 1) := by decide +kernel
theorem dX4_flip_21 : decode cX4_flip 21 = .ok (.iconst 1, 1) := by decide +kernel
theorem dX4_flip_22 : decode cX4_flip 22 = .ok (.aload_n 0, 1) := by decide +kernel
theorem dX4_flip_23 : decode cX4_flip 23 = .ok (.getfield 22, 3) := by decide +kernel
theorem dX4_flip_26 : decode cX4_flip 26 = .ok (.iload_n 1, 1) := by decide +kernel
theorem dX4_flip_27 : decode cX4_flip 27 = .ok (.iaload, 1) := by decide +kernel
theorem dX4_flip_28 : decode cX4_flip 28 = .ok (.isub, 1) := by decide +kernel
theorem dX4_flip_29 : decode cX4_flip 29 = .ok (.iastore, 1) := by decide +kernel
theorem dX4_flip_30 : decode cX4_flip 30 = .ok (.return_, 1) := by decide +kernel
theorem dX4_wipe_0 : decode cX4_wipe 0 = .ok (.aload_n 0, 1) := by decide +kernel
theorem dX4_wipe_1 : decode cX4_wipe 1 = .ok (.getfield 26, 3) := by decide +kernel
theorem dX4_wipe_4 : decode cX4_wipe 4 = .ok (.istore_n 1, 1) := by decide +kernel
theorem dX4_wipe_5 : decode cX4_wipe 5 = .ok (.aload_n 0, 1) := by decide +kernel
theorem dX4_wipe_6 : decode cX4_wipe 6 = .ok (.iconst 0, 1) := by decide +kernel
theorem dX4_wipe_7 : decode cX4_wipe 7 = .ok (.putfield 26, 3) := by decide +kernel
theorem dX4_wipe_10 : decode cX4_wipe 10 = .ok (.iload_n 1, 1) := by decide +kernel
theorem dX4_wipe_11 : decode cX4_wipe 11 = .ok (.ireturn, 1) := by decide +kernel
set_option maxRecDepth 20000 in
theorem ggX4_read_X3_begin : GoodIn wsX4_read wsX3_begin := goodIn_r _ [8, 9, 10, 11, 12, 13, 14, 15, 16, 17, 18, 19, 20, 21, 22, 23, 24, 25, 26, 77, 78, 79, 80, 81, 82, 83, 84, 85, 86, 87, 88, 89] (by decide +kernel) (by decide +kernel)
set_option maxRecDepth 20000 in
theorem gX4_read_X3_begin : GoodIn wsX4_read (wsV RX4 136 RX3 yX3_begin wsX3_begin) := goodIn_app (goodIn_of _ (by decide +kernel)) ggX4_read_X3_begin
set_option maxRecDepth 20000 in
theorem ggX4_read_X3_isFinished : GoodIn wsX4_read wsX3_isFinished := goodIn_r _ [30, 11, 77, 78, 79, 80, 81, 82, 83, 84, 85] (by decide +kernel) (by decide +kernel)
set_option maxRecDepth 20000 in
theorem gX4_read_X3_isFinished : GoodIn wsX4_read (wsV RX4 139 RX3 yX3_isFinished wsX3_isFinished) := goodIn_app (goodIn_of _ (by decide +kernel)) ggX4_read_X3_isFinished
set_option maxRecDepth 20000 in
theorem ggX4_read_X3_take : GoodIn wsX4_read wsX3_take := goodIn_r _ [34, 10, 12, 13, 35, 36, 37, 7, 38, 17, 39, 40, 41, 42, 11, 14, 15, 43, 44, 45, 46, 16, 47, 48, 49, 50, 51, 52, 53, 9, 54, 55, 56, 57, 58, 59, 60, 61, 62, 63, 64, 65, 66, 67, 68, 69, 77, 78, 79, 80, 81, 82, 83, 84, 85, 86, 87, 88, 89] (by decide +kernel) (by decide +kernel)
set_option maxRecDepth 20000 in
theorem gX4_read_X3_take : GoodIn wsX4_read (wsV RX4 143 RX3 yX3_take wsX3_take) := goodIn_app (goodIn_of _ (by decide +kernel)) ggX4_read_X3_take
theorem dX4_read_0 : decode cX4_read 0 = .ok (.aload_n 0, 1) := by decide +kernel
theorem dX4_read_1 : decode cX4_read 1 = .ok (.getfield 39, 3) := by decide +kernel
theorem dX4_read_4 : decode cX4_read 4 = .ok (.invokevirtual 136, 3) := by decide +kernel
theorem dX4_read_7 : decode cX4_read 7 = .ok (.iconst 0, 1) := by decide +kernel
theorem dX4_read_8 : decode cX4_read 8 = .ok (.istore_n 1, 1) := by decide +kernel
theorem dX4_read_9 : decode cX4_read 9 = .ok (.iload_n 1, 1) := by decide +kernel
theorem dX4_read_10 : decode cX4_read 10 = .ok (.aload_n 0, 1) := by decide +kernel
theorem dX4_read_11 : decode cX4_read 11 = .ok (.getfield 26, 3) := by decide +kernel
theorem dX4_read_14 : decode cX4_read 14 = .ok (.if_icmp .ge 51, 3) := by decide +kernel
theorem dX4_read_17 : decode cX4_read 17 = .ok (.aload_n 0, 1) := by decide +kernel
theorem dX4_read_18 : decode cX4_read 18 = .ok (.getfield 39, 3) := by decide +kernel
theorem dX4_read_21 : decode cX4_read 21 = .ok (.invokevirtual 139, 3) := by decide +kernel
theorem dX4_read_24 : decode cX4_read 24 = .ok (.ifCond .eq 9, 3) := by decide +kernel
theorem dX4_read_27 : decode cX4_read 27 = .ok (.sipush 5000, 3) := by decide +kernel
theorem dX4_read_30 : decode cX4_read 30 = .ok (.iload_n 1, 1) := by decide +kernel
theorem dX4_read_31 : decode cX4_read 31 = .ok (.iadd, 1) := by decide +kernel
theorem dX4_read_32 : decode cX4_read 32 = .ok (.ireturn, 1) := by decide +kernel
theorem dX4_read_33 : decode cX4_read 33 = .ok (.aload_n 0, 1) := by decide +kernel
theorem dX4_read_34 : decode cX4_read 34 = .ok (.getfield 39, 3) := by decide +kernel
theorem dX4_read_37 : decode cX4_read 37 = .ok (.aload_n 0, 1) := by decide +kernel
theorem dX4_read_38 : decode cX4_read 38 = .ok (.getfield 22, 3) := by decide +kernel
theorem dX4_read_41 : decode cX4_read 41 = .ok (.iload_n 1, 1) := by decide +kernel
theorem dX4_read_42 : decode cX4_read 42 = .ok (.iaload, 1) := by decide +kernel
theorem dX4_read_43 : decode cX4_read 43 = .ok (.invokevirtual 143, 3) := by decide +kernel
theorem dX4_read_46 : decode cX4_read 46 = .ok (.istore_n 2, 1) := by decide +kernel
theorem dX4_read_47 : decode cX4_read 47 = .ok (.iload_n 2, 1) := by decide +kernel
theorem dX4_read_48 : decode cX4_read 48 = .ok (.ifCond .eq 11, 3) := by decide +kernel
theorem dX4_read_51 : decode cX4_read 51 = .ok (.sipush 1000, 3) := by decide +kernel
theorem dX4_read_54 : decode cX4_read 54 = .ok (.iload_n 2, 1) := by decide +kernel
theorem dX4_read_55 : decode cX4_read 55 = .ok (.imul, 1) := by decide +kernel
theorem dX4_read_56 : decode cX4_read 56 = .ok (.iload_n 1, 1) := by decide +kernel
theorem dX4_read_57 : decode cX4_read 57 = .ok (.iadd, 1) := by decide +kernel
theorem dX4_read_58 : decode cX4_read 58 = .ok (.ireturn, 1) := by decide +kernel
theorem dX4_read_59 : decode cX4_read 59 = .ok (.iinc 1 1, 3) := by decide +kernel
theorem dX4_read_62 : decode cX4_read 62 = .ok (.goto (-53), 3) := by decide +kernel
theorem dX4_read_65 : decode cX4_read 65 = .ok (.aload_n 0, 1) := by decide +kernel
theorem dX4_read_66 : decode cX4_read 66 = .ok (.getfield 39, 3) := by decide +kernel
theorem dX4_read_69 : decode cX4_read 69 = .ok (.invokevirtual 139, 3) := by decide +kernel
theorem dX4_read_72 : decode cX4_read 72 = .ok (.ifCond .eq 7, 3) := by decide +kernel
theorem dX4_read_75 : decode cX4_read 75 = .ok (.iconst 0, 1) := by decide +kernel
theorem dX4_read_76 : decode cX4_read 76 = .ok (.goto 11, 3) := by decide +kernel
theorem dX4_read_79 : decode cX4_read 79 = .ok (.sipush 4000, 3) := by decide +kernel
theorem dX4_read_82 : decode cX4_read 82 = .ok (.aload_n 0, 1) := by decide +kernel
theorem dX4_read_83 : decode cX4_read 83 = .ok (.getfield 26, 3) := by decide +kernel
theorem dX4_read_86 : decode cX4_read 86 = .ok (.iadd, 1) := by decide +kernel
theorem dX4_read_87 : decode cX4_read 87 = .ok (.ireturn, 1) := by decide +kernel
theorem dX4_isNode_0 : decode cX4_isNode 0 = .ok (.iload_n 0, 1) := by decide +kernel
theorem dX4_isNode_1 : decode cX4_isNode 1 = .ok (.ifCond .lt 12, 3) := by decide +kernel
theorem dX4_isNode_4 : decode cX4_isNode 4 = .ok (.iload_n 0, 1) := by decide +kernel
theorem dX4_isNode_5 : decode cX4_isNode 5 = .ok (.iconst 4, 1) := by decide +kernel
theorem dX4_isNode_6 : decode cX4_isNode 6 = .ok (.if_icmp .ge 7, 3) := by decide +kernel
theorem dX4_isNode_9 : decode cX4_isNode 9 = .ok (.iconst 1, 1) := by decide +kernel
theorem dX4_isNode_10 : decode cX4_isNode 10 = .ok (.goto 4, 3) := by decide +kernel
theorem dX4_isNode_13 : decode cX4_isNode 13 = .ok (.iconst 0, 1) := by decide +kernel
theorem dX4_isNode_14 : decode cX4_isNode 14 = .ok (.ireturn, 1) := by decide +kernel
theorem dX4_isOnTape_0 : decode cX4_isOnTape 0 = .ok (.iload_n 1, 1) := by decide +kernel
theorem dX4_isOnTape_1 : decode cX4_isOnTape 1 = .ok (.ifCond .lt 15, 3) := by decide +kernel
theorem dX4_isOnTape_4 : decode cX4_isOnTape 4 = .ok (.iload_n 1, 1) := by decide +kernel
theorem dX4_isOnTape_5 : decode cX4_isOnTape 5 = .ok (.aload_n 0, 1) := by decide +kernel
theorem dX4_isOnTape_6 : decode cX4_isOnTape 6 = .ok (.getfield 26, 3) := by decide +kernel
theorem dX4_isOnTape_9 : decode cX4_isOnTape 9 = .ok (.if_icmp .ge 7, 3) := by decide +kernel
theorem dX4_isOnTape_12 : decode cX4_isOnTape 12 = .ok (.iconst 1, 1) := by decide +kernel
theorem dX4_isOnTape_13 : decode cX4_isOnTape 13 = .ok (.goto 4, 3) := by decide +kernel
theorem dX4_isOnTape_16 : decode cX4_isOnTape 16 = .ok (.iconst 0, 1) := by decide +kernel
theorem dX4_isOnTape_17 : decode cX4_isOnTape 17 = .ok (.ireturn, 1) := by decide +kernel
set_option maxRecDepth 20000 in
theorem ggX4_oneStep_X4_brokenStep : GoodIn wsX4_oneStep wsX4_brokenStep := goodIn_r _ [6, 7, 8, 9, 10, 5, 11, 1, 222, 223, 224, 225, 226, 227, 228] (by decide +kernel) (by decide +kernel)
set_option maxRecDepth 20000 in
theorem gX4_oneStep_X4_brokenStep : GoodIn wsX4_oneStep (wsV RX4 146 RX4 yX4_brokenStep wsX4_brokenStep) := goodIn_app (goodIn_of _ (by decide +kernel)) ggX4_oneStep_X4_brokenStep
set_option maxRecDepth 20000 in
theorem ggX4_oneStep_X4_pauseStep : GoodIn wsX4_oneStep wsX4_pauseStep := goodIn_r _ [15, 7, 1, 222, 223, 224, 225, 226, 227, 228] (by decide +kernel) (by decide +kernel)
set_option maxRecDepth 20000 in
theorem gX4_oneStep_X4_pauseStep : GoodIn wsX4_oneStep (wsV RX4 149 RX4 yX4_pauseStep wsX4_pauseStep) := goodIn_app (goodIn_of _ (by decide +kernel)) ggX4_oneStep_X4_pauseStep
set_option maxRecDepth 20000 in
theorem ggX4_oneStep_X4_startSenders : GoodIn wsX4_oneStep wsX4_startSenders := goodIn_r _ [19, 20, 21, 22, 23, 24, 25, 26, 27, 28, 29, 30, 31, 32, 33, 34, 35, 36, 37, 38, 39, 40, 41, 42, 43, 44, 45, 46, 47, 48, 49, 50, 51, 52, 53, 54, 55, 56, 57, 58, 59, 60, 61, 62, 63, 64, 65, 66, 67, 68, 69, 70, 71, 72, 73, 74, 75, 76, 77, 5, 78, 79, 80, 81, 82, 83, 84, 85, 86, 87, 88, 89, 90, 91, 92, 93, 94, 95, 96, 97, 98, 222, 223, 224, 225, 226, 227, 228, 229, 230, 231, 232, 233, 234, 235, 236, 237, 238, 239, 240, 241, 242, 243, 244, 245, 246, 247, 248, 249, 250, 251, 252, 253, 254, 255, 256, 257, 258, 259, 260, 261, 262, 263, 264] (by decide +kernel) (by decide +kernel)
set_option maxRecDepth 20000 in
theorem gX4_oneStep_X4_startSenders : GoodIn wsX4_oneStep (wsV RX4 152 RX4 yX4_startSenders wsX4_startSenders) := goodIn_app (goodIn_of _ (by decide +kernel)) ggX4_oneStep_X4_startSenders
set_option maxRecDepth 20000 in
theorem ggX4_oneStep_X4_levelSent : GoodIn wsX4_oneStep wsX4_levelSent := goodIn_r _ [102, 20, 103, 104, 105, 24, 106, 27, 30, 29, 32, 107, 108, 109, 50, 110, 64, 75, 111, 112, 113, 82, 114, 86, 89, 90, 115, 116, 117, 118, 85, 92, 222, 223, 224, 225, 226, 227, 228, 229, 230, 231, 232, 233, 234, 235, 236, 237, 238, 239, 240, 241, 242, 243, 248, 249, 250, 251, 252, 253, 254, 255, 256, 257, 258, 259, 260, 261, 262, 263, 264] (by decide +kernel) (by decide +kernel)
set_option maxRecDepth 20000 in
theorem gX4_oneStep_X4_levelSent : GoodIn wsX4_oneStep (wsV RX4 155 RX4 yX4_levelSent wsX4_levelSent) := goodIn_app (goodIn_of _ (by decide +kernel)) ggX4_oneStep_X4_levelSent
set_option maxRecDepth 20000 in
theorem ggX4_oneStep_X4_someFindFaults : GoodIn wsX4_oneStep wsX4_someFindFaults := goodIn_r _ [122, 20, 123, 124, 125, 126, 24, 127, 128, 26, 27, 32, 79, 80, 81, 82, 83, 84, 85, 86, 87, 88, 89, 90, 91, 92, 93, 94, 95, 41, 96, 43, 44, 97, 98, 129, 130, 131, 132, 30, 29, 133, 134, 135, 50, 136, 64, 107, 108, 109, 110, 75, 137, 138, 139, 140, 76, 55, 141, 142, 143, 144, 115, 116, 117, 118, 145, 146, 147, 148, 149, 150, 151, 152, 77, 5, 78, 153, 154, 155, 156, 157, 158, 159, 160, 161, 162, 163, 164, 165, 166, 167, 168, 169, 170, 171, 172, 222, 223, 224, 225, 226, 227, 228, 229, 230, 231, 232, 233, 234, 235, 236, 237, 238, 239, 240, 241, 242, 243, 256, 257, 258, 259, 260, 261, 262, 263, 264, 244, 245, 246, 247, 248, 249, 250, 251, 252, 253, 254, 255] (by decide +kernel) (by decide +kernel)
set_option maxRecDepth 20000 in
theorem gX4_oneStep_X4_someFindFaults : GoodIn wsX4_oneStep (wsV RX4 158 RX4 yX4_someFindFaults wsX4_someFindFaults) := goodIn_app (goodIn_of _ (by decide +kernel)) ggX4_oneStep_X4_someFindFaults
set_option maxRecDepth 20000 in
theorem ggX4_oneStep_X4_breakOff : GoodIn wsX4_oneStep wsX4_breakOff := goodIn_r _ [176, 20, 1, 7, 177, 178, 179, 24, 180, 128, 181, 27, 182, 183, 26, 222, 223, 224, 225, 226, 227, 228, 229, 230, 231, 232, 233, 234, 235, 236, 237, 238, 239, 240, 241, 242, 243] (by decide +kernel) (by decide +kernel)
set_option maxRecDepth 20000 in
theorem gX4_oneStep_X4_breakOff : GoodIn wsX4_oneStep (wsV RX4 162 RX4 yX4_breakOff wsX4_breakOff) := goodIn_app (goodIn_of _ (by decide +kernel)) ggX4_oneStep_X4_breakOff
set_option maxRecDepth 20000 in
theorem ggX4_oneStep_X4_goOn : GoodIn wsX4_oneStep wsX4_goOn := goodIn_r _ [187, 20, 188, 1, 189, 190, 191, 24, 192, 27, 29, 30, 193, 32, 194, 195, 196, 197, 198, 182, 199, 200, 166, 201, 28, 202, 203, 204, 205, 37, 31, 206, 207, 208, 82, 209, 86, 210, 211, 212, 213, 214, 183, 215, 216, 217, 218, 219, 220, 221, 94, 95, 41, 96, 43, 44, 97, 98, 8, 9, 10, 5, 11, 7, 222, 223, 224, 225, 226, 227, 228, 229, 230, 231, 232, 233, 234, 235, 236, 237, 238, 239, 240, 241, 242, 243, 248, 249, 250, 251, 252, 253, 254, 255, 256, 257, 258, 259, 260, 261, 262, 263, 264, 244, 245, 246, 247] (by decide +kernel) (by decide +kernel)
set_option maxRecDepth 20000 in
theorem gX4_oneStep_X4_goOn : GoodIn wsX4_oneStep (wsV RX4 165 RX4 yX4_goOn wsX4_goOn) := goodIn_app (goodIn_of _ (by decide +kernel)) ggX4_oneStep_X4_goOn
theorem dX4_oneStep_0 : decode cX4_oneStep 0 = .ok (.aload_n 0, 1) := by decide +kernel
theorem dX4_oneStep_1 : decode cX4_oneStep 1 = .ok (.getfield 15, 3) := by decide +kernel
theorem dX4_oneStep_4 : decode cX4_oneStep 4 = .ok (.iconst 2, 1) := by decide +kernel
theorem dX4_oneStep_5 : decode cX4_oneStep 5 = .ok (.if_icmp .ne 8, 3) := by decide +kernel
theorem dX4_oneStep_8 : decode cX4_oneStep 8 = .ok (.aload_n 0, 1) := by decide +kernel
theorem dX4_oneStep_9 : decode cX4_oneStep 9 = .ok (.invokevirtual 146, 3) := by decide +kernel
theorem dX4_oneStep_12 : decode cX4_oneStep 12 = .ok (.ireturn, 1) := by decide +kernel
theorem dX4_oneStep_13 : decode cX4_oneStep 13 = .ok (.aload_n 0, 1) := by decide +kernel
theorem dX4_oneStep_14 : decode cX4_oneStep 14 = .ok (.getfield 15, 3) := by decide +kernel
theorem dX4_oneStep_17 : decode cX4_oneStep 17 = .ok (.iconst 3, 1) := by decide +kernel
theorem dX4_oneStep_18 : decode cX4_oneStep 18 = .ok (.if_icmp .ne 8, 3) := by decide +kernel
theorem dX4_oneStep_21 : decode cX4_oneStep 21 = .ok (.aload_n 0, 1) := by decide +kernel
theorem dX4_oneStep_22 : decode cX4_oneStep 22 = .ok (.invokevirtual 149, 3) := by decide +kernel
theorem dX4_oneStep_25 : decode cX4_oneStep 25 = .ok (.ireturn, 1) := by decide +kernel
theorem dX4_oneStep_26 : decode cX4_oneStep 26 = .ok (.aload_n 0, 1) := by decide +kernel
theorem dX4_oneStep_27 : decode cX4_oneStep 27 = .ok (.getfield 15, 3) := by decide +kernel
theorem dX4_oneStep_30 : decode cX4_oneStep 30 = .ok (.ifCond .ne 7, 3) := by decide +kernel
theorem dX4_oneStep_33 : decode cX4_oneStep 33 = .ok (.aload_n 0, 1) := by decide +kernel
theorem dX4_oneStep_34 : decode cX4_oneStep 34 = .ok (.invokevirtual 152, 3) := by decide +kernel
theorem dX4_oneStep_37 : decode cX4_oneStep 37 = .ok (.aload_n 0, 1) := by decide +kernel
theorem dX4_oneStep_38 : decode cX4_oneStep 38 = .ok (.invokevirtual 155, 3) := by decide +kernel
theorem dX4_oneStep_41 : decode cX4_oneStep 41 = .ok (.istore_n 2, 1) := by decide +kernel
theorem dX4_oneStep_42 : decode cX4_oneStep 42 = .ok (.aload_n 0, 1) := by decide +kernel
theorem dX4_oneStep_43 : decode cX4_oneStep 43 = .ok (.iload_n 2, 1) := by decide +kernel
theorem dX4_oneStep_44 : decode cX4_oneStep 44 = .ok (.iload_n 1, 1) := by decide +kernel
theorem dX4_oneStep_45 : decode cX4_oneStep 45 = .ok (.invokevirtual 158, 3) := by decide +kernel
theorem dX4_oneStep_48 : decode cX4_oneStep 48 = .ok (.ifCond .eq 10, 3) := by decide +kernel
theorem dX4_oneStep_51 : decode cX4_oneStep 51 = .ok (.aload_n 0, 1) := by decide +kernel
theorem dX4_oneStep_52 : decode cX4_oneStep 52 = .ok (.invokevirtual 162, 3) := by decide +kernel
theorem dX4_oneStep_55 : decode cX4_oneStep 55 = .ok (.goto 7, 3) := by decide +kernel
theorem dX4_oneStep_58 : decode cX4_oneStep 58 = .ok (.aload_n 0, 1) := by decide +kernel
theorem dX4_oneStep_59 : decode cX4_oneStep 59 = .ok (.invokevirtual 165, 3) := by decide +kernel
theorem dX4_oneStep_62 : decode cX4_oneStep 62 = .ok (.iload_n 2, 1) := by decide +kernel
theorem dX4_oneStep_63 : decode cX4_oneStep 63 = .ok (.ireturn, 1) := by decide +kernel
set_option maxRecDepth 20000 in
theorem ggX4_brokenStep_X4_beginPause : GoodIn wsX4_brokenStep wsX4_beginPause := goodIn_r _ [6, 7, 1, 8, 9, 10, 11, 12, 13, 14] (by decide +kernel) (by decide +kernel)
set_option maxRecDepth 20000 in
theorem gX4_brokenStep_X4_beginPause : GoodIn wsX4_brokenStep (wsV RX4 168 RX4 yX4_beginPause wsX4_beginPause) := goodIn_app (goodIn_of _ (by decide +kernel)) ggX4_brokenStep_X4_beginPause
theorem dX4_brokenStep_0 : decode cX4_brokenStep 0 = .ok (.aload_n 0, 1) := by decide +kernel
theorem dX4_brokenStep_1 : decode cX4_brokenStep 1 = .ok (.getfield 19, 3) := by decide +kernel
theorem dX4_brokenStep_4 : decode cX4_brokenStep 4 = .ok (.bipush 8, 2) := by decide +kernel
theorem dX4_brokenStep_6 : decode cX4_brokenStep 6 = .ok (.if_icmp .le 7, 3) := by decide +kernel
theorem dX4_brokenStep_9 : decode cX4_brokenStep 9 = .ok (.iconst 0, 1) := by decide +kernel
theorem dX4_brokenStep_10 : decode cX4_brokenStep 10 = .ok (.goto 4, 3) := by decide +kernel
theorem dX4_brokenStep_13 : decode cX4_brokenStep 13 = .ok (.iconst 1, 1) := by decide +kernel
theorem dX4_brokenStep_14 : decode cX4_brokenStep 14 = .ok (.istore_n 1, 1) := by decide +kernel
theorem dX4_brokenStep_15 : decode cX4_brokenStep 15 = .ok (.aload_n 0, 1) := by decide +kernel
theorem dX4_brokenStep_16 : decode cX4_brokenStep 16 = .ok (.dup, 1) := by decide +kernel
theorem dX4_brokenStep_17 : decode cX4_brokenStep 17 = .ok (.getfield 19, 3) := by decide +kernel
theorem dX4_brokenStep_20 : decode cX4_brokenStep 20 = .ok (.iconst 1, 1) := by decide +kernel
theorem dX4_brokenStep_21 : decode cX4_brokenStep 21 = .ok (.isub, 1) := by decide +kernel
theorem dX4_brokenStep_22 : decode cX4_brokenStep 22 = .ok (.putfield 19, 3) := by decide +kernel
theorem dX4_brokenStep_25 : decode cX4_brokenStep 25 = .ok (.aload_n 0, 1) := by decide +kernel
theorem dX4_brokenStep_26 : decode cX4_brokenStep 26 = .ok (.getfield 19, 3) := by decide +kernel
theorem dX4_brokenStep_29 : decode cX4_brokenStep 29 = .ok (.ifCond .ne 7, 3) := by decide +kernel
theorem dX4_brokenStep_32 : decode cX4_brokenStep 32 = .ok (.aload_n 0, 1) := by decide +kernel
theorem dX4_brokenStep_33 : decode cX4_brokenStep 33 = .ok (.invokevirtual 168, 3) := by decide +kernel
theorem dX4_brokenStep_36 : decode cX4_brokenStep 36 = .ok (.iload_n 1, 1) := by decide +kernel
theorem dX4_brokenStep_37 : decode cX4_brokenStep 37 = .ok (.ireturn, 1) := by decide +kernel
theorem dX4_pauseStep_0 : decode cX4_pauseStep 0 = .ok (.aload_n 0, 1) := by decide +kernel
theorem dX4_pauseStep_1 : decode cX4_pauseStep 1 = .ok (.dup, 1) := by decide +kernel
theorem dX4_pauseStep_2 : decode cX4_pauseStep 2 = .ok (.getfield 19, 3) := by decide +kernel
theorem dX4_pauseStep_5 : decode cX4_pauseStep 5 = .ok (.iconst 1, 1) := by decide +kernel
theorem dX4_pauseStep_6 : decode cX4_pauseStep 6 = .ok (.isub, 1) := by decide +kernel
theorem dX4_pauseStep_7 : decode cX4_pauseStep 7 = .ok (.putfield 19, 3) := by decide +kernel
theorem dX4_pauseStep_10 : decode cX4_pauseStep 10 = .ok (.aload_n 0, 1) := by decide +kernel
theorem dX4_pauseStep_11 : decode cX4_pauseStep 11 = .ok (.getfield 19, 3) := by decide +kernel
theorem dX4_pauseStep_14 : decode cX4_pauseStep 14 = .ok (.ifCond .ne 8, 3) := by decide +kernel
theorem dX4_pauseStep_17 : decode cX4_pauseStep 17 = .ok (.aload_n 0, 1) := by decide +kernel
theorem dX4_pauseStep_18 : decode cX4_pauseStep 18 = .ok (.iconst 0, 1) := by decide +kernel
theorem dX4_pauseStep_19 : decode cX4_pauseStep 19 = .ok (.putfield 15, 3) := by decide +kernel
theorem dX4_pauseStep_22 : decode cX4_pauseStep 22 = .ok (.iconst 1, 1) := by decide +kernel
theorem dX4_pauseStep_23 : decode cX4_pauseStep 23 = .ok (.ireturn, 1) := by decide +kernel
theorem dX4_beginPause_0 : decode cX4_beginPause 0 = .ok (.aload_n 0, 1) := by decide +kernel
theorem dX4_beginPause_1 : decode cX4_beginPause 1 = .ok (.iconst 3, 1) := by decide +kernel
theorem dX4_beginPause_2 : decode cX4_beginPause 2 = .ok (.putfield 15, 3) := by decide +kernel
theorem dX4_beginPause_5 : decode cX4_beginPause 5 = .ok (.aload_n 0, 1) := by decide +kernel
theorem dX4_beginPause_6 : decode cX4_beginPause 6 = .ok (.iconst 3, 1) := by decide +kernel
theorem dX4_beginPause_7 : decode cX4_beginPause 7 = .ok (.putfield 19, 3) := by decide +kernel
theorem dX4_beginPause_10 : decode cX4_beginPause 10 = .ok (.return_, 1) := by decide +kernel
set_option maxRecDepth 20000 in
theorem ggX4_startSenders_X2_startSending : GoodIn wsX4_startSenders wsX2_startSending := goodIn_r _ [6, 7, 8, 9, 10, 11, 12, 13, 14, 15, 16, 5, 17, 18, 19, 20, 21, 22, 23, 24, 25, 26, 27, 28, 29, 30, 31, 32, 33, 34, 35, 36, 37, 38, 39, 40, 41, 42, 43, 44, 45, 46, 47, 48, 49, 50, 51, 52, 53, 54, 55, 56, 57, 58, 59, 60, 61, 62, 63, 64, 65, 66, 67, 68, 69, 70, 71, 72, 73, 74, 75, 76, 77, 78, 79, 80, 88, 89, 90, 91, 92, 93, 94, 95, 96, 97, 98, 99, 100, 101, 102, 103, 104, 105, 106, 107, 108, 109, 110, 111, 112, 113, 114, 115, 116, 117, 118, 119, 120, 121, 122, 123] (by decide +kernel) (by decide +kernel)
set_option maxRecDepth 20000 in
theorem gX4_startSenders_X2_startSending : GoodIn wsX4_startSenders (wsV RX4 171 RX2 yX2_startSending wsX2_startSending) := goodIn_app (goodIn_of _ (by decide +kernel)) ggX4_startSenders_X2_startSending
theorem dX4_startSenders_0 : decode cX4_startSenders 0 = .ok (.iconst 0, 1) := by decide +kernel
theorem dX4_startSenders_1 : decode cX4_startSenders 1 = .ok (.istore_n 1, 1) := by decide +kernel
theorem dX4_startSenders_2 : decode cX4_startSenders 2 = .ok (.iload_n 1, 1) := by decide +kernel
theorem dX4_startSenders_3 : decode cX4_startSenders 3 = .ok (.iconst 4, 1) := by decide +kernel
theorem dX4_startSenders_4 : decode cX4_startSenders 4 = .ok (.if_icmp .ge 18, 3) := by decide +kernel
theorem dX4_startSenders_7 : decode cX4_startSenders 7 = .ok (.aload_n 0, 1) := by decide +kernel
theorem dX4_startSenders_8 : decode cX4_startSenders 8 = .ok (.getfield 11, 3) := by decide +kernel
theorem dX4_startSenders_11 : decode cX4_startSenders 11 = .ok (.iload_n 1, 1) := by decide +kernel
theorem dX4_startSenders_12 : decode cX4_startSenders 12 = .ok (.aaload, 1) := by decide +kernel
theorem dX4_startSenders_13 : decode cX4_startSenders 13 = .ok (.invokevirtual 171, 3) := by decide +kernel
theorem dX4_startSenders_16 : decode cX4_startSenders 16 = .ok (.iinc 1 1, 3) := by decide +kernel
theorem dX4_startSenders_19 : decode cX4_startSenders 19 = .ok (.goto (-17), 3) := by decide +kernel
theorem dX4_startSenders_22 : decode cX4_startSenders 22 = .ok (.return_, 1) := by decide +kernel
set_option maxRecDepth 20000 in
theorem ggX4_levelSent_X2_bitToSend : GoodIn wsX4_levelSent wsX2_bitToSend := goodIn_r _ [6, 7, 8, 9, 10, 11, 12, 13, 14, 15, 16, 17, 18, 19, 20, 21, 22, 23, 24, 25, 26, 27, 28, 29, 30, 31, 39, 40, 41, 42, 43, 44, 45, 46, 47, 48, 49, 50, 51, 52, 53, 54, 55, 56, 57, 58, 59, 60, 61, 62, 63, 64, 65, 66, 67, 68, 69, 70] (by decide +kernel) (by decide +kernel)
set_option maxRecDepth 20000 in
theorem gX4_levelSent_X2_bitToSend : GoodIn wsX4_levelSent (wsV RX4 174 RX2 yX2_bitToSend wsX2_bitToSend) := goodIn_app (goodIn_of _ (by decide +kernel)) ggX4_levelSent_X2_bitToSend
theorem dX4_levelSent_0 : decode cX4_levelSent 0 = .ok (.iconst 1, 1) := by decide +kernel
theorem dX4_levelSent_1 : decode cX4_levelSent 1 = .ok (.istore_n 1, 1) := by decide +kernel
theorem dX4_levelSent_2 : decode cX4_levelSent 2 = .ok (.iconst 0, 1) := by decide +kernel
theorem dX4_levelSent_3 : decode cX4_levelSent 3 = .ok (.istore_n 2, 1) := by decide +kernel
theorem dX4_levelSent_4 : decode cX4_levelSent 4 = .ok (.iload_n 2, 1) := by decide +kernel
theorem dX4_levelSent_5 : decode cX4_levelSent 5 = .ok (.iconst 4, 1) := by decide +kernel
theorem dX4_levelSent_6 : decode cX4_levelSent 6 = .ok (.if_icmp .ge 21, 3) := by decide +kernel
theorem dX4_levelSent_9 : decode cX4_levelSent 9 = .ok (.iload_n 1, 1) := by decide +kernel
theorem dX4_levelSent_10 : decode cX4_levelSent 10 = .ok (.aload_n 0, 1) := by decide +kernel
theorem dX4_levelSent_11 : decode cX4_levelSent 11 = .ok (.getfield 11, 3) := by decide +kernel
theorem dX4_levelSent_14 : decode cX4_levelSent 14 = .ok (.iload_n 2, 1) := by decide +kernel
theorem dX4_levelSent_15 : decode cX4_levelSent 15 = .ok (.aaload, 1) := by decide +kernel
theorem dX4_levelSent_16 : decode cX4_levelSent 16 = .ok (.invokevirtual 174, 3) := by decide +kernel
theorem dX4_levelSent_19 : decode cX4_levelSent 19 = .ok (.iand, 1) := by decide +kernel
theorem dX4_levelSent_20 : decode cX4_levelSent 20 = .ok (.istore_n 1, 1) := by decide +kernel
theorem dX4_levelSent_21 : decode cX4_levelSent 21 = .ok (.iinc 2 1, 3) := by decide +kernel
theorem dX4_levelSent_24 : decode cX4_levelSent 24 = .ok (.goto (-20), 3) := by decide +kernel
theorem dX4_levelSent_27 : decode cX4_levelSent 27 = .ok (.iload_n 1, 1) := by decide +kernel
theorem dX4_levelSent_28 : decode cX4_levelSent 28 = .ok (.ireturn, 1) := by decide +kernel
set_option maxRecDepth 20000 in
theorem ggX4_someFindFaults_X2_look : GoodIn wsX4_someFindFaults wsX2_look := goodIn_r _ [7, 8, 9, 10, 11, 12, 13, 14, 15, 16, 17, 18, 19, 20, 21, 22, 23, 24, 25, 26, 27, 28, 29, 30, 31, 32, 33, 34, 35, 36, 37, 6, 38, 39, 40, 41, 42, 43, 44, 45, 46, 47, 48, 49, 50, 51, 52, 53, 54, 55, 56, 57, 58, 59, 60, 61, 62, 63, 64, 65, 66, 67, 68, 69, 70, 71, 72, 73, 74, 75, 76, 77, 78, 79, 80, 81, 82, 83, 84, 85, 86, 87, 88, 89, 90, 91, 92, 93, 94, 95, 96, 104, 105, 106, 107, 108, 109, 110, 111, 112, 113, 114, 115, 116, 117, 118, 119, 120, 121, 122, 123, 124, 125, 126, 127, 128, 129, 130, 131, 132, 133, 134, 135, 136, 137, 138, 139] (by decide +kernel) (by decide +kernel)
set_option maxRecDepth 20000 in
theorem gX4_someFindFaults_X2_look : GoodIn wsX4_someFindFaults (wsV RX4 177 RX2 yX2_look wsX2_look) := goodIn_app (goodIn_of _ (by decide +kernel)) ggX4_someFindFaults_X2_look
theorem dX4_someFindFaults_0 : decode cX4_someFindFaults 0 = .ok (.iconst 0, 1) := by decide +kernel
theorem dX4_someFindFaults_1 : decode cX4_someFindFaults 1 = .ok (.istore_n 3, 1) := by decide +kernel
theorem dX4_someFindFaults_2 : decode cX4_someFindFaults 2 = .ok (.iconst 0, 1) := by decide +kernel
theorem dX4_someFindFaults_3 : decode cX4_someFindFaults 3 = .ok (.istore 4, 2) := by decide +kernel
theorem dX4_someFindFaults_5 : decode cX4_someFindFaults 5 = .ok (.iload 4, 2) := by decide +kernel
theorem dX4_someFindFaults_7 : decode cX4_someFindFaults 7 = .ok (.iconst 4, 1) := by decide +kernel
theorem dX4_someFindFaults_8 : decode cX4_someFindFaults 8 = .ok (.if_icmp .ge 42, 3) := by decide +kernel
theorem dX4_someFindFaults_11 : decode cX4_someFindFaults 11 = .ok (.aload_n 0, 1) := by decide +kernel
theorem dX4_someFindFaults_12 : decode cX4_someFindFaults 12 = .ok (.getfield 11, 3) := by decide +kernel
theorem dX4_someFindFaults_15 : decode cX4_someFindFaults 15 = .ok (.iload 4, 2) := by decide +kernel
theorem dX4_someFindFaults_17 : decode cX4_someFindFaults 17 = .ok (.aaload, 1) := by decide +kernel
theorem dX4_someFindFaults_18 : decode cX4_someFindFaults 18 = .ok (.iload_n 1, 1) := by decide +kernel
theorem dX4_someFindFaults_19 : decode cX4_someFindFaults 19 = .ok (.iload_n 2, 1) := by decide +kernel
theorem dX4_someFindFaults_20 : decode cX4_someFindFaults 20 = .ok (.iload 4, 2) := by decide +kernel
theorem dX4_someFindFaults_22 : decode cX4_someFindFaults 22 = .ok (.ishr, 1) := by decide +kernel
theorem dX4_someFindFaults_23 : decode cX4_someFindFaults 23 = .ok (.iconst 1, 1) := by decide +kernel
theorem dX4_someFindFaults_24 : decode cX4_someFindFaults 24 = .ok (.iand, 1) := by decide +kernel
theorem dX4_someFindFaults_25 : decode cX4_someFindFaults 25 = .ok (.ixor, 1) := by decide +kernel
theorem dX4_someFindFaults_26 : decode cX4_someFindFaults 26 = .ok (.invokevirtual 177, 3) := by decide +kernel
theorem dX4_someFindFaults_29 : decode cX4_someFindFaults 29 = .ok (.aload_n 0, 1) := by decide +kernel
theorem dX4_someFindFaults_30 : decode cX4_someFindFaults 30 = .ok (.getfield 11, 3) := by decide +kernel
theorem dX4_someFindFaults_33 : decode cX4_someFindFaults 33 = .ok (.iload 4, 2) := by decide +kernel
theorem dX4_someFindFaults_35 : decode cX4_someFindFaults 35 = .ok (.aaload, 1) := by decide +kernel
theorem dX4_someFindFaults_36 : decode cX4_someFindFaults 36 = .ok (.getfield 181, 3) := by decide +kernel
theorem dX4_someFindFaults_39 : decode cX4_someFindFaults 39 = .ok (.ifCond .eq 5, 3) := by decide +kernel
theorem dX4_someFindFaults_42 : decode cX4_someFindFaults 42 = .ok (.iconst 1, 1) := by decide +kernel
theorem dX4_someFindFaults_43 : decode cX4_someFindFaults 43 = .ok (.istore_n 3, 1) := by decide +kernel
theorem dX4_someFindFaults_44 : decode cX4_someFindFaults 44 = .ok (.iinc 4 1, 3) := by decide +kernel
theorem dX4_someFindFaults_47 : decode cX4_someFindFaults 47 = .ok (.goto (-42), 3) := by decide +kernel
theorem dX4_someFindFaults_50 : decode cX4_someFindFaults 50 = .ok (.iload_n 3, 1) := by decide +kernel
theorem dX4_someFindFaults_51 : decode cX4_someFindFaults 51 = .ok (.ireturn, 1) := by decide +kernel
set_option maxRecDepth 20000 in
theorem ggX4_breakOff_X2_countFault : GoodIn wsX4_breakOff wsX2_countFault := goodIn_r _ [8, 9, 10, 11, 12, 13, 14, 22, 23, 24, 25, 26, 27, 28, 29, 30, 31, 32, 33, 34, 35, 36] (by decide +kernel) (by decide +kernel)
set_option maxRecDepth 20000 in
theorem gX4_breakOff_X2_countFault : GoodIn wsX4_breakOff (wsV RX4 184 RX2 yX2_countFault wsX2_countFault) := goodIn_app (goodIn_of _ (by decide +kernel)) ggX4_breakOff_X2_countFault
theorem dX4_breakOff_0 : decode cX4_breakOff 0 = .ok (.iconst 0, 1) := by decide +kernel
theorem dX4_breakOff_1 : decode cX4_breakOff 1 = .ok (.istore_n 1, 1) := by decide +kernel
theorem dX4_breakOff_2 : decode cX4_breakOff 2 = .ok (.iload_n 1, 1) := by decide +kernel
theorem dX4_breakOff_3 : decode cX4_breakOff 3 = .ok (.iconst 4, 1) := by decide +kernel
theorem dX4_breakOff_4 : decode cX4_breakOff 4 = .ok (.if_icmp .ge 18, 3) := by decide +kernel
theorem dX4_breakOff_7 : decode cX4_breakOff 7 = .ok (.aload_n 0, 1) := by decide +kernel
theorem dX4_breakOff_8 : decode cX4_breakOff 8 = .ok (.getfield 11, 3) := by decide +kernel
theorem dX4_breakOff_11 : decode cX4_breakOff 11 = .ok (.iload_n 1, 1) := by decide +kernel
theorem dX4_breakOff_12 : decode cX4_breakOff 12 = .ok (.aaload, 1) := by decide +kernel
theorem dX4_breakOff_13 : decode cX4_breakOff 13 = .ok (.invokevirtual 184, 3) := by decide +kernel
theorem dX4_breakOff_16 : decode cX4_breakOff 16 = .ok (.iinc 1 1, 3) := by decide +kernel
theorem dX4_breakOff_19 : decode cX4_breakOff 19 = .ok (.goto (-17), 3) := by decide +kernel
theorem dX4_breakOff_22 : decode cX4_breakOff 22 = .ok (.aload_n 0, 1) := by decide +kernel
theorem dX4_breakOff_23 : decode cX4_breakOff 23 = .ok (.iconst 2, 1) := by decide +kernel
theorem dX4_breakOff_24 : decode cX4_breakOff 24 = .ok (.putfield 15, 3) := by decide +kernel
theorem dX4_breakOff_27 : decode cX4_breakOff 27 = .ok (.aload_n 0, 1) := by decide +kernel
theorem dX4_breakOff_28 : decode cX4_breakOff 28 = .ok (.bipush 14, 2) := by decide +kernel
theorem dX4_breakOff_30 : decode cX4_breakOff 30 = .ok (.putfield 19, 3) := by decide +kernel
theorem dX4_breakOff_33 : decode cX4_breakOff 33 = .ok (.return_, 1) := by decide +kernel
set_option maxRecDepth 20000 in
theorem ggX4_goOn_X2_endFrame : GoodIn wsX4_goOn wsX2_endFrame := goodIn_r _ [8, 9, 10, 11, 12, 13, 14, 15, 16, 7, 17, 18, 19, 20, 21, 22, 23, 24, 25, 26, 27, 28, 29, 30, 31, 32, 33, 34, 35, 36, 37, 38, 39, 40, 41, 42, 43, 44, 45, 46, 47, 48, 49, 50, 51, 52, 53, 54, 55, 56, 57, 71, 72, 73, 74, 75, 76, 77, 78, 79, 80, 81, 82, 83, 84, 85, 86, 87, 88, 89, 90, 91, 92, 93, 94, 95, 96, 97, 98, 99, 100, 101, 102, 103, 104, 105, 106] (by decide +kernel) (by decide +kernel)
set_option maxRecDepth 20000 in
theorem gX4_goOn_X2_endFrame : GoodIn wsX4_goOn (wsV RX4 187 RX2 yX2_endFrame wsX2_endFrame) := goodIn_app (goodIn_of _ (by decide +kernel)) ggX4_goOn_X2_endFrame
set_option maxRecDepth 20000 in
theorem ggX4_goOn_X4_beginPause : GoodIn wsX4_goOn wsX4_beginPause := goodIn_r _ [62, 3, 63, 64, 65, 66, 67, 68, 69, 70] (by decide +kernel) (by decide +kernel)
set_option maxRecDepth 20000 in
theorem gX4_goOn_X4_beginPause : GoodIn wsX4_goOn (wsV RX4 168 RX4 yX4_beginPause wsX4_beginPause) := goodIn_app (goodIn_of _ (by decide +kernel)) ggX4_goOn_X4_beginPause
theorem dX4_goOn_0 : decode cX4_goOn 0 = .ok (.iconst 0, 1) := by decide +kernel
theorem dX4_goOn_1 : decode cX4_goOn 1 = .ok (.istore_n 1, 1) := by decide +kernel
theorem dX4_goOn_2 : decode cX4_goOn 2 = .ok (.iconst 0, 1) := by decide +kernel
theorem dX4_goOn_3 : decode cX4_goOn 3 = .ok (.istore_n 2, 1) := by decide +kernel
theorem dX4_goOn_4 : decode cX4_goOn 4 = .ok (.iload_n 2, 1) := by decide +kernel
theorem dX4_goOn_5 : decode cX4_goOn 5 = .ok (.iconst 4, 1) := by decide +kernel
theorem dX4_goOn_6 : decode cX4_goOn 6 = .ok (.if_icmp .ge 33, 3) := by decide +kernel
theorem dX4_goOn_9 : decode cX4_goOn 9 = .ok (.aload_n 0, 1) := by decide +kernel
theorem dX4_goOn_10 : decode cX4_goOn 10 = .ok (.getfield 11, 3) := by decide +kernel
theorem dX4_goOn_13 : decode cX4_goOn 13 = .ok (.iload_n 2, 1) := by decide +kernel
theorem dX4_goOn_14 : decode cX4_goOn 14 = .ok (.aaload, 1) := by decide +kernel
theorem dX4_goOn_15 : decode cX4_goOn 15 = .ok (.invokevirtual 187, 3) := by decide +kernel
theorem dX4_goOn_18 : decode cX4_goOn 18 = .ok (.aload_n 0, 1) := by decide +kernel
theorem dX4_goOn_19 : decode cX4_goOn 19 = .ok (.getfield 11, 3) := by decide +kernel
theorem dX4_goOn_22 : decode cX4_goOn 22 = .ok (.iload_n 2, 1) := by decide +kernel
theorem dX4_goOn_23 : decode cX4_goOn 23 = .ok (.aaload, 1) := by decide +kernel
theorem dX4_goOn_24 : decode cX4_goOn 24 = .ok (.getfield 75, 3) := by decide +kernel
theorem dX4_goOn_27 : decode cX4_goOn 27 = .ok (.iconst 1, 1) := by decide +kernel
theorem dX4_goOn_28 : decode cX4_goOn 28 = .ok (.if_icmp .eq 5, 3) := by decide +kernel
theorem dX4_goOn_31 : decode cX4_goOn 31 = .ok (.iconst 1, 1) := by decide +kernel
theorem dX4_goOn_32 : decode cX4_goOn 32 = .ok (.istore_n 1, 1) := by decide +kernel
theorem dX4_goOn_33 : decode cX4_goOn 33 = .ok (.iinc 2 1, 3) := by decide +kernel
theorem dX4_goOn_36 : decode cX4_goOn 36 = .ok (.goto (-32), 3) := by decide +kernel
theorem dX4_goOn_39 : decode cX4_goOn 39 = .ok (.iload_n 1, 1) := by decide +kernel
theorem dX4_goOn_40 : decode cX4_goOn 40 = .ok (.ifCond .eq 11, 3) := by decide +kernel
theorem dX4_goOn_43 : decode cX4_goOn 43 = .ok (.aload_n 0, 1) := by decide +kernel
theorem dX4_goOn_44 : decode cX4_goOn 44 = .ok (.iconst 1, 1) := by decide +kernel
theorem dX4_goOn_45 : decode cX4_goOn 45 = .ok (.putfield 15, 3) := by decide +kernel
theorem dX4_goOn_48 : decode cX4_goOn 48 = .ok (.goto 15, 3) := by decide +kernel
theorem dX4_goOn_51 : decode cX4_goOn 51 = .ok (.aload_n 0, 1) := by decide +kernel
theorem dX4_goOn_52 : decode cX4_goOn 52 = .ok (.getfield 15, 3) := by decide +kernel
theorem dX4_goOn_55 : decode cX4_goOn 55 = .ok (.iconst 1, 1) := by decide +kernel
theorem dX4_goOn_56 : decode cX4_goOn 56 = .ok (.if_icmp .ne 7, 3) := by decide +kernel
theorem dX4_goOn_59 : decode cX4_goOn 59 = .ok (.aload_n 0, 1) := by decide +kernel
theorem dX4_goOn_60 : decode cX4_goOn 60 = .ok (.invokevirtual 168, 3) := by decide +kernel
theorem dX4_goOn_63 : decode cX4_goOn 63 = .ok (.return_, 1) := by decide +kernel
theorem dX4_nextCheck_0 : decode cX4_nextCheck 0 = .ok (.iload_n 0, 1) := by decide +kernel
theorem dX4_nextCheck_1 : decode cX4_nextCheck 1 = .ok (.iconst 1, 1) := by decide +kernel
theorem dX4_nextCheck_2 : decode cX4_nextCheck 2 = .ok (.ishl, 1) := by decide +kernel
theorem dX4_nextCheck_3 : decode cX4_nextCheck 3 = .ok (.sipush 32767, 3) := by decide +kernel
theorem dX4_nextCheck_6 : decode cX4_nextCheck 6 = .ok (.iand, 1) := by decide +kernel
theorem dX4_nextCheck_7 : decode cX4_nextCheck 7 = .ok (.istore_n 2, 1) := by decide +kernel
theorem dX4_nextCheck_8 : decode cX4_nextCheck 8 = .ok (.iload_n 0, 1) := by decide +kernel
theorem dX4_nextCheck_9 : decode cX4_nextCheck 9 = .ok (.bipush 14, 2) := by decide +kernel
theorem dX4_nextCheck_11 : decode cX4_nextCheck 11 = .ok (.ishr, 1) := by decide +kernel
theorem dX4_nextCheck_12 : decode cX4_nextCheck 12 = .ok (.iconst 1, 1) := by decide +kernel
theorem dX4_nextCheck_13 : decode cX4_nextCheck 13 = .ok (.iand, 1) := by decide +kernel
theorem dX4_nextCheck_14 : decode cX4_nextCheck 14 = .ok (.iload_n 1, 1) := by decide +kernel
theorem dX4_nextCheck_15 : decode cX4_nextCheck 15 = .ok (.if_icmp .eq 7, 3) := by decide +kernel
theorem dX4_nextCheck_18 : decode cX4_nextCheck 18 = .ok (.iconst 1, 1) := by decide +kernel
theorem dX4_nextCheck_19 : decode cX4_nextCheck 19 = .ok (.goto 4, 3) := by decide +kernel
theorem dX4_nextCheck_22 : decode cX4_nextCheck 22 = .ok (.iconst 0, 1) := by decide +kernel
theorem dX4_nextCheck_23 : decode cX4_nextCheck 23 = .ok (.istore_n 3, 1) := by decide +kernel
theorem dX4_nextCheck_24 : decode cX4_nextCheck 24 = .ok (.iload_n 3, 1) := by decide +kernel
theorem dX4_nextCheck_25 : decode cX4_nextCheck 25 = .ok (.ifCond .eq 11, 3) := by decide +kernel
theorem dX4_nextCheck_28 : decode cX4_nextCheck 28 = .ok (.iload_n 2, 1) := by decide +kernel
theorem dX4_nextCheck_29 : decode cX4_nextCheck 29 = .ok (.sipush 17817, 3) := by decide +kernel
theorem dX4_nextCheck_32 : decode cX4_nextCheck 32 = .ok (.ixor, 1) := by decide +kernel
theorem dX4_nextCheck_33 : decode cX4_nextCheck 33 = .ok (.goto 4, 3) := by decide +kernel
theorem dX4_nextCheck_36 : decode cX4_nextCheck 36 = .ok (.iload_n 2, 1) := by decide +kernel
theorem dX4_nextCheck_37 : decode cX4_nextCheck 37 = .ok (.ireturn, 1) := by decide +kernel
