theorem dX5_init_0 : decode cX5_init 0 = .ok (.aload_n 0, 1) := by decide +kernel
theorem dX5_init_1 : decode cX5_init 1 = .ok (.invokespecial 1, 3) := by decide +kernel
theorem dX5_init_4 : decode cX5_init 4 = .ok (.aload_n 0, 1) := by decide +kernel
theorem dX5_init_5 : decode cX5_init 5 = .ok (.iconst 4, 1) := by decide +kernel
theorem dX5_init_6 : decode cX5_init 6 = .ok (.newarray .int, 2) := by decide +kernel
theorem dX5_init_8 : decode cX5_init 8 = .ok (.dup, 1) := by decide +kernel
theorem dX5_init_9 : decode cX5_init 9 = .ok (.iconst 0, 1) := by decide +kernel
theorem dX5_init_10 : decode cX5_init 10 = .ok (.iconst 1, 1) := by decide +kernel
theorem dX5_init_11 : decode cX5_init 11 = .ok (.iastore, 1) := by decide +kernel
theorem dX5_init_12 : decode cX5_init 12 = .ok (.dup, 1) := by decide +kernel
theorem dX5_init_13 : decode cX5_init 13 = .ok (.iconst 1, 1) := by decide +kernel
theorem dX5_init_14 : decode cX5_init 14 = .ok (.iconst 1, 1) := by decide +kernel
theorem dX5_init_15 : decode cX5_init 15 = .ok (.iastore, 1) := by decide +kernel
theorem dX5_init_16 : decode cX5_init 16 = .ok (.dup, 1) := by decide +kernel
theorem dX5_init_17 : decode cX5_init 17 = .ok (.iconst 2, 1) := by decide +kernel
theorem dX5_init_18 : decode cX5_init 18 = .ok (.iconst 1, 1) := by decide +kernel
theorem dX5_init_19 : decode cX5_init 19 = .ok (.iastore, 1) := by decide +kernel
theorem dX5_init_20 : decode cX5_init 20 = .ok (.dup, 1) := by decide +kernel
theorem dX5_init_21 : decode cX5_init 21 = .ok (.iconst 3, 1) := by decide +kernel
theorem dX5_init_22 : decode cX5_init 22 = .ok (.iconst 1, 1) := by decide +kernel
theorem dX5_init_23 : decode cX5_init 23 = .ok (.iastore, 1) := by decide +kernel
theorem dX5_init_24 : decode cX5_init 24 = .ok (.putfield 9, 3) := by decide +kernel
theorem dX5_init_27 : decode cX5_init 27 = .ok (.aload_n 0, 1) := by decide +kernel
theorem dX5_init_28 : decode cX5_init 28 = .ok (.iconst 4, 1) := by decide +kernel
theorem dX5_init_29 : decode cX5_init 29 = .ok (.newarray .int, 2) := by decide +kernel
theorem dX5_init_31 : decode cX5_init 31 = .ok (.putfield 13, 3) := by decide +kernel
theorem dX5_init_34 : decode cX5_init 34 = .ok (.aload_n 0, 1) := by decide +kernel
theorem dX5_init_35 : decode cX5_init 35 = .ok (.iconst 4, 1) := by decide +kernel
theorem dX5_init_36 : decode cX5_init 36 = .ok (.newarray .int, 2) := by decide +kernel
theorem dX5_init_38 : decode cX5_init 38 = .ok (.putfield 16, 3) := by decide +kernel
theorem dX5_init_41 : decode cX5_init 41 = .ok (.aload_n 0, 1) := by decide +kernel
theorem dX5_init_42 : decode cX5_init 42 = .ok (.iconst 4, 1) := by decide +kernel
theorem dX5_init_43 : decode cX5_init 43 = .ok (.newarray .int, 2) := by decide +kernel
theorem dX5_init_45 : decode cX5_init 45 = .ok (.putfield 19, 3) := by decide +kernel
theorem dX5_init_48 : decode cX5_init 48 = .ok (.aload_n 0, 1) := by decide +kernel
theorem dX5_init_49 : decode cX5_init 49 = .ok (.iconst 4, 1) := by decide +kernel
theorem dX5_init_50 : decode cX5_init 50 = .ok (.newarray .int, 2) := by decide +kernel
theorem dX5_init_52 : decode cX5_init 52 = .ok (.putfield 22, 3) := by decide +kernel
theorem dX5_init_55 : decode cX5_init 55 = .ok (.aload_n 0, 1) := by decide +kernel
theorem dX5_init_56 : decode cX5_init 56 = .ok (.iconst 4, 1) := by decide +kernel
theorem dX5_init_57 : decode cX5_init 57 = .ok (.newarray .int, 2) := by decide +kernel
theorem dX5_init_59 : decode cX5_init 59 = .ok (.putfield 25, 3) := by decide +kernel
theorem dX5_init_62 : decode cX5_init 62 = .ok (.aload_n 0, 1) := by decide +kernel
theorem dX5_init_63 : decode cX5_init 63 = .ok (.iconst 4, 1) := by decide +kernel
theorem dX5_init_64 : decode cX5_init 64 = .ok (.newarray .int, 2) := by decide +kernel
theorem dX5_init_66 : decode cX5_init 66 = .ok (.putfield 28, 3) := by decide +kernel
theorem dX5_init_69 : decode cX5_init 69 = .ok (.aload_n 0, 1) := by decide +kernel
theorem dX5_init_70 : decode cX5_init 70 = .ok (.bipush 16, 2) := by decide +kernel
theorem dX5_init_72 : decode cX5_init 72 = .ok (.newarray .boolean, 2) := by decide +kernel
theorem dX5_init_74 : decode cX5_init 74 = .ok (.putfield 31, 3) := by decide +kernel
theorem dX5_init_77 : decode cX5_init 77 = .ok (.aload_n 0, 1) := by decide +kernel
theorem dX5_init_78 : decode cX5_init 78 = .ok (.bipush 16, 2) := by decide +kernel
theorem dX5_init_80 : decode cX5_init 80 = .ok (.newarray .int, 2) := by decide +kernel
theorem dX5_init_82 : decode cX5_init 82 = .ok (.putfield 35, 3) := by decide +kernel
theorem dX5_init_85 : decode cX5_init 85 = .ok (.aload_n 0, 1) := by decide +kernel
theorem dX5_init_86 : decode cX5_init 86 = .ok (.bipush 16, 2) := by decide +kernel
theorem dX5_init_88 : decode cX5_init 88 = .ok (.newarray .long, 2) := by decide +kernel
theorem dX5_init_90 : decode cX5_init 90 = .ok (.putfield 38, 3) := by decide +kernel
theorem dX5_init_93 : decode cX5_init 93 = .ok (.aload_n 0, 1) := by decide +kernel
theorem dX5_init_94 : decode cX5_init 94 = .ok (.bipush 16, 2) := by decide +kernel
theorem dX5_init_96 : decode cX5_init 96 = .ok (.newarray .int, 2) := by decide +kernel
theorem dX5_init_98 : decode cX5_init 98 = .ok (.putfield 42, 3) := by decide +kernel
theorem dX5_init_101 : decode cX5_init 101 = .ok (.aload_n 0, 1) := by decide +kernel
theorem dX5_init_102 : decode cX5_init 102 = .ok (.iconst 4, 1) := by decide +kernel
theorem dX5_init_103 : decode cX5_init 103 = .ok (.newarray .boolean, 2) := by decide +kernel
theorem dX5_init_105 : decode cX5_init 105 = .ok (.putfield 45, 3) := by decide +kernel
theorem dX5_init_108 : decode cX5_init 108 = .ok (.aload_n 0, 1) := by decide +kernel
theorem dX5_init_109 : decode cX5_init 109 = .ok (.iconst 4, 1) := by decide +kernel
theorem dX5_init_110 : decode cX5_init 110 = .ok (.newarray .int, 2) := by decide +kernel
theorem dX5_init_112 : decode cX5_init 112 = .ok (.putfield 48, 3) := by decide +kernel
theorem dX5_init_115 : decode cX5_init 115 = .ok (.aload_n 0, 1) := by decide +kernel
theorem dX5_init_116 : decode cX5_init 116 = .ok (.iconst 4, 1) := by decide +kernel
theorem dX5_init_117 : decode cX5_init 117 = .ok (.newarray .long, 2) := by decide +kernel
theorem dX5_init_119 : decode cX5_init 119 = .ok (.putfield 51, 3) := by decide +kernel
theorem dX5_init_122 : decode cX5_init 122 = .ok (.aload_n 0, 1) := by decide +kernel
theorem dX5_init_123 : decode cX5_init 123 = .ok (.iconst 4, 1) := by decide +kernel
theorem dX5_init_124 : decode cX5_init 124 = .ok (.newarray .int, 2) := by decide +kernel
theorem dX5_init_126 : decode cX5_init 126 = .ok (.putfield 54, 3) := by decide +kernel
theorem dX5_init_129 : decode cX5_init 129 = .ok (.aload_n 0, 1) := by decide +kernel
theorem dX5_init_130 : decode cX5_init 130 = .ok (.sipush 1000, 3) := by decide +kernel
theorem dX5_init_133 : decode cX5_init 133 = .ok (.newarray .int, 2) := by decide +kernel
theorem dX5_init_135 : decode cX5_init 135 = .ok (.putfield 57, 3) := by decide +kernel
theorem dX5_init_138 : decode cX5_init 138 = .ok (.aload_n 0, 1) := by decide +kernel
theorem dX5_init_139 : decode cX5_init 139 = .ok (.sipush 1000, 3) := by decide +kernel
theorem dX5_init_142 : decode cX5_init 142 = .ok (.newarray .int, 2) := by decide +kernel
theorem dX5_init_144 : decode cX5_init 144 = .ok (.putfield 60, 3) := by decide +kernel
theorem dX5_init_147 : decode cX5_init 147 = .ok (.aload_n 0, 1) := by decide +kernel
theorem dX5_init_148 : decode cX5_init 148 = .ok (.iconst 5, 1) := by decide +kernel
theorem dX5_init_149 : decode cX5_init 149 = .ok (.newarray .int, 2) := by decide +kernel
theorem dX5_init_151 : decode cX5_init 151 = .ok (.putfield 63, 3) := by decide +kernel
theorem dX5_init_154 : decode cX5_init 154 = .ok (.aload_n 0, 1) := by decide +kernel
theorem dX5_init_155 : decode cX5_init 155 = .ok (.iconst 4, 1) := by decide +kernel
theorem dX5_init_156 : decode cX5_init 156 = .ok (.newarray .int, 2) := by decide +kernel
theorem dX5_init_158 : decode cX5_init 158 = .ok (.putfield 66, 3) := by decide +kernel
theorem dX5_init_161 : decode cX5_init 161 = .ok (.aload_n 0, 1) := by decide +kernel
theorem dX5_init_162 : decode cX5_init 162 = .ok (.iconst 4, 1) := by decide +kernel
theorem dX5_init_163 : decode cX5_init 163 = .ok (.newarray .int, 2) := by decide +kernel
theorem dX5_init_165 : decode cX5_init 165 = .ok (.putfield 69, 3) := by decide +kernel
theorem dX5_init_168 : decode cX5_init 168 = .ok (.aload_n 0, 1) := by decide +kernel
theorem dX5_init_169 : decode cX5_init 169 = .ok (.bipush 16, 2) := by decide +kernel
theorem dX5_init_171 : decode cX5_init 171 = .ok (.newarray .int, 2) := by decide +kernel
theorem dX5_init_173 : decode cX5_init 173 = .ok (.putfield 72, 3) := by decide +kernel
theorem dX5_init_176 : decode cX5_init 176 = .ok (.aload_n 0, 1) := by decide +kernel
theorem dX5_init_177 : decode cX5_init 177 = .ok (.sipush 640, 3) := by decide +kernel
theorem dX5_init_180 : decode cX5_init 180 = .ok (.newarray .int, 2) := by decide +kernel
theorem dX5_init_182 : decode cX5_init 182 = .ok (.putfield 75, 3) := by decide +kernel
theorem dX5_init_185 : decode cX5_init 185 = .ok (.aload_n 0, 1) := by decide +kernel
theorem dX5_init_186 : decode cX5_init 186 = .ok (.iconst 5, 1) := by decide +kernel
theorem dX5_init_187 : decode cX5_init 187 = .ok (.newarray .int, 2) := by decide +kernel
theorem dX5_init_189 : decode cX5_init 189 = .ok (.putfield 78, 3) := by decide +kernel
theorem dX5_init_192 : decode cX5_init 192 = .ok (.aload_n 0, 1) := by decide +kernel
theorem dX5_init_193 : decode cX5_init 193 = .ok (.iconst 5, 1) := by decide +kernel
theorem dX5_init_194 : decode cX5_init 194 = .ok (.newarray .int, 2) := by decide +kernel
theorem dX5_init_196 : decode cX5_init 196 = .ok (.putfield 81, 3) := by decide +kernel
theorem dX5_init_199 : decode cX5_init 199 = .ok (.aload_n 0, 1) := by decide +kernel
theorem dX5_init_200 : decode cX5_init 200 = .ok (.iconst 5, 1) := by decide +kernel
theorem dX5_init_201 : decode cX5_init 201 = .ok (.newarray .int, 2) := by decide +kernel
theorem dX5_init_203 : decode cX5_init 203 = .ok (.putfield 84, 3) := by decide +kernel
theorem dX5_init_206 : decode cX5_init 206 = .ok (.aload_n 0, 1) := by decide +kernel
theorem dX5_init_207 : decode cX5_init 207 = .ok (.iconst 5, 1) := by decide +kernel
theorem dX5_init_208 : decode cX5_init 208 = .ok (.newarray .int, 2) := by decide +kernel
theorem dX5_init_210 : decode cX5_init 210 = .ok (.putfield 87, 3) := by decide +kernel
theorem dX5_init_213 : decode cX5_init 213 = .ok (.aload_n 0, 1) := by decide +kernel
theorem dX5_init_214 : decode cX5_init 214 = .ok (.iconst 5, 1) := by decide +kernel
theorem dX5_init_215 : decode cX5_init 215 = .ok (.newarray .int, 2) := by decide +kernel
theorem dX5_init_217 : decode cX5_init 217 = .ok (.putfield 90, 3) := by decide +kernel
theorem dX5_init_220 : decode cX5_init 220 = .ok (.aload_n 0, 1) := by decide +kernel
theorem dX5_init_221 : decode cX5_init 221 = .ok (.sipush 200, 3) := by decide +kernel
theorem dX5_init_224 : decode cX5_init 224 = .ok (.newarray .int, 2) := by decide +kernel
theorem dX5_init_226 : decode cX5_init 226 = .ok (.putfield 93, 3) := by decide +kernel
theorem dX5_init_229 : decode cX5_init 229 = .ok (.aload_n 0, 1) := by decide +kernel
theorem dX5_init_230 : decode cX5_init 230 = .ok (.sipush 128, 3) := by decide +kernel
theorem dX5_init_233 : decode cX5_init 233 = .ok (.newarray .int, 2) := by decide +kernel
theorem dX5_init_235 : decode cX5_init 235 = .ok (.putfield 96, 3) := by decide +kernel
theorem dX5_init_238 : decode cX5_init 238 = .ok (.return_, 1) := by decide +kernel
theorem dX5_thrown_0 : decode cX5_thrown 0 = .ok (.aload_n 0, 1) := by decide +kernel
theorem dX5_thrown_1 : decode cX5_thrown 1 = .ok (.getfield 99, 3) := by decide +kernel
theorem dX5_thrown_4 : decode cX5_thrown 4 = .ok (.ireturn, 1) := by decide +kernel
theorem dX5_isNode_0 : decode cX5_isNode 0 = .ok (.iload_n 0, 1) := by decide +kernel
theorem dX5_isNode_1 : decode cX5_isNode 1 = .ok (.ifCond .lt 12, 3) := by decide +kernel
theorem dX5_isNode_4 : decode cX5_isNode 4 = .ok (.iload_n 0, 1) := by decide +kernel
theorem dX5_isNode_5 : decode cX5_isNode 5 = .ok (.iconst 4, 1) := by decide +kernel
theorem dX5_isNode_6 : decode cX5_isNode 6 = .ok (.if_icmp .ge 7, 3) := by decide +kernel
theorem dX5_isNode_9 : decode cX5_isNode 9 = .ok (.iconst 1, 1) := by decide +kernel
theorem dX5_isNode_10 : decode cX5_isNode 10 = .ok (.goto 4, 3) := by decide +kernel
theorem dX5_isNode_13 : decode cX5_isNode 13 = .ok (.iconst 0, 1) := by decide +kernel
theorem dX5_isNode_14 : decode cX5_isNode 14 = .ok (.ireturn, 1) := by decide +kernel
theorem dX5_say_0 : decode cX5_say 0 = .ok (.iload_n 2, 1) := by decide +kernel
theorem dX5_say_1 : decode cX5_say 1 = .ok (.iconst 1, 1) := by decide +kernel
theorem dX5_say_2 : decode cX5_say 2 = .ok (.isub, 1) := by decide +kernel
theorem dX5_say_3 : decode cX5_say 3 = .ok (.istore_n 3, 1) := by decide +kernel
theorem dX5_say_4 : decode cX5_say 4 = .ok (.iload_n 3, 1) := by decide +kernel
theorem dX5_say_5 : decode cX5_say 5 = .ok (.ifCond .lt 33, 3) := by decide +kernel
theorem dX5_say_8 : decode cX5_say 8 = .ok (.aload_n 0, 1) := by decide +kernel
theorem dX5_say_9 : decode cX5_say 9 = .ok (.getfield 96, 3) := by decide +kernel
theorem dX5_say_12 : decode cX5_say 12 = .ok (.aload_n 0, 1) := by decide +kernel
theorem dX5_say_13 : decode cX5_say 13 = .ok (.getfield 103, 3) := by decide +kernel
theorem dX5_say_16 : decode cX5_say 16 = .ok (.iload_n 1, 1) := by decide +kernel
theorem dX5_say_17 : decode cX5_say 17 = .ok (.iload_n 3, 1) := by decide +kernel
theorem dX5_say_18 : decode cX5_say 18 = .ok (.ishr, 1) := by decide +kernel
theorem dX5_say_19 : decode cX5_say 19 = .ok (.iconst 1, 1) := by decide +kernel
theorem dX5_say_20 : decode cX5_say 20 = .ok (.iand, 1) := by decide +kernel
theorem dX5_say_21 : decode cX5_say 21 = .ok (.iastore, 1) := by decide +kernel
theorem dX5_say_22 : decode cX5_say 22 = .ok (.aload_n 0, 1) := by decide +kernel
theorem dX5_say_23 : decode cX5_say 23 = .ok (.dup, 1) := by decide +kernel
theorem dX5_say_24 : decode cX5_say 24 = .ok (.getfield 103, 3) := by decide +kernel
theorem dX5_say_27 : decode cX5_say 27 = .ok (.iconst 1, 1) := by decide +kernel
theorem dX5_say_28 : decode cX5_say 28 = .ok (.iadd, 1) := by decide +kernel
theorem dX5_say_29 : decode cX5_say 29 = .ok (.putfield 103, 3) := by decide +kernel
theorem dX5_say_32 : decode cX5_say 32 = .ok (.iinc 3 (-1), 3) := by decide +kernel
theorem dX5_say_35 : decode cX5_say 35 = .ok (.goto (-31), 3) := by decide +kernel
theorem dX5_say_38 : decode cX5_say 38 = .ok (.return_, 1) := by decide +kernel
theorem dX5_nextCheck_0 : decode cX5_nextCheck 0 = .ok (.iload_n 1, 1) := by decide +kernel
theorem dX5_nextCheck_1 : decode cX5_nextCheck 1 = .ok (.iload_n 0, 1) := by decide +kernel
theorem dX5_nextCheck_2 : decode cX5_nextCheck 2 = .ok (.bipush 14, 2) := by decide +kernel
theorem dX5_nextCheck_4 : decode cX5_nextCheck 4 = .ok (.ishr, 1) := by decide +kernel
theorem dX5_nextCheck_5 : decode cX5_nextCheck 5 = .ok (.ixor, 1) := by decide +kernel
theorem dX5_nextCheck_6 : decode cX5_nextCheck 6 = .ok (.istore_n 2, 1) := by decide +kernel
theorem dX5_nextCheck_7 : decode cX5_nextCheck 7 = .ok (.iload_n 0, 1) := by decide +kernel
theorem dX5_nextCheck_8 : decode cX5_nextCheck 8 = .ok (.iconst 1, 1) := by decide +kernel
theorem dX5_nextCheck_9 : decode cX5_nextCheck 9 = .ok (.ishl, 1) := by decide +kernel
theorem dX5_nextCheck_10 : decode cX5_nextCheck 10 = .ok (.sipush 32767, 3) := by decide +kernel
theorem dX5_nextCheck_13 : decode cX5_nextCheck 13 = .ok (.iand, 1) := by decide +kernel
theorem dX5_nextCheck_14 : decode cX5_nextCheck 14 = .ok (.istore_n 3, 1) := by decide +kernel
theorem dX5_nextCheck_15 : decode cX5_nextCheck 15 = .ok (.iload_n 2, 1) := by decide +kernel
theorem dX5_nextCheck_16 : decode cX5_nextCheck 16 = .ok (.iconst 1, 1) := by decide +kernel
theorem dX5_nextCheck_17 : decode cX5_nextCheck 17 = .ok (.if_icmp .ne 11, 3) := by decide +kernel
theorem dX5_nextCheck_20 : decode cX5_nextCheck 20 = .ok (.iload_n 3, 1) := by decide +kernel
theorem dX5_nextCheck_21 : decode cX5_nextCheck 21 = .ok (.sipush 17817, 3) := by decide +kernel
theorem dX5_nextCheck_24 : decode cX5_nextCheck 24 = .ok (.ixor, 1) := by decide +kernel
theorem dX5_nextCheck_25 : decode cX5_nextCheck 25 = .ok (.goto 4, 3) := by decide +kernel
theorem dX5_nextCheck_28 : decode cX5_nextCheck 28 = .ok (.iload_n 3, 1) := by decide +kernel
theorem dX5_nextCheck_29 : decode cX5_nextCheck 29 = .ok (.ireturn, 1) := by decide +kernel
theorem dX5_lay_0 : decode cX5_lay 0 = .ok (.aload_n 0, 1) := by decide +kernel
theorem dX5_lay_1 : decode cX5_lay 1 = .ok (.getfield 57, 3) := by decide +kernel
theorem dX5_lay_4 : decode cX5_lay 4 = .ok (.sipush 200, 3) := by decide +kernel
theorem dX5_lay_7 : decode cX5_lay 7 = .ok (.iload_n 1, 1) := by decide +kernel
theorem dX5_lay_8 : decode cX5_lay 8 = .ok (.imul, 1) := by decide +kernel
theorem dX5_lay_9 : decode cX5_lay 9 = .ok (.iload_n 2, 1) := by decide +kernel
theorem dX5_lay_10 : decode cX5_lay 10 = .ok (.iadd, 1) := by decide +kernel
theorem dX5_lay_11 : decode cX5_lay 11 = .ok (.iload_n 3, 1) := by decide +kernel
theorem dX5_lay_12 : decode cX5_lay 12 = .ok (.iastore, 1) := by decide +kernel
theorem dX5_lay_13 : decode cX5_lay 13 = .ok (.aload_n 0, 1) := by decide +kernel
theorem dX5_lay_14 : decode cX5_lay 14 = .ok (.getfield 60, 3) := by decide +kernel
theorem dX5_lay_17 : decode cX5_lay 17 = .ok (.sipush 200, 3) := by decide +kernel
theorem dX5_lay_20 : decode cX5_lay 20 = .ok (.iload_n 1, 1) := by decide +kernel
theorem dX5_lay_21 : decode cX5_lay 21 = .ok (.imul, 1) := by decide +kernel
theorem dX5_lay_22 : decode cX5_lay 22 = .ok (.iload_n 2, 1) := by decide +kernel
theorem dX5_lay_23 : decode cX5_lay 23 = .ok (.iadd, 1) := by decide +kernel
theorem dX5_lay_24 : decode cX5_lay 24 = .ok (.iload 4, 2) := by decide +kernel
theorem dX5_lay_26 : decode cX5_lay 26 = .ok (.iastore, 1) := by decide +kernel
theorem dX5_lay_27 : decode cX5_lay 27 = .ok (.iload_n 2, 1) := by decide +kernel
theorem dX5_lay_28 : decode cX5_lay 28 = .ok (.iconst 1, 1) := by decide +kernel
theorem dX5_lay_29 : decode cX5_lay 29 = .ok (.iadd, 1) := by decide +kernel
theorem dX5_lay_30 : decode cX5_lay 30 = .ok (.ireturn, 1) := by decide +kernel
set_option maxRecDepth 20000 in
theorem ggX5_make_X5_say : GoodIn wsX5_make wsX5_say := goodIn_r _ [13, 7, 1, 23, 24, 25, 26, 27, 28, 29, 30, 31, 32, 33, 34, 35, 36, 37, 38, 39, 40, 41, 42, 43, 44, 45, 46, 47, 48, 49, 50, 51, 52, 53, 54, 55, 56, 57] (by decide +kernel) (by decide +kernel)
set_option maxRecDepth 20000 in
theorem gX5_make_X5_say : GoodIn wsX5_make (wsV RX5 106 RX5 yX5_say wsX5_say) := goodIn_app (goodIn_of _ (by decide +kernel)) ggX5_make_X5_say
set_option maxRecDepth 20000 in
theorem ggX5_make_X5_nextCheck : GoodIn wsX5_make wsX5_nextCheck := goodIn_r _ [16] (by decide +kernel) (by decide +kernel)
set_option maxRecDepth 20000 in
theorem gX5_make_X5_nextCheck : GoodIn wsX5_make (va_wsS RX5 112 yX5_nextCheck wsX5_nextCheck) := goodIn_app (goodIn_of _ (by decide +kernel)) ggX5_make_X5_nextCheck
set_option maxRecDepth 20000 in
theorem ggX5_make_X5_lay : GoodIn wsX5_make wsX5_lay := goodIn_r _ [20, 21, 22, 23, 24, 25, 26, 27, 28, 29, 30, 31, 32, 33, 34, 35, 36, 37, 38, 39, 40, 41, 42, 43, 44, 45, 46, 47, 48, 49, 50, 51, 52, 53, 54, 55, 56, 57] (by decide +kernel) (by decide +kernel)
set_option maxRecDepth 20000 in
theorem gX5_make_X5_lay : GoodIn wsX5_make (wsV RX5 116 RX5 yX5_lay wsX5_lay) := goodIn_app (goodIn_of _ (by decide +kernel)) ggX5_make_X5_lay
theorem dX5_make_0 : decode cX5_make 0 = .ok (.aload_n 0, 1) := by decide +kernel
theorem dX5_make_1 : decode cX5_make 1 = .ok (.iconst 0, 1) := by decide +kernel
theorem dX5_make_2 : decode cX5_make 2 = .ok (.putfield 103, 3) := by decide +kernel
theorem dX5_make_5 : decode cX5_make 5 = .ok (.aload_n 0, 1) := by decide +kernel
theorem dX5_make_6 : decode cX5_make 6 = .ok (.iconst 0, 1) := by decide +kernel
theorem dX5_make_7 : decode cX5_make 7 = .ok (.iconst 1, 1) := by decide +kernel
theorem dX5_make_8 : decode cX5_make 8 = .ok (.invokevirtual 106, 3) := by decide +kernel
theorem dX5_make_11 : decode cX5_make 11 = .ok (.aload_n 0, 1) := by decide +kernel
theorem dX5_make_12 : decode cX5_make 12 = .ok (.getfield 31, 3) := by decide +kernel
theorem dX5_make_15 : decode cX5_make 15 = .ok (.iload_n 1, 1) := by decide +kernel
theorem dX5_make_16 : decode cX5_make 16 = .ok (.baload, 1) := by decide +kernel
theorem dX5_make_17 : decode cX5_make 17 = .ok (.ifCond .eq 39, 3) := by decide +kernel
theorem dX5_make_20 : decode cX5_make 20 = .ok (.aload_n 0, 1) := by decide +kernel
theorem dX5_make_21 : decode cX5_make 21 = .ok (.aload_n 0, 1) := by decide +kernel
theorem dX5_make_22 : decode cX5_make 22 = .ok (.getfield 35, 3) := by decide +kernel
theorem dX5_make_25 : decode cX5_make 25 = .ok (.iload_n 1, 1) := by decide +kernel
theorem dX5_make_26 : decode cX5_make 26 = .ok (.iaload, 1) := by decide +kernel
theorem dX5_make_27 : decode cX5_make 27 = .ok (.bipush 18, 2) := by decide +kernel
theorem dX5_make_29 : decode cX5_make 29 = .ok (.ishr, 1) := by decide +kernel
theorem dX5_make_30 : decode cX5_make 30 = .ok (.bipush 11, 2) := by decide +kernel
theorem dX5_make_32 : decode cX5_make 32 = .ok (.invokevirtual 106, 3) := by decide +kernel
theorem dX5_make_35 : decode cX5_make 35 = .ok (.aload_n 0, 1) := by decide +kernel
theorem dX5_make_36 : decode cX5_make 36 = .ok (.iconst 3, 1) := by decide +kernel
theorem dX5_make_37 : decode cX5_make 37 = .ok (.iconst 2, 1) := by decide +kernel
theorem dX5_make_38 : decode cX5_make 38 = .ok (.invokevirtual 106, 3) := by decide +kernel
theorem dX5_make_41 : decode cX5_make 41 = .ok (.aload_n 0, 1) := by decide +kernel
theorem dX5_make_42 : decode cX5_make 42 = .ok (.aload_n 0, 1) := by decide +kernel
theorem dX5_make_43 : decode cX5_make 43 = .ok (.getfield 35, 3) := by decide +kernel
theorem dX5_make_46 : decode cX5_make 46 = .ok (.iload_n 1, 1) := by decide +kernel
theorem dX5_make_47 : decode cX5_make 47 = .ok (.iaload, 1) := by decide +kernel
theorem dX5_make_48 : decode cX5_make 48 = .ok (.bipush 18, 2) := by decide +kernel
theorem dX5_make_50 : decode cX5_make 50 = .ok (.invokevirtual 106, 3) := by decide +kernel
theorem dX5_make_53 : decode cX5_make 53 = .ok (.goto 15, 3) := by decide +kernel
theorem dX5_make_56 : decode cX5_make 56 = .ok (.aload_n 0, 1) := by decide +kernel
theorem dX5_make_57 : decode cX5_make 57 = .ok (.aload_n 0, 1) := by decide +kernel
theorem dX5_make_58 : decode cX5_make 58 = .ok (.getfield 35, 3) := by decide +kernel
theorem dX5_make_61 : decode cX5_make 61 = .ok (.iload_n 1, 1) := by decide +kernel
theorem dX5_make_62 : decode cX5_make 62 = .ok (.iaload, 1) := by decide +kernel
theorem dX5_make_63 : decode cX5_make 63 = .ok (.bipush 11, 2) := by decide +kernel
theorem dX5_make_65 : decode cX5_make 65 = .ok (.invokevirtual 106, 3) := by decide +kernel
theorem dX5_make_68 : decode cX5_make 68 = .ok (.aload_n 0, 1) := by decide +kernel
theorem dX5_make_69 : decode cX5_make 69 = .ok (.iconst 0, 1) := by decide +kernel
theorem dX5_make_70 : decode cX5_make 70 = .ok (.iconst 3, 1) := by decide +kernel
theorem dX5_make_71 : decode cX5_make 71 = .ok (.invokevirtual 106, 3) := by decide +kernel
theorem dX5_make_74 : decode cX5_make 74 = .ok (.aload_n 0, 1) := by decide +kernel
theorem dX5_make_75 : decode cX5_make 75 = .ok (.aload_n 0, 1) := by decide +kernel
theorem dX5_make_76 : decode cX5_make 76 = .ok (.getfield 42, 3) := by decide +kernel
theorem dX5_make_79 : decode cX5_make 79 = .ok (.iload_n 1, 1) := by decide +kernel
theorem dX5_make_80 : decode cX5_make 80 = .ok (.iaload, 1) := by decide +kernel
theorem dX5_make_81 : decode cX5_make 81 = .ok (.iconst 4, 1) := by decide +kernel
theorem dX5_make_82 : decode cX5_make 82 = .ok (.invokevirtual 106, 3) := by decide +kernel
theorem dX5_make_85 : decode cX5_make 85 = .ok (.iconst 0, 1) := by decide +kernel
theorem dX5_make_86 : decode cX5_make 86 = .ok (.istore_n 3, 1) := by decide +kernel
theorem dX5_make_87 : decode cX5_make 87 = .ok (.iload_n 3, 1) := by decide +kernel
theorem dX5_make_88 : decode cX5_make 88 = .ok (.aload_n 0, 1) := by decide +kernel
theorem dX5_make_89 : decode cX5_make 89 = .ok (.getfield 42, 3) := by decide +kernel
theorem dX5_make_92 : decode cX5_make 92 = .ok (.iload_n 1, 1) := by decide +kernel
theorem dX5_make_93 : decode cX5_make 93 = .ok (.iaload, 1) := by decide +kernel
theorem dX5_make_94 : decode cX5_make 94 = .ok (.if_icmp .ge 31, 3) := by decide +kernel
theorem dX5_make_97 : decode cX5_make 97 = .ok (.aload_n 0, 1) := by decide +kernel
theorem dX5_make_98 : decode cX5_make 98 = .ok (.aload_n 0, 1) := by decide +kernel
theorem dX5_make_99 : decode cX5_make 99 = .ok (.getfield 38, 3) := by decide +kernel
theorem dX5_make_102 : decode cX5_make 102 = .ok (.iload_n 1, 1) := by decide +kernel
theorem dX5_make_103 : decode cX5_make 103 = .ok (.laload, 1) := by decide +kernel
theorem dX5_make_104 : decode cX5_make 104 = .ok (.bipush 8, 2) := by decide +kernel
theorem dX5_make_106 : decode cX5_make 106 = .ok (.iload_n 3, 1) := by decide +kernel
theorem dX5_make_107 : decode cX5_make 107 = .ok (.imul, 1) := by decide +kernel
theorem dX5_make_108 : decode cX5_make 108 = .ok (.lshr, 1) := by decide +kernel
theorem dX5_make_109 : decode cX5_make 109 = .ok (.ldc2_w 110, 3) := by decide +kernel
theorem dX5_make_112 : decode cX5_make 112 = .ok (.land, 1) := by decide +kernel
theorem dX5_make_113 : decode cX5_make 113 = .ok (.l2i, 1) := by decide +kernel
theorem dX5_make_114 : decode cX5_make 114 = .ok (.bipush 8, 2) := by decide +kernel
theorem dX5_make_116 : decode cX5_make 116 = .ok (.invokevirtual 106, 3) := by decide +kernel
theorem dX5_make_119 : decode cX5_make 119 = .ok (.iinc 3 1, 3) := by decide +kernel
theorem dX5_make_122 : decode cX5_make 122 = .ok (.goto (-35), 3) := by decide +kernel
theorem dX5_make_125 : decode cX5_make 125 = .ok (.iconst 0, 1) := by decide +kernel
theorem dX5_make_126 : decode cX5_make 126 = .ok (.istore_n 3, 1) := by decide +kernel
theorem dX5_make_127 : decode cX5_make 127 = .ok (.iconst 0, 1) := by decide +kernel
theorem dX5_make_128 : decode cX5_make 128 = .ok (.istore 4, 2) := by decide +kernel
theorem dX5_make_130 : decode cX5_make 130 = .ok (.iload 4, 2) := by decide +kernel
theorem dX5_make_132 : decode cX5_make 132 = .ok (.aload_n 0, 1) := by decide +kernel
theorem dX5_make_133 : decode cX5_make 133 = .ok (.getfield 103, 3) := by decide +kernel
theorem dX5_make_136 : decode cX5_make 136 = .ok (.if_icmp .ge 21, 3) := by decide +kernel
theorem dX5_make_139 : decode cX5_make 139 = .ok (.iload_n 3, 1) := by decide +kernel
theorem dX5_make_140 : decode cX5_make 140 = .ok (.aload_n 0, 1) := by decide +kernel
theorem dX5_make_141 : decode cX5_make 141 = .ok (.getfield 96, 3) := by decide +kernel
theorem dX5_make_144 : decode cX5_make 144 = .ok (.iload 4, 2) := by decide +kernel
theorem dX5_make_146 : decode cX5_make 146 = .ok (.iaload, 1) := by decide +kernel
theorem dX5_make_147 : decode cX5_make 147 = .ok (.invokestatic 112, 3) := by decide +kernel
theorem dX5_make_150 : decode cX5_make 150 = .ok (.istore_n 3, 1) := by decide +kernel
theorem dX5_make_151 : decode cX5_make 151 = .ok (.iinc 4 1, 3) := by decide +kernel
theorem dX5_make_154 : decode cX5_make 154 = .ok (.goto (-24), 3) := by decide +kernel
theorem dX5_make_157 : decode cX5_make 157 = .ok (.aload_n 0, 1) := by decide +kernel
theorem dX5_make_158 : decode cX5_make 158 = .ok (.iload_n 3, 1) := by decide +kernel
theorem dX5_make_159 : decode cX5_make 159 = .ok (.bipush 15, 2) := by decide +kernel
theorem dX5_make_161 : decode cX5_make 161 = .ok (.invokevirtual 106, 3) := by decide +kernel
theorem dX5_make_164 : decode cX5_make 164 = .ok (.iconst 0, 1) := by decide +kernel
theorem dX5_make_165 : decode cX5_make 165 = .ok (.istore 4, 2) := by decide +kernel
theorem dX5_make_167 : decode cX5_make 167 = .ok (.iconst 0, 1) := by decide +kernel
theorem dX5_make_168 : decode cX5_make 168 = .ok (.istore 5, 2) := by decide +kernel
theorem dX5_make_170 : decode cX5_make 170 = .ok (.iconst 2, 1) := by decide +kernel
theorem dX5_make_171 : decode cX5_make 171 = .ok (.istore 6, 2) := by decide +kernel
theorem dX5_make_173 : decode cX5_make 173 = .ok (.iconst 0, 1) := by decide +kernel
theorem dX5_make_174 : decode cX5_make 174 = .ok (.istore 7, 2) := by decide +kernel
theorem dX5_make_176 : decode cX5_make 176 = .ok (.iload 7, 2) := by decide +kernel
theorem dX5_make_178 : decode cX5_make 178 = .ok (.aload_n 0, 1) := by decide +kernel
theorem dX5_make_179 : decode cX5_make 179 = .ok (.getfield 103, 3) := by decide +kernel
theorem dX5_make_182 : decode cX5_make 182 = .ok (.if_icmp .ge 96, 3) := by decide +kernel
theorem dX5_make_185 : decode cX5_make 185 = .ok (.aload_n 0, 1) := by decide +kernel
theorem dX5_make_186 : decode cX5_make 186 = .ok (.iload_n 2, 1) := by decide +kernel
theorem dX5_make_187 : decode cX5_make 187 = .ok (.iload 4, 2) := by decide +kernel
theorem dX5_make_189 : decode cX5_make 189 = .ok (.aload_n 0, 1) := by decide +kernel
theorem dX5_make_190 : decode cX5_make 190 = .ok (.getfield 96, 3) := by decide +kernel
theorem dX5_make_193 : decode cX5_make 193 = .ok (.iload 7, 2) := by decide +kernel
theorem dX5_make_195 : decode cX5_make 195 = .ok (.iaload, 1) := by decide +kernel
theorem dX5_make_196 : decode cX5_make 196 = .ok (.iload 7, 2) := by decide +kernel
theorem dX5_make_198 : decode cX5_make 198 = .ok (.invokevirtual 116, 3) := by decide +kernel
theorem dX5_make_201 : decode cX5_make 201 = .ok (.istore 4, 2) := by decide +kernel
theorem dX5_make_203 : decode cX5_make 203 = .ok (.aload_n 0, 1) := by decide +kernel
theorem dX5_make_204 : decode cX5_make 204 = .ok (.getfield 96, 3) := by decide +kernel
theorem dX5_make_207 : decode cX5_make 207 = .ok (.iload 7, 2) := by decide +kernel
theorem dX5_make_209 : decode cX5_make 209 = .ok (.iaload, 1) := by decide +kernel
theorem dX5_make_210 : decode cX5_make 210 = .ok (.iload 6, 2) := by decide +kernel
theorem dX5_make_212 : decode cX5_make 212 = .ok (.if_icmp .ne 10, 3) := by decide +kernel
theorem dX5_make_215 : decode cX5_make 215 = .ok (.iload 5, 2) := by decide +kernel
theorem dX5_make_217 : decode cX5_make 217 = .ok (.iconst 1, 1) := by decide +kernel
theorem dX5_make_218 : decode cX5_make 218 = .ok (.iadd, 1) := by decide +kernel
theorem dX5_make_219 : decode cX5_make 219 = .ok (.goto 4, 3) := by decide +kernel
theorem dX5_make_222 : decode cX5_make 222 = .ok (.iconst 1, 1) := by decide +kernel
theorem dX5_make_223 : decode cX5_make 223 = .ok (.istore 5, 2) := by decide +kernel
theorem dX5_make_225 : decode cX5_make 225 = .ok (.aload_n 0, 1) := by decide +kernel
theorem dX5_make_226 : decode cX5_make 226 = .ok (.getfield 96, 3) := by decide +kernel
theorem dX5_make_229 : decode cX5_make 229 = .ok (.iload 7, 2) := by decide +kernel
theorem dX5_make_231 : decode cX5_make 231 = .ok (.iaload, 1) := by decide +kernel
theorem dX5_make_232 : decode cX5_make 232 = .ok (.istore 6, 2) := by decide +kernel
theorem dX5_make_234 : decode cX5_make 234 = .ok (.iload 5, 2) := by decide +kernel
theorem dX5_make_236 : decode cX5_make 236 = .ok (.iconst 5, 1) := by decide +kernel
theorem dX5_make_237 : decode cX5_make 237 = .ok (.if_icmp .ne 35, 3) := by decide +kernel
theorem dX5_make_240 : decode cX5_make 240 = .ok (.iload 7, 2) := by decide +kernel
theorem dX5_make_242 : decode cX5_make 242 = .ok (.aload_n 0, 1) := by decide +kernel
theorem dX5_make_243 : decode cX5_make 243 = .ok (.getfield 103, 3) := by decide +kernel
theorem dX5_make_246 : decode cX5_make 246 = .ok (.iconst 1, 1) := by decide +kernel
theorem dX5_make_247 : decode cX5_make 247 = .ok (.isub, 1) := by decide +kernel
theorem dX5_make_248 : decode cX5_make 248 = .ok (.if_icmp .ge 24, 3) := by decide +kernel
theorem dX5_make_251 : decode cX5_make 251 = .ok (.iconst 1, 1) := by decide +kernel
theorem dX5_make_252 : decode cX5_make 252 = .ok (.iload 6, 2) := by decide +kernel
theorem dX5_make_254 : decode cX5_make 254 = .ok (.isub, 1) := by decide +kernel
theorem dX5_make_255 : decode cX5_make 255 = .ok (.istore 6, 2) := by decide +kernel
theorem dX5_make_257 : decode cX5_make 257 = .ok (.iconst 1, 1) := by decide +kernel
theorem dX5_make_258 : decode cX5_make 258 = .ok (.istore 5, 2) := by decide +kernel
theorem dX5_make_260 : decode cX5_make 260 = .ok (.aload_n 0, 1) := by decide +kernel
theorem dX5_make_261 : decode cX5_make 261 = .ok (.iload_n 2, 1) := by decide +kernel
theorem dX5_make_262 : decode cX5_make 262 = .ok (.iload 4, 2) := by decide +kernel
theorem dX5_make_264 : decode cX5_make 264 = .ok (.iload 6, 2) := by decide +kernel
theorem dX5_make_266 : decode cX5_make 266 = .ok (.iconst (-1), 1) := by decide +kernel
theorem dX5_make_267 : decode cX5_make 267 = .ok (.invokevirtual 116, 3) := by decide +kernel
theorem dX5_make_270 : decode cX5_make 270 = .ok (.istore 4, 2) := by decide +kernel
theorem dX5_make_272 : decode cX5_make 272 = .ok (.iinc 7 1, 3) := by decide +kernel
theorem dX5_make_275 : decode cX5_make 275 = .ok (.goto (-99), 3) := by decide +kernel
theorem dX5_make_278 : decode cX5_make 278 = .ok (.aload_n 0, 1) := by decide +kernel
theorem dX5_make_279 : decode cX5_make 279 = .ok (.iload_n 2, 1) := by decide +kernel
theorem dX5_make_280 : decode cX5_make 280 = .ok (.iload 4, 2) := by decide +kernel
theorem dX5_make_282 : decode cX5_make 282 = .ok (.iconst 1, 1) := by decide +kernel
theorem dX5_make_283 : decode cX5_make 283 = .ok (.sipush 200, 3) := by decide +kernel
theorem dX5_make_286 : decode cX5_make 286 = .ok (.invokevirtual 116, 3) := by decide +kernel
theorem dX5_make_289 : decode cX5_make 289 = .ok (.istore 4, 2) := by decide +kernel
theorem dX5_make_291 : decode cX5_make 291 = .ok (.aload_n 0, 1) := by decide +kernel
theorem dX5_make_292 : decode cX5_make 292 = .ok (.iload_n 2, 1) := by decide +kernel
theorem dX5_make_293 : decode cX5_make 293 = .ok (.iload 4, 2) := by decide +kernel
theorem dX5_make_295 : decode cX5_make 295 = .ok (.iconst 1, 1) := by decide +kernel
theorem dX5_make_296 : decode cX5_make 296 = .ok (.sipush 201, 3) := by decide +kernel
theorem dX5_make_299 : decode cX5_make 299 = .ok (.invokevirtual 116, 3) := by decide +kernel
theorem dX5_make_302 : decode cX5_make 302 = .ok (.istore 4, 2) := by decide +kernel
theorem dX5_make_304 : decode cX5_make 304 = .ok (.iconst 0, 1) := by decide +kernel
theorem dX5_make_305 : decode cX5_make 305 = .ok (.istore 7, 2) := by decide +kernel
theorem dX5_make_307 : decode cX5_make 307 = .ok (.iload 7, 2) := by decide +kernel
theorem dX5_make_309 : decode cX5_make 309 = .ok (.bipush 8, 2) := by decide +kernel
theorem dX5_make_311 : decode cX5_make 311 = .ok (.if_icmp .ge 22, 3) := by decide +kernel
theorem dX5_make_314 : decode cX5_make 314 = .ok (.aload_n 0, 1) := by decide +kernel
theorem dX5_make_315 : decode cX5_make 315 = .ok (.iload_n 2, 1) := by decide +kernel
theorem dX5_make_316 : decode cX5_make 316 = .ok (.iload 4, 2) := by decide +kernel
theorem dX5_make_318 : decode cX5_make 318 = .ok (.iconst 1, 1) := by decide +kernel
theorem dX5_make_319 : decode cX5_make 319 = .ok (.sipush 200, 3) := by decide +kernel
theorem dX5_make_322 : decode cX5_make 322 = .ok (.invokevirtual 116, 3) := by decide +kernel
theorem dX5_make_325 : decode cX5_make 325 = .ok (.istore 4, 2) := by decide +kernel
theorem dX5_make_327 : decode cX5_make 327 = .ok (.iinc 7 1, 3) := by decide +kernel
theorem dX5_make_330 : decode cX5_make 330 = .ok (.goto (-23), 3) := by decide +kernel
theorem dX5_make_333 : decode cX5_make 333 = .ok (.aload_n 0, 1) := by decide +kernel
theorem dX5_make_334 : decode cX5_make 334 = .ok (.getfield 63, 3) := by decide +kernel
theorem dX5_make_337 : decode cX5_make 337 = .ok (.iload_n 2, 1) := by decide +kernel
theorem dX5_make_338 : decode cX5_make 338 = .ok (.iload 4, 2) := by decide +kernel
theorem dX5_make_340 : decode cX5_make 340 = .ok (.iastore, 1) := by decide +kernel
theorem dX5_make_341 : decode cX5_make 341 = .ok (.return_, 1) := by decide +kernel
theorem dX5_begin_0 : decode cX5_begin 0 = .ok (.aload_n 0, 1) := by decide +kernel
theorem dX5_begin_1 : decode cX5_begin 1 = .ok (.getfield 78, 3) := by decide +kernel
theorem dX5_begin_4 : decode cX5_begin 4 = .ok (.iload_n 1, 1) := by decide +kernel
theorem dX5_begin_5 : decode cX5_begin 5 = .ok (.iconst 0, 1) := by decide +kernel
theorem dX5_begin_6 : decode cX5_begin 6 = .ok (.iastore, 1) := by decide +kernel
theorem dX5_begin_7 : decode cX5_begin 7 = .ok (.aload_n 0, 1) := by decide +kernel
theorem dX5_begin_8 : decode cX5_begin 8 = .ok (.getfield 81, 3) := by decide +kernel
theorem dX5_begin_11 : decode cX5_begin 11 = .ok (.iload_n 1, 1) := by decide +kernel
theorem dX5_begin_12 : decode cX5_begin 12 = .ok (.iconst 0, 1) := by decide +kernel
theorem dX5_begin_13 : decode cX5_begin 13 = .ok (.iastore, 1) := by decide +kernel
theorem dX5_begin_14 : decode cX5_begin 14 = .ok (.aload_n 0, 1) := by decide +kernel
theorem dX5_begin_15 : decode cX5_begin 15 = .ok (.getfield 84, 3) := by decide +kernel
theorem dX5_begin_18 : decode cX5_begin 18 = .ok (.iload_n 1, 1) := by decide +kernel
theorem dX5_begin_19 : decode cX5_begin 19 = .ok (.iconst 2, 1) := by decide +kernel
theorem dX5_begin_20 : decode cX5_begin 20 = .ok (.iastore, 1) := by decide +kernel
theorem dX5_begin_21 : decode cX5_begin 21 = .ok (.aload_n 0, 1) := by decide +kernel
theorem dX5_begin_22 : decode cX5_begin 22 = .ok (.getfield 87, 3) := by decide +kernel
theorem dX5_begin_25 : decode cX5_begin 25 = .ok (.iload_n 1, 1) := by decide +kernel
theorem dX5_begin_26 : decode cX5_begin 26 = .ok (.sipush 999, 3) := by decide +kernel
theorem dX5_begin_29 : decode cX5_begin 29 = .ok (.iastore, 1) := by decide +kernel
theorem dX5_begin_30 : decode cX5_begin 30 = .ok (.aload_n 0, 1) := by decide +kernel
theorem dX5_begin_31 : decode cX5_begin 31 = .ok (.getfield 90, 3) := by decide +kernel
theorem dX5_begin_34 : decode cX5_begin 34 = .ok (.iload_n 1, 1) := by decide +kernel
theorem dX5_begin_35 : decode cX5_begin 35 = .ok (.iconst 0, 1) := by decide +kernel
theorem dX5_begin_36 : decode cX5_begin 36 = .ok (.iastore, 1) := by decide +kernel
theorem dX5_begin_37 : decode cX5_begin 37 = .ok (.return_, 1) := by decide +kernel
theorem dX5_isLong_0 : decode cX5_isLong 0 = .ok (.aload_n 0, 1) := by decide +kernel
theorem dX5_isLong_1 : decode cX5_isLong 1 = .ok (.getfield 75, 3) := by decide +kernel
theorem dX5_isLong_4 : decode cX5_isLong 4 = .ok (.sipush 128, 3) := by decide +kernel
theorem dX5_isLong_7 : decode cX5_isLong 7 = .ok (.iload_n 1, 1) := by decide +kernel
theorem dX5_isLong_8 : decode cX5_isLong 8 = .ok (.imul, 1) := by decide +kernel
theorem dX5_isLong_9 : decode cX5_isLong 9 = .ok (.bipush 13, 2) := by decide +kernel
theorem dX5_isLong_11 : decode cX5_isLong 11 = .ok (.iadd, 1) := by decide +kernel
theorem dX5_isLong_12 : decode cX5_isLong 12 = .ok (.iaload, 1) := by decide +kernel
theorem dX5_isLong_13 : decode cX5_isLong 13 = .ok (.iconst 1, 1) := by decide +kernel
theorem dX5_isLong_14 : decode cX5_isLong 14 = .ok (.if_icmp .ne 7, 3) := by decide +kernel
theorem dX5_isLong_17 : decode cX5_isLong 17 = .ok (.iconst 1, 1) := by decide +kernel
theorem dX5_isLong_18 : decode cX5_isLong 18 = .ok (.goto 4, 3) := by decide +kernel
theorem dX5_isLong_21 : decode cX5_isLong 21 = .ok (.iconst 0, 1) := by decide +kernel
theorem dX5_isLong_22 : decode cX5_isLong 22 = .ok (.ireturn, 1) := by decide +kernel
theorem dX5_number_0 : decode cX5_number 0 = .ok (.iconst 0, 1) := by decide +kernel
theorem dX5_number_1 : decode cX5_number 1 = .ok (.istore 4, 2) := by decide +kernel
theorem dX5_number_3 : decode cX5_number 3 = .ok (.iconst 0, 1) := by decide +kernel
theorem dX5_number_4 : decode cX5_number 4 = .ok (.istore 5, 2) := by decide +kernel
theorem dX5_number_6 : decode cX5_number 6 = .ok (.iload 5, 2) := by decide +kernel
theorem dX5_number_8 : decode cX5_number 8 = .ok (.iload_n 3, 1) := by decide +kernel
theorem dX5_number_9 : decode cX5_number 9 = .ok (.if_icmp .ge 31, 3) := by decide +kernel
theorem dX5_number_12 : decode cX5_number 12 = .ok (.iconst 2, 1) := by decide +kernel
theorem dX5_number_13 : decode cX5_number 13 = .ok (.iload 4, 2) := by decide +kernel
theorem dX5_number_15 : decode cX5_number 15 = .ok (.imul, 1) := by decide +kernel
theorem dX5_number_16 : decode cX5_number 16 = .ok (.aload_n 0, 1) := by decide +kernel
theorem dX5_number_17 : decode cX5_number 17 = .ok (.getfield 75, 3) := by decide +kernel
theorem dX5_number_20 : decode cX5_number 20 = .ok (.sipush 128, 3) := by decide +kernel
theorem dX5_number_23 : decode cX5_number 23 = .ok (.iload_n 1, 1) := by decide +kernel
theorem dX5_number_24 : decode cX5_number 24 = .ok (.imul, 1) := by decide +kernel
theorem dX5_number_25 : decode cX5_number 25 = .ok (.iload_n 2, 1) := by decide +kernel
theorem dX5_number_26 : decode cX5_number 26 = .ok (.iadd, 1) := by decide +kernel
theorem dX5_number_27 : decode cX5_number 27 = .ok (.iload 5, 2) := by decide +kernel
theorem dX5_number_29 : decode cX5_number 29 = .ok (.iadd, 1) := by decide +kernel
theorem dX5_number_30 : decode cX5_number 30 = .ok (.iaload, 1) := by decide +kernel
theorem dX5_number_31 : decode cX5_number 31 = .ok (.iadd, 1) := by decide +kernel
theorem dX5_number_32 : decode cX5_number 32 = .ok (.istore 4, 2) := by decide +kernel
theorem dX5_number_34 : decode cX5_number 34 = .ok (.iinc 5 1, 3) := by decide +kernel
theorem dX5_number_37 : decode cX5_number 37 = .ok (.goto (-31), 3) := by decide +kernel
theorem dX5_number_40 : decode cX5_number 40 = .ok (.iload 4, 2) := by decide +kernel
theorem dX5_number_42 : decode cX5_number 42 = .ok (.ireturn, 1) := by decide +kernel
set_option maxRecDepth 20000 in
theorem ggX5_bytesOf_X5_isLong : GoodIn wsX5_bytesOf wsX5_isLong := goodIn_r _ [5, 6, 11, 12, 13, 14, 15, 16, 17, 18, 19, 20, 21, 22, 23, 24, 25, 26, 27, 28, 29, 30, 31, 32, 33, 34, 35, 36, 37, 38, 39, 40, 41, 42, 43, 44, 45] (by decide +kernel) (by decide +kernel)
set_option maxRecDepth 20000 in
theorem gX5_bytesOf_X5_isLong : GoodIn wsX5_bytesOf (wsV RX5 120 RX5 yX5_isLong wsX5_isLong) := goodIn_app (goodIn_of _ (by decide +kernel)) ggX5_bytesOf_X5_isLong
set_option maxRecDepth 20000 in
theorem ggX5_bytesOf_X5_number : GoodIn wsX5_bytesOf wsX5_number := goodIn_r _ [10, 6, 11, 12, 13, 14, 15, 16, 17, 18, 19, 20, 21, 22, 23, 24, 25, 26, 27, 28, 29, 30, 31, 32, 33, 34, 35, 36, 37, 38, 39, 40, 41, 42, 43, 44, 45] (by decide +kernel) (by decide +kernel)
set_option maxRecDepth 20000 in
theorem gX5_bytesOf_X5_number : GoodIn wsX5_bytesOf (wsV RX5 124 RX5 yX5_number wsX5_number) := goodIn_app (goodIn_of _ (by decide +kernel)) ggX5_bytesOf_X5_number
theorem dX5_bytesOf_0 : decode cX5_bytesOf 0 = .ok (.aload_n 0, 1) := by decide +kernel
theorem dX5_bytesOf_1 : decode cX5_bytesOf 1 = .ok (.iload_n 1, 1) := by decide +kernel
theorem dX5_bytesOf_2 : decode cX5_bytesOf 2 = .ok (.aload_n 0, 1) := by decide +kernel
theorem dX5_bytesOf_3 : decode cX5_bytesOf 3 = .ok (.iload_n 1, 1) := by decide +kernel
theorem dX5_bytesOf_4 : decode cX5_bytesOf 4 = .ok (.invokevirtual 120, 3) := by decide +kernel
theorem dX5_bytesOf_7 : decode cX5_bytesOf 7 = .ok (.ifCond .eq 8, 3) := by decide +kernel
theorem dX5_bytesOf_10 : decode cX5_bytesOf 10 = .ok (.bipush 35, 2) := by decide +kernel
theorem dX5_bytesOf_12 : decode cX5_bytesOf 12 = .ok (.goto 5, 3) := by decide +kernel
theorem dX5_bytesOf_15 : decode cX5_bytesOf 15 = .ok (.bipush 15, 2) := by decide +kernel
theorem dX5_bytesOf_17 : decode cX5_bytesOf 17 = .ok (.iconst 4, 1) := by decide +kernel
theorem dX5_bytesOf_18 : decode cX5_bytesOf 18 = .ok (.invokevirtual 124, 3) := by decide +kernel
theorem dX5_bytesOf_21 : decode cX5_bytesOf 21 = .ok (.istore_n 2, 1) := by decide +kernel
theorem dX5_bytesOf_22 : decode cX5_bytesOf 22 = .ok (.iload_n 2, 1) := by decide +kernel
theorem dX5_bytesOf_23 : decode cX5_bytesOf 23 = .ok (.bipush 8, 2) := by decide +kernel
theorem dX5_bytesOf_25 : decode cX5_bytesOf 25 = .ok (.if_icmp .le 8, 3) := by decide +kernel
theorem dX5_bytesOf_28 : decode cX5_bytesOf 28 = .ok (.bipush 8, 2) := by decide +kernel
theorem dX5_bytesOf_30 : decode cX5_bytesOf 30 = .ok (.goto 4, 3) := by decide +kernel
theorem dX5_bytesOf_33 : decode cX5_bytesOf 33 = .ok (.iload_n 2, 1) := by decide +kernel
theorem dX5_bytesOf_34 : decode cX5_bytesOf 34 = .ok (.ireturn, 1) := by decide +kernel
set_option maxRecDepth 20000 in
theorem ggX5_isRight_X5_nextCheck : GoodIn wsX5_isRight wsX5_nextCheck := goodIn_r _ [6] (by decide +kernel) (by decide +kernel)
set_option maxRecDepth 20000 in
theorem gX5_isRight_X5_nextCheck : GoodIn wsX5_isRight (va_wsS RX5 112 yX5_nextCheck wsX5_nextCheck) := goodIn_app (goodIn_of _ (by decide +kernel)) ggX5_isRight_X5_nextCheck
set_option maxRecDepth 20000 in
theorem ggX5_isRight_X5_number : GoodIn wsX5_isRight wsX5_number := goodIn_r _ [10, 2, 11, 12, 13, 14, 15, 16, 17, 18, 19, 20, 21, 22, 23, 24, 25, 26, 27, 28, 29, 30, 31, 32, 33, 34, 35, 36, 37, 38, 39, 40, 41, 42, 43, 44, 45] (by decide +kernel) (by decide +kernel)
set_option maxRecDepth 20000 in
theorem gX5_isRight_X5_number : GoodIn wsX5_isRight (wsV RX5 124 RX5 yX5_number wsX5_number) := goodIn_app (goodIn_of _ (by decide +kernel)) ggX5_isRight_X5_number
theorem dX5_isRight_0 : decode cX5_isRight 0 = .ok (.iconst 0, 1) := by decide +kernel
theorem dX5_isRight_1 : decode cX5_isRight 1 = .ok (.istore_n 2, 1) := by decide +kernel
theorem dX5_isRight_2 : decode cX5_isRight 2 = .ok (.iconst 0, 1) := by decide +kernel
theorem dX5_isRight_3 : decode cX5_isRight 3 = .ok (.istore_n 3, 1) := by decide +kernel
theorem dX5_isRight_4 : decode cX5_isRight 4 = .ok (.iload_n 3, 1) := by decide +kernel
theorem dX5_isRight_5 : decode cX5_isRight 5 = .ok (.aload_n 0, 1) := by decide +kernel
theorem dX5_isRight_6 : decode cX5_isRight 6 = .ok (.getfield 87, 3) := by decide +kernel
theorem dX5_isRight_9 : decode cX5_isRight 9 = .ok (.iload_n 1, 1) := by decide +kernel
theorem dX5_isRight_10 : decode cX5_isRight 10 = .ok (.iaload, 1) := by decide +kernel
theorem dX5_isRight_11 : decode cX5_isRight 11 = .ok (.bipush 15, 2) := by decide +kernel
theorem dX5_isRight_13 : decode cX5_isRight 13 = .ok (.isub, 1) := by decide +kernel
theorem dX5_isRight_14 : decode cX5_isRight 14 = .ok (.if_icmp .ge 26, 3) := by decide +kernel
theorem dX5_isRight_17 : decode cX5_isRight 17 = .ok (.iload_n 2, 1) := by decide +kernel
theorem dX5_isRight_18 : decode cX5_isRight 18 = .ok (.aload_n 0, 1) := by decide +kernel
theorem dX5_isRight_19 : decode cX5_isRight 19 = .ok (.getfield 75, 3) := by decide +kernel
theorem dX5_isRight_22 : decode cX5_isRight 22 = .ok (.sipush 128, 3) := by decide +kernel
theorem dX5_isRight_25 : decode cX5_isRight 25 = .ok (.iload_n 1, 1) := by decide +kernel
theorem dX5_isRight_26 : decode cX5_isRight 26 = .ok (.imul, 1) := by decide +kernel
theorem dX5_isRight_27 : decode cX5_isRight 27 = .ok (.iload_n 3, 1) := by decide +kernel
theorem dX5_isRight_28 : decode cX5_isRight 28 = .ok (.iadd, 1) := by decide +kernel
theorem dX5_isRight_29 : decode cX5_isRight 29 = .ok (.iaload, 1) := by decide +kernel
theorem dX5_isRight_30 : decode cX5_isRight 30 = .ok (.invokestatic 112, 3) := by decide +kernel
theorem dX5_isRight_33 : decode cX5_isRight 33 = .ok (.istore_n 2, 1) := by decide +kernel
theorem dX5_isRight_34 : decode cX5_isRight 34 = .ok (.iinc 3 1, 3) := by decide +kernel
theorem dX5_isRight_37 : decode cX5_isRight 37 = .ok (.goto (-33), 3) := by decide +kernel
theorem dX5_isRight_40 : decode cX5_isRight 40 = .ok (.iload_n 2, 1) := by decide +kernel
theorem dX5_isRight_41 : decode cX5_isRight 41 = .ok (.aload_n 0, 1) := by decide +kernel
theorem dX5_isRight_42 : decode cX5_isRight 42 = .ok (.iload_n 1, 1) := by decide +kernel
theorem dX5_isRight_43 : decode cX5_isRight 43 = .ok (.aload_n 0, 1) := by decide +kernel
theorem dX5_isRight_44 : decode cX5_isRight 44 = .ok (.getfield 87, 3) := by decide +kernel
theorem dX5_isRight_47 : decode cX5_isRight 47 = .ok (.iload_n 1, 1) := by decide +kernel
theorem dX5_isRight_48 : decode cX5_isRight 48 = .ok (.iaload, 1) := by decide +kernel
theorem dX5_isRight_49 : decode cX5_isRight 49 = .ok (.bipush 15, 2) := by decide +kernel
theorem dX5_isRight_51 : decode cX5_isRight 51 = .ok (.isub, 1) := by decide +kernel
theorem dX5_isRight_52 : decode cX5_isRight 52 = .ok (.bipush 15, 2) := by decide +kernel
theorem dX5_isRight_54 : decode cX5_isRight 54 = .ok (.invokevirtual 124, 3) := by decide +kernel
theorem dX5_isRight_57 : decode cX5_isRight 57 = .ok (.if_icmp .ne 7, 3) := by decide +kernel
theorem dX5_isRight_60 : decode cX5_isRight 60 = .ok (.iconst 1, 1) := by decide +kernel
theorem dX5_isRight_61 : decode cX5_isRight 61 = .ok (.goto 4, 3) := by decide +kernel
theorem dX5_isRight_64 : decode cX5_isRight 64 = .ok (.iconst 0, 1) := by decide +kernel
theorem dX5_isRight_65 : decode cX5_isRight 65 = .ok (.ireturn, 1) := by decide +kernel
set_option maxRecDepth 20000 in
theorem ggX5_takeTail_X5_isRight : GoodIn wsX5_takeTail wsX5_isRight := goodIn_r _ [6, 7, 8, 9, 10, 5, 11, 12, 13, 14, 15, 16, 17, 18, 19, 20, 21, 22, 23, 24, 25, 26, 27, 28, 29, 30, 31, 32, 33, 34, 35, 36, 37, 38, 39, 40, 41, 42, 43, 44, 45, 46, 47, 48, 49, 50] (by decide +kernel) (by decide +kernel)
set_option maxRecDepth 20000 in
theorem gX5_takeTail_X5_isRight : GoodIn wsX5_takeTail (wsV RX5 128 RX5 yX5_isRight wsX5_isRight) := goodIn_app (goodIn_of _ (by decide +kernel)) ggX5_takeTail_X5_isRight
theorem dX5_takeTail_0 : decode cX5_takeTail 0 = .ok (.aload_n 0, 1) := by decide +kernel
theorem dX5_takeTail_1 : decode cX5_takeTail 1 = .ok (.getfield 90, 3) := by decide +kernel
theorem dX5_takeTail_4 : decode cX5_takeTail 4 = .ok (.iload_n 1, 1) := by decide +kernel
theorem dX5_takeTail_5 : decode cX5_takeTail 5 = .ok (.iaload, 1) := by decide +kernel
theorem dX5_takeTail_6 : decode cX5_takeTail 6 = .ok (.istore_n 3, 1) := by decide +kernel
theorem dX5_takeTail_7 : decode cX5_takeTail 7 = .ok (.aload_n 0, 1) := by decide +kernel
theorem dX5_takeTail_8 : decode cX5_takeTail 8 = .ok (.getfield 90, 3) := by decide +kernel
theorem dX5_takeTail_11 : decode cX5_takeTail 11 = .ok (.iload_n 1, 1) := by decide +kernel
theorem dX5_takeTail_12 : decode cX5_takeTail 12 = .ok (.dup2, 1) := by decide +kernel
theorem dX5_takeTail_13 : decode cX5_takeTail 13 = .ok (.iaload, 1) := by decide +kernel
theorem dX5_takeTail_14 : decode cX5_takeTail 14 = .ok (.iconst 1, 1) := by decide +kernel
theorem dX5_takeTail_15 : decode cX5_takeTail 15 = .ok (.iadd, 1) := by decide +kernel
theorem dX5_takeTail_16 : decode cX5_takeTail 16 = .ok (.iastore, 1) := by decide +kernel
theorem dX5_takeTail_17 : decode cX5_takeTail 17 = .ok (.iload_n 3, 1) := by decide +kernel
theorem dX5_takeTail_18 : decode cX5_takeTail 18 = .ok (.iconst 2, 1) := by decide +kernel
theorem dX5_takeTail_19 : decode cX5_takeTail 19 = .ok (.if_icmp .ne 13, 3) := by decide +kernel
theorem dX5_takeTail_22 : decode cX5_takeTail 22 = .ok (.aload_n 0, 1) := by decide +kernel
theorem dX5_takeTail_23 : decode cX5_takeTail 23 = .ok (.iload_n 1, 1) := by decide +kernel
theorem dX5_takeTail_24 : decode cX5_takeTail 24 = .ok (.invokevirtual 128, 3) := by decide +kernel
theorem dX5_takeTail_27 : decode cX5_takeTail 27 = .ok (.ifCond .ne 5, 3) := by decide +kernel
theorem dX5_takeTail_30 : decode cX5_takeTail 30 = .ok (.iconst 2, 1) := by decide +kernel
theorem dX5_takeTail_31 : decode cX5_takeTail 31 = .ok (.ireturn, 1) := by decide +kernel
theorem dX5_takeTail_32 : decode cX5_takeTail 32 = .ok (.iload_n 3, 1) := by decide +kernel
theorem dX5_takeTail_33 : decode cX5_takeTail 33 = .ok (.iconst 1, 1) := by decide +kernel
theorem dX5_takeTail_34 : decode cX5_takeTail 34 = .ok (.if_icmp .eq 9, 3) := by decide +kernel
theorem dX5_takeTail_37 : decode cX5_takeTail 37 = .ok (.iload_n 2, 1) := by decide +kernel
theorem dX5_takeTail_38 : decode cX5_takeTail 38 = .ok (.ifCond .ne 5, 3) := by decide +kernel
theorem dX5_takeTail_41 : decode cX5_takeTail 41 = .ok (.iconst 3, 1) := by decide +kernel
theorem dX5_takeTail_42 : decode cX5_takeTail 42 = .ok (.ireturn, 1) := by decide +kernel
theorem dX5_takeTail_43 : decode cX5_takeTail 43 = .ok (.iload_n 3, 1) := by decide +kernel
theorem dX5_takeTail_44 : decode cX5_takeTail 44 = .ok (.bipush 9, 2) := by decide +kernel
theorem dX5_takeTail_46 : decode cX5_takeTail 46 = .ok (.if_icmp .ne 8, 3) := by decide +kernel
theorem dX5_takeTail_49 : decode cX5_takeTail 49 = .ok (.bipush 9, 2) := by decide +kernel
theorem dX5_takeTail_51 : decode cX5_takeTail 51 = .ok (.goto 4, 3) := by decide +kernel
theorem dX5_takeTail_54 : decode cX5_takeTail 54 = .ok (.iconst 0, 1) := by decide +kernel
theorem dX5_takeTail_55 : decode cX5_takeTail 55 = .ok (.ireturn, 1) := by decide +kernel
set_option maxRecDepth 20000 in
theorem ggX5_take_X5_takeTail : GoodIn wsX5_take wsX5_takeTail := goodIn_r _ [10, 11, 12, 13, 14, 9, 15, 2, 5, 16, 17, 18, 19, 20, 21, 22, 31, 32, 33, 34, 35, 36, 37, 38, 39, 40, 41, 42, 43, 44, 45, 46, 47, 48, 49, 50, 51, 52, 53, 54, 55, 56, 57, 58, 59, 60, 61, 62, 63, 64, 65] (by decide +kernel) (by decide +kernel)
set_option maxRecDepth 20000 in
theorem gX5_take_X5_takeTail : GoodIn wsX5_take (wsV RX5 131 RX5 yX5_takeTail wsX5_takeTail) := goodIn_app (goodIn_of _ (by decide +kernel)) ggX5_take_X5_takeTail
set_option maxRecDepth 20000 in
theorem ggX5_take_X5_isLong : GoodIn wsX5_take wsX5_isLong := goodIn_r _ [26, 5, 31, 32, 33, 34, 35, 36, 37, 38, 39, 40, 41, 42, 43, 44, 45, 46, 47, 48, 49, 50, 51, 52, 53, 54, 55, 56, 57, 58, 59, 60, 61, 62, 63, 64, 65] (by decide +kernel) (by decide +kernel)
set_option maxRecDepth 20000 in
theorem gX5_take_X5_isLong : GoodIn wsX5_take (wsV RX5 120 RX5 yX5_isLong wsX5_isLong) := goodIn_app (goodIn_of _ (by decide +kernel)) ggX5_take_X5_isLong
set_option maxRecDepth 20000 in
theorem ggX5_take_X5_bytesOf : GoodIn wsX5_take wsX5_bytesOf := goodIn_r _ [30, 23, 24, 25, 9, 26, 5, 19, 20, 21, 22, 31, 32, 33, 34, 35, 36, 37, 38, 39, 40, 41, 42, 43, 44, 45, 46, 47, 48, 49, 50, 51, 52, 53, 54, 55, 56, 57, 58, 59, 60, 61, 62, 63, 64, 65] (by decide +kernel) (by decide +kernel)
set_option maxRecDepth 20000 in
theorem gX5_take_X5_bytesOf : GoodIn wsX5_take (wsV RX5 134 RX5 yX5_bytesOf wsX5_bytesOf) := goodIn_app (goodIn_of _ (by decide +kernel)) ggX5_take_X5_bytesOf
theorem dX5_take_0 : decode cX5_take 0 = .ok (.aload_n 0, 1) := by decide +kernel
theorem dX5_take_1 : decode cX5_take 1 = .ok (.getfield 78, 3) := by decide +kernel
theorem dX5_take_4 : decode cX5_take 4 = .ok (.iload_n 1, 1) := by decide +kernel
theorem dX5_take_5 : decode cX5_take 5 = .ok (.iaload, 1) := by decide +kernel
theorem dX5_take_6 : decode cX5_take 6 = .ok (.aload_n 0, 1) := by decide +kernel
theorem dX5_take_7 : decode cX5_take 7 = .ok (.getfield 87, 3) := by decide +kernel
theorem dX5_take_10 : decode cX5_take 10 = .ok (.iload_n 1, 1) := by decide +kernel
theorem dX5_take_11 : decode cX5_take 11 = .ok (.iaload, 1) := by decide +kernel
theorem dX5_take_12 : decode cX5_take 12 = .ok (.if_icmp .ne 10, 3) := by decide +kernel
theorem dX5_take_15 : decode cX5_take 15 = .ok (.aload_n 0, 1) := by decide +kernel
theorem dX5_take_16 : decode cX5_take 16 = .ok (.iload_n 1, 1) := by decide +kernel
theorem dX5_take_17 : decode cX5_take 17 = .ok (.iload_n 2, 1) := by decide +kernel
theorem dX5_take_18 : decode cX5_take 18 = .ok (.invokevirtual 131, 3) := by decide +kernel
theorem dX5_take_21 : decode cX5_take 21 = .ok (.ireturn, 1) := by decide +kernel
theorem dX5_take_22 : decode cX5_take 22 = .ok (.aload_n 0, 1) := by decide +kernel
theorem dX5_take_23 : decode cX5_take 23 = .ok (.getfield 81, 3) := by decide +kernel
theorem dX5_take_26 : decode cX5_take 26 = .ok (.iload_n 1, 1) := by decide +kernel
theorem dX5_take_27 : decode cX5_take 27 = .ok (.iaload, 1) := by decide +kernel
theorem dX5_take_28 : decode cX5_take 28 = .ok (.iconst 5, 1) := by decide +kernel
theorem dX5_take_29 : decode cX5_take 29 = .ok (.if_icmp .ne 31, 3) := by decide +kernel
theorem dX5_take_32 : decode cX5_take 32 = .ok (.iload_n 2, 1) := by decide +kernel
theorem dX5_take_33 : decode cX5_take 33 = .ok (.aload_n 0, 1) := by decide +kernel
theorem dX5_take_34 : decode cX5_take 34 = .ok (.getfield 84, 3) := by decide +kernel
theorem dX5_take_37 : decode cX5_take 37 = .ok (.iload_n 1, 1) := by decide +kernel
theorem dX5_take_38 : decode cX5_take 38 = .ok (.iaload, 1) := by decide +kernel
theorem dX5_take_39 : decode cX5_take 39 = .ok (.if_icmp .ne 5, 3) := by decide +kernel
theorem dX5_take_42 : decode cX5_take 42 = .ok (.iconst 1, 1) := by decide +kernel
theorem dX5_take_43 : decode cX5_take 43 = .ok (.ireturn, 1) := by decide +kernel
theorem dX5_take_44 : decode cX5_take 44 = .ok (.aload_n 0, 1) := by decide +kernel
theorem dX5_take_45 : decode cX5_take 45 = .ok (.getfield 84, 3) := by decide +kernel
theorem dX5_take_48 : decode cX5_take 48 = .ok (.iload_n 1, 1) := by decide +kernel
theorem dX5_take_49 : decode cX5_take 49 = .ok (.iload_n 2, 1) := by decide +kernel
theorem dX5_take_50 : decode cX5_take 50 = .ok (.iastore, 1) := by decide +kernel
theorem dX5_take_51 : decode cX5_take 51 = .ok (.aload_n 0, 1) := by decide +kernel
theorem dX5_take_52 : decode cX5_take 52 = .ok (.getfield 81, 3) := by decide +kernel
theorem dX5_take_55 : decode cX5_take 55 = .ok (.iload_n 1, 1) := by decide +kernel
theorem dX5_take_56 : decode cX5_take 56 = .ok (.iconst 1, 1) := by decide +kernel
theorem dX5_take_57 : decode cX5_take 57 = .ok (.iastore, 1) := by decide +kernel
theorem dX5_take_58 : decode cX5_take 58 = .ok (.iconst 0, 1) := by decide +kernel
theorem dX5_take_59 : decode cX5_take 59 = .ok (.ireturn, 1) := by decide +kernel
theorem dX5_take_60 : decode cX5_take 60 = .ok (.aload_n 0, 1) := by decide +kernel
theorem dX5_take_61 : decode cX5_take 61 = .ok (.getfield 78, 3) := by decide +kernel
theorem dX5_take_64 : decode cX5_take 64 = .ok (.iload_n 1, 1) := by decide +kernel
theorem dX5_take_65 : decode cX5_take 65 = .ok (.iaload, 1) := by decide +kernel
theorem dX5_take_66 : decode cX5_take 66 = .ok (.ifCond .ne 10, 3) := by decide +kernel
theorem dX5_take_69 : decode cX5_take 69 = .ok (.iload_n 2, 1) := by decide +kernel
theorem dX5_take_70 : decode cX5_take 70 = .ok (.iconst 1, 1) := by decide +kernel
theorem dX5_take_71 : decode cX5_take 71 = .ok (.if_icmp .ne 5, 3) := by decide +kernel
theorem dX5_take_74 : decode cX5_take 74 = .ok (.iconst 3, 1) := by decide +kernel
theorem dX5_take_75 : decode cX5_take 75 = .ok (.ireturn, 1) := by decide +kernel
theorem dX5_take_76 : decode cX5_take 76 = .ok (.aload_n 0, 1) := by decide +kernel
theorem dX5_take_77 : decode cX5_take 77 = .ok (.getfield 81, 3) := by decide +kernel
theorem dX5_take_80 : decode cX5_take 80 = .ok (.iload_n 1, 1) := by decide +kernel
theorem dX5_take_81 : decode cX5_take 81 = .ok (.iload_n 2, 1) := by decide +kernel
theorem dX5_take_82 : decode cX5_take 82 = .ok (.aload_n 0, 1) := by decide +kernel
theorem dX5_take_83 : decode cX5_take 83 = .ok (.getfield 84, 3) := by decide +kernel
theorem dX5_take_86 : decode cX5_take 86 = .ok (.iload_n 1, 1) := by decide +kernel
theorem dX5_take_87 : decode cX5_take 87 = .ok (.iaload, 1) := by decide +kernel
theorem dX5_take_88 : decode cX5_take 88 = .ok (.if_icmp .ne 14, 3) := by decide +kernel
theorem dX5_take_91 : decode cX5_take 91 = .ok (.aload_n 0, 1) := by decide +kernel
theorem dX5_take_92 : decode cX5_take 92 = .ok (.getfield 81, 3) := by decide +kernel
theorem dX5_take_95 : decode cX5_take 95 = .ok (.iload_n 1, 1) := by decide +kernel
theorem dX5_take_96 : decode cX5_take 96 = .ok (.iaload, 1) := by decide +kernel
theorem dX5_take_97 : decode cX5_take 97 = .ok (.iconst 1, 1) := by decide +kernel
theorem dX5_take_98 : decode cX5_take 98 = .ok (.iadd, 1) := by decide +kernel
theorem dX5_take_99 : decode cX5_take 99 = .ok (.goto 4, 3) := by decide +kernel
theorem dX5_take_102 : decode cX5_take 102 = .ok (.iconst 1, 1) := by decide +kernel
theorem dX5_take_103 : decode cX5_take 103 = .ok (.iastore, 1) := by decide +kernel
theorem dX5_take_104 : decode cX5_take 104 = .ok (.aload_n 0, 1) := by decide +kernel
theorem dX5_take_105 : decode cX5_take 105 = .ok (.getfield 84, 3) := by decide +kernel
theorem dX5_take_108 : decode cX5_take 108 = .ok (.iload_n 1, 1) := by decide +kernel
theorem dX5_take_109 : decode cX5_take 109 = .ok (.iload_n 2, 1) := by decide +kernel
theorem dX5_take_110 : decode cX5_take 110 = .ok (.iastore, 1) := by decide +kernel
theorem dX5_take_111 : decode cX5_take 111 = .ok (.aload_n 0, 1) := by decide +kernel
theorem dX5_take_112 : decode cX5_take 112 = .ok (.getfield 75, 3) := by decide +kernel
theorem dX5_take_115 : decode cX5_take 115 = .ok (.sipush 128, 3) := by decide +kernel
theorem dX5_take_118 : decode cX5_take 118 = .ok (.iload_n 1, 1) := by decide +kernel
theorem dX5_take_119 : decode cX5_take 119 = .ok (.imul, 1) := by decide +kernel
theorem dX5_take_120 : decode cX5_take 120 = .ok (.aload_n 0, 1) := by decide +kernel
theorem dX5_take_121 : decode cX5_take 121 = .ok (.getfield 78, 3) := by decide +kernel
theorem dX5_take_124 : decode cX5_take 124 = .ok (.iload_n 1, 1) := by decide +kernel
theorem dX5_take_125 : decode cX5_take 125 = .ok (.iaload, 1) := by decide +kernel
theorem dX5_take_126 : decode cX5_take 126 = .ok (.iadd, 1) := by decide +kernel
theorem dX5_take_127 : decode cX5_take 127 = .ok (.iload_n 2, 1) := by decide +kernel
theorem dX5_take_128 : decode cX5_take 128 = .ok (.iastore, 1) := by decide +kernel
theorem dX5_take_129 : decode cX5_take 129 = .ok (.aload_n 0, 1) := by decide +kernel
theorem dX5_take_130 : decode cX5_take 130 = .ok (.getfield 78, 3) := by decide +kernel
theorem dX5_take_133 : decode cX5_take 133 = .ok (.iload_n 1, 1) := by decide +kernel
theorem dX5_take_134 : decode cX5_take 134 = .ok (.dup2, 1) := by decide +kernel
theorem dX5_take_135 : decode cX5_take 135 = .ok (.iaload, 1) := by decide +kernel
theorem dX5_take_136 : decode cX5_take 136 = .ok (.iconst 1, 1) := by decide +kernel
theorem dX5_take_137 : decode cX5_take 137 = .ok (.iadd, 1) := by decide +kernel
theorem dX5_take_138 : decode cX5_take 138 = .ok (.iastore, 1) := by decide +kernel
theorem dX5_take_139 : decode cX5_take 139 = .ok (.aload_n 0, 1) := by decide +kernel
theorem dX5_take_140 : decode cX5_take 140 = .ok (.getfield 78, 3) := by decide +kernel
theorem dX5_take_143 : decode cX5_take 143 = .ok (.iload_n 1, 1) := by decide +kernel
theorem dX5_take_144 : decode cX5_take 144 = .ok (.iaload, 1) := by decide +kernel
theorem dX5_take_145 : decode cX5_take 145 = .ok (.bipush 13, 2) := by decide +kernel
theorem dX5_take_147 : decode cX5_take 147 = .ok (.if_icmp .le 51, 3) := by decide +kernel
theorem dX5_take_150 : decode cX5_take 150 = .ok (.aload_n 0, 1) := by decide +kernel
theorem dX5_take_151 : decode cX5_take 151 = .ok (.getfield 78, 3) := by decide +kernel
theorem dX5_take_154 : decode cX5_take 154 = .ok (.iload_n 1, 1) := by decide +kernel
theorem dX5_take_155 : decode cX5_take 155 = .ok (.iaload, 1) := by decide +kernel
theorem dX5_take_156 : decode cX5_take 156 = .ok (.aload_n 0, 1) := by decide +kernel
theorem dX5_take_157 : decode cX5_take 157 = .ok (.iload_n 1, 1) := by decide +kernel
theorem dX5_take_158 : decode cX5_take 158 = .ok (.invokevirtual 120, 3) := by decide +kernel
theorem dX5_take_161 : decode cX5_take 161 = .ok (.ifCond .eq 8, 3) := by decide +kernel
theorem dX5_take_164 : decode cX5_take 164 = .ok (.bipush 39, 2) := by decide +kernel
theorem dX5_take_166 : decode cX5_take 166 = .ok (.goto 5, 3) := by decide +kernel
theorem dX5_take_169 : decode cX5_take 169 = .ok (.bipush 19, 2) := by decide +kernel
theorem dX5_take_171 : decode cX5_take 171 = .ok (.if_icmp .ne 27, 3) := by decide +kernel
theorem dX5_take_174 : decode cX5_take 174 = .ok (.aload_n 0, 1) := by decide +kernel
theorem dX5_take_175 : decode cX5_take 175 = .ok (.getfield 87, 3) := by decide +kernel
theorem dX5_take_178 : decode cX5_take 178 = .ok (.iload_n 1, 1) := by decide +kernel
theorem dX5_take_179 : decode cX5_take 179 = .ok (.aload_n 0, 1) := by decide +kernel
theorem dX5_take_180 : decode cX5_take 180 = .ok (.getfield 78, 3) := by decide +kernel
theorem dX5_take_183 : decode cX5_take 183 = .ok (.iload_n 1, 1) := by decide +kernel
theorem dX5_take_184 : decode cX5_take 184 = .ok (.iaload, 1) := by decide +kernel
theorem dX5_take_185 : decode cX5_take 185 = .ok (.bipush 8, 2) := by decide +kernel
theorem dX5_take_187 : decode cX5_take 187 = .ok (.aload_n 0, 1) := by decide +kernel
theorem dX5_take_188 : decode cX5_take 188 = .ok (.iload_n 1, 1) := by decide +kernel
theorem dX5_take_189 : decode cX5_take 189 = .ok (.invokevirtual 134, 3) := by decide +kernel
theorem dX5_take_192 : decode cX5_take 192 = .ok (.imul, 1) := by decide +kernel
theorem dX5_take_193 : decode cX5_take 193 = .ok (.iadd, 1) := by decide +kernel
theorem dX5_take_194 : decode cX5_take 194 = .ok (.bipush 15, 2) := by decide +kernel
theorem dX5_take_196 : decode cX5_take 196 = .ok (.iadd, 1) := by decide +kernel
theorem dX5_take_197 : decode cX5_take 197 = .ok (.iastore, 1) := by decide +kernel
theorem dX5_take_198 : decode cX5_take 198 = .ok (.iconst 0, 1) := by decide +kernel
theorem dX5_take_199 : decode cX5_take 199 = .ok (.ireturn, 1) := by decide +kernel
set_option maxRecDepth 20000 in
theorem ggX5_answers_X5_isRight : GoodIn wsX5_answers wsX5_isRight := goodIn_r _ [8, 2, 9, 10, 11, 7, 12, 13, 14, 15, 16, 17, 18, 19, 20, 21, 22, 23, 24, 25, 26, 27, 28, 29, 30, 31, 32, 33, 34, 35, 36, 37, 38, 39, 40, 41, 42, 43, 44, 45, 46, 47, 48, 49, 50, 51] (by decide +kernel) (by decide +kernel)
set_option maxRecDepth 20000 in
theorem gX5_answers_X5_isRight : GoodIn wsX5_answers (wsV RX5 128 RX5 yX5_isRight wsX5_isRight) := goodIn_app (goodIn_of _ (by decide +kernel)) ggX5_answers_X5_isRight
theorem dX5_answers_0 : decode cX5_answers 0 = .ok (.aload_n 0, 1) := by decide +kernel
theorem dX5_answers_1 : decode cX5_answers 1 = .ok (.getfield 78, 3) := by decide +kernel
theorem dX5_answers_4 : decode cX5_answers 4 = .ok (.iload_n 1, 1) := by decide +kernel
theorem dX5_answers_5 : decode cX5_answers 5 = .ok (.iaload, 1) := by decide +kernel
theorem dX5_answers_6 : decode cX5_answers 6 = .ok (.aload_n 0, 1) := by decide +kernel
theorem dX5_answers_7 : decode cX5_answers 7 = .ok (.getfield 87, 3) := by decide +kernel
theorem dX5_answers_10 : decode cX5_answers 10 = .ok (.iload_n 1, 1) := by decide +kernel
theorem dX5_answers_11 : decode cX5_answers 11 = .ok (.iaload, 1) := by decide +kernel
theorem dX5_answers_12 : decode cX5_answers 12 = .ok (.if_icmp .ne 25, 3) := by decide +kernel
theorem dX5_answers_15 : decode cX5_answers 15 = .ok (.aload_n 0, 1) := by decide +kernel
theorem dX5_answers_16 : decode cX5_answers 16 = .ok (.getfield 90, 3) := by decide +kernel
theorem dX5_answers_19 : decode cX5_answers 19 = .ok (.iload_n 1, 1) := by decide +kernel
theorem dX5_answers_20 : decode cX5_answers 20 = .ok (.iaload, 1) := by decide +kernel
theorem dX5_answers_21 : decode cX5_answers 21 = .ok (.iconst 1, 1) := by decide +kernel
theorem dX5_answers_22 : decode cX5_answers 22 = .ok (.if_icmp .ne 15, 3) := by decide +kernel
theorem dX5_answers_25 : decode cX5_answers 25 = .ok (.aload_n 0, 1) := by decide +kernel
theorem dX5_answers_26 : decode cX5_answers 26 = .ok (.iload_n 1, 1) := by decide +kernel
theorem dX5_answers_27 : decode cX5_answers 27 = .ok (.invokevirtual 128, 3) := by decide +kernel
theorem dX5_answers_30 : decode cX5_answers 30 = .ok (.ifCond .eq 7, 3) := by decide +kernel
theorem dX5_answers_33 : decode cX5_answers 33 = .ok (.iconst 1, 1) := by decide +kernel
theorem dX5_answers_34 : decode cX5_answers 34 = .ok (.goto 4, 3) := by decide +kernel
theorem dX5_answers_37 : decode cX5_answers 37 = .ok (.iconst 0, 1) := by decide +kernel
theorem dX5_answers_38 : decode cX5_answers 38 = .ok (.ireturn, 1) := by decide +kernel
theorem dX5_key_0 : decode cX5_key 0 = .ok (.iload_n 0, 1) := by decide +kernel
theorem dX5_key_1 : decode cX5_key 1 = .ok (.ifCond .eq 10, 3) := by decide +kernel
theorem dX5_key_4 : decode cX5_key 4 = .ok (.iload_n 1, 1) := by decide +kernel
theorem dX5_key_5 : decode cX5_key 5 = .ok (.bipush 18, 2) := by decide +kernel
theorem dX5_key_7 : decode cX5_key 7 = .ok (.ishr, 1) := by decide +kernel
theorem dX5_key_8 : decode cX5_key 8 = .ok (.goto 4, 3) := by decide +kernel
theorem dX5_key_11 : decode cX5_key 11 = .ok (.iload_n 1, 1) := by decide +kernel
theorem dX5_key_12 : decode cX5_key 12 = .ok (.ireturn, 1) := by decide +kernel
set_option maxRecDepth 20000 in
theorem ggX5_comesFirst_X5_key : GoodIn wsX5_comesFirst wsX5_key := goodIn_r _ [6] (by decide +kernel) (by decide +kernel)
set_option maxRecDepth 20000 in
theorem gX5_comesFirst_X5_key : GoodIn wsX5_comesFirst (va_wsS RX5 138 yX5_key wsX5_key) := goodIn_app (goodIn_of _ (by decide +kernel)) ggX5_comesFirst_X5_key
theorem dX5_comesFirst_0 : decode cX5_comesFirst 0 = .ok (.aload_n 0, 1) := by decide +kernel
theorem dX5_comesFirst_1 : decode cX5_comesFirst 1 = .ok (.getfield 31, 3) := by decide +kernel
theorem dX5_comesFirst_4 : decode cX5_comesFirst 4 = .ok (.iload_n 1, 1) := by decide +kernel
theorem dX5_comesFirst_5 : decode cX5_comesFirst 5 = .ok (.baload, 1) := by decide +kernel
theorem dX5_comesFirst_6 : decode cX5_comesFirst 6 = .ok (.aload_n 0, 1) := by decide +kernel
theorem dX5_comesFirst_7 : decode cX5_comesFirst 7 = .ok (.getfield 35, 3) := by decide +kernel
theorem dX5_comesFirst_10 : decode cX5_comesFirst 10 = .ok (.iload_n 1, 1) := by decide +kernel
theorem dX5_comesFirst_11 : decode cX5_comesFirst 11 = .ok (.iaload, 1) := by decide +kernel
theorem dX5_comesFirst_12 : decode cX5_comesFirst 12 = .ok (.invokestatic 138, 3) := by decide +kernel
theorem dX5_comesFirst_15 : decode cX5_comesFirst 15 = .ok (.istore_n 3, 1) := by decide +kernel
theorem dX5_comesFirst_16 : decode cX5_comesFirst 16 = .ok (.aload_n 0, 1) := by decide +kernel
theorem dX5_comesFirst_17 : decode cX5_comesFirst 17 = .ok (.getfield 31, 3) := by decide +kernel
theorem dX5_comesFirst_20 : decode cX5_comesFirst 20 = .ok (.iload_n 2, 1) := by decide +kernel
theorem dX5_comesFirst_21 : decode cX5_comesFirst 21 = .ok (.baload, 1) := by decide +kernel
theorem dX5_comesFirst_22 : decode cX5_comesFirst 22 = .ok (.aload_n 0, 1) := by decide +kernel
theorem dX5_comesFirst_23 : decode cX5_comesFirst 23 = .ok (.getfield 35, 3) := by decide +kernel
theorem dX5_comesFirst_26 : decode cX5_comesFirst 26 = .ok (.iload_n 2, 1) := by decide +kernel
theorem dX5_comesFirst_27 : decode cX5_comesFirst 27 = .ok (.iaload, 1) := by decide +kernel
theorem dX5_comesFirst_28 : decode cX5_comesFirst 28 = .ok (.invokestatic 138, 3) := by decide +kernel
theorem dX5_comesFirst_31 : decode cX5_comesFirst 31 = .ok (.istore 4, 2) := by decide +kernel
theorem dX5_comesFirst_33 : decode cX5_comesFirst 33 = .ok (.iload_n 3, 1) := by decide +kernel
theorem dX5_comesFirst_34 : decode cX5_comesFirst 34 = .ok (.iload 4, 2) := by decide +kernel
theorem dX5_comesFirst_36 : decode cX5_comesFirst 36 = .ok (.if_icmp .eq 15, 3) := by decide +kernel
theorem dX5_comesFirst_39 : decode cX5_comesFirst 39 = .ok (.iload_n 3, 1) := by decide +kernel
theorem dX5_comesFirst_40 : decode cX5_comesFirst 40 = .ok (.iload 4, 2) := by decide +kernel
theorem dX5_comesFirst_42 : decode cX5_comesFirst 42 = .ok (.if_icmp .ge 7, 3) := by decide +kernel
theorem dX5_comesFirst_45 : decode cX5_comesFirst 45 = .ok (.iconst 1, 1) := by decide +kernel
theorem dX5_comesFirst_46 : decode cX5_comesFirst 46 = .ok (.goto 4, 3) := by decide +kernel
theorem dX5_comesFirst_49 : decode cX5_comesFirst 49 = .ok (.iconst 0, 1) := by decide +kernel
theorem dX5_comesFirst_50 : decode cX5_comesFirst 50 = .ok (.ireturn, 1) := by decide +kernel
theorem dX5_comesFirst_51 : decode cX5_comesFirst 51 = .ok (.aload_n 0, 1) := by decide +kernel
theorem dX5_comesFirst_52 : decode cX5_comesFirst 52 = .ok (.getfield 31, 3) := by decide +kernel
theorem dX5_comesFirst_55 : decode cX5_comesFirst 55 = .ok (.iload_n 1, 1) := by decide +kernel
theorem dX5_comesFirst_56 : decode cX5_comesFirst 56 = .ok (.baload, 1) := by decide +kernel
theorem dX5_comesFirst_57 : decode cX5_comesFirst 57 = .ok (.aload_n 0, 1) := by decide +kernel
theorem dX5_comesFirst_58 : decode cX5_comesFirst 58 = .ok (.getfield 31, 3) := by decide +kernel
theorem dX5_comesFirst_61 : decode cX5_comesFirst 61 = .ok (.iload_n 2, 1) := by decide +kernel
theorem dX5_comesFirst_62 : decode cX5_comesFirst 62 = .ok (.baload, 1) := by decide +kernel
theorem dX5_comesFirst_63 : decode cX5_comesFirst 63 = .ok (.if_icmp .eq 10, 3) := by decide +kernel
theorem dX5_comesFirst_66 : decode cX5_comesFirst 66 = .ok (.aload_n 0, 1) := by decide +kernel
theorem dX5_comesFirst_67 : decode cX5_comesFirst 67 = .ok (.getfield 31, 3) := by decide +kernel
theorem dX5_comesFirst_70 : decode cX5_comesFirst 70 = .ok (.iload_n 2, 1) := by decide +kernel
theorem dX5_comesFirst_71 : decode cX5_comesFirst 71 = .ok (.baload, 1) := by decide +kernel
theorem dX5_comesFirst_72 : decode cX5_comesFirst 72 = .ok (.ireturn, 1) := by decide +kernel
theorem dX5_comesFirst_73 : decode cX5_comesFirst 73 = .ok (.aload_n 0, 1) := by decide +kernel
theorem dX5_comesFirst_74 : decode cX5_comesFirst 74 = .ok (.getfield 35, 3) := by decide +kernel
theorem dX5_comesFirst_77 : decode cX5_comesFirst 77 = .ok (.iload_n 1, 1) := by decide +kernel
theorem dX5_comesFirst_78 : decode cX5_comesFirst 78 = .ok (.iaload, 1) := by decide +kernel
theorem dX5_comesFirst_79 : decode cX5_comesFirst 79 = .ok (.aload_n 0, 1) := by decide +kernel
theorem dX5_comesFirst_80 : decode cX5_comesFirst 80 = .ok (.getfield 35, 3) := by decide +kernel
theorem dX5_comesFirst_83 : decode cX5_comesFirst 83 = .ok (.iload_n 2, 1) := by decide +kernel
theorem dX5_comesFirst_84 : decode cX5_comesFirst 84 = .ok (.iaload, 1) := by decide +kernel
theorem dX5_comesFirst_85 : decode cX5_comesFirst 85 = .ok (.if_icmp .ge 7, 3) := by decide +kernel
theorem dX5_comesFirst_88 : decode cX5_comesFirst 88 = .ok (.iconst 1, 1) := by decide +kernel
theorem dX5_comesFirst_89 : decode cX5_comesFirst 89 = .ok (.goto 4, 3) := by decide +kernel
theorem dX5_comesFirst_92 : decode cX5_comesFirst 92 = .ok (.iconst 0, 1) := by decide +kernel
theorem dX5_comesFirst_93 : decode cX5_comesFirst 93 = .ok (.ireturn, 1) := by decide +kernel
set_option maxRecDepth 20000 in
theorem ggX5_offer_X5_comesFirst : GoodIn wsX5_offer wsX5_comesFirst := goodIn_r _ [6, 7, 8, 9, 10, 5, 11, 12, 13, 14, 15, 16, 17, 18, 19, 20, 21, 22, 23, 24, 25, 26, 27, 28, 29, 30, 31, 32, 33, 34, 35, 36, 37, 38, 39, 40, 41, 42, 43, 44, 45, 46] (by decide +kernel) (by decide +kernel)
set_option maxRecDepth 20000 in
theorem gX5_offer_X5_comesFirst : GoodIn wsX5_offer (wsV RX5 142 RX5 yX5_comesFirst wsX5_comesFirst) := goodIn_app (goodIn_of _ (by decide +kernel)) ggX5_offer_X5_comesFirst
theorem dX5_offer_0 : decode cX5_offer 0 = .ok (.iconst (-1), 1) := by decide +kernel
theorem dX5_offer_1 : decode cX5_offer 1 = .ok (.istore_n 2, 1) := by decide +kernel
theorem dX5_offer_2 : decode cX5_offer 2 = .ok (.iconst 0, 1) := by decide +kernel
theorem dX5_offer_3 : decode cX5_offer 3 = .ok (.istore_n 3, 1) := by decide +kernel
theorem dX5_offer_4 : decode cX5_offer 4 = .ok (.iload_n 3, 1) := by decide +kernel
theorem dX5_offer_5 : decode cX5_offer 5 = .ok (.aload_n 0, 1) := by decide +kernel
theorem dX5_offer_6 : decode cX5_offer 6 = .ok (.getfield 28, 3) := by decide +kernel
theorem dX5_offer_9 : decode cX5_offer 9 = .ok (.iload_n 1, 1) := by decide +kernel
theorem dX5_offer_10 : decode cX5_offer 10 = .ok (.iaload, 1) := by decide +kernel
theorem dX5_offer_11 : decode cX5_offer 11 = .ok (.if_icmp .ge 36, 3) := by decide +kernel
theorem dX5_offer_14 : decode cX5_offer 14 = .ok (.iload_n 2, 1) := by decide +kernel
theorem dX5_offer_15 : decode cX5_offer 15 = .ok (.ifCond .lt 16, 3) := by decide +kernel
theorem dX5_offer_18 : decode cX5_offer 18 = .ok (.aload_n 0, 1) := by decide +kernel
theorem dX5_offer_19 : decode cX5_offer 19 = .ok (.iconst 4, 1) := by decide +kernel
theorem dX5_offer_20 : decode cX5_offer 20 = .ok (.iload_n 1, 1) := by decide +kernel
theorem dX5_offer_21 : decode cX5_offer 21 = .ok (.imul, 1) := by decide +kernel
theorem dX5_offer_22 : decode cX5_offer 22 = .ok (.iload_n 3, 1) := by decide +kernel
theorem dX5_offer_23 : decode cX5_offer 23 = .ok (.iadd, 1) := by decide +kernel
theorem dX5_offer_24 : decode cX5_offer 24 = .ok (.iload_n 2, 1) := by decide +kernel
theorem dX5_offer_25 : decode cX5_offer 25 = .ok (.invokevirtual 142, 3) := by decide +kernel
theorem dX5_offer_28 : decode cX5_offer 28 = .ok (.ifCond .eq 11, 3) := by decide +kernel
theorem dX5_offer_31 : decode cX5_offer 31 = .ok (.iconst 4, 1) := by decide +kernel
theorem dX5_offer_32 : decode cX5_offer 32 = .ok (.iload_n 1, 1) := by decide +kernel
theorem dX5_offer_33 : decode cX5_offer 33 = .ok (.imul, 1) := by decide +kernel
theorem dX5_offer_34 : decode cX5_offer 34 = .ok (.iload_n 3, 1) := by decide +kernel
theorem dX5_offer_35 : decode cX5_offer 35 = .ok (.iadd, 1) := by decide +kernel
theorem dX5_offer_36 : decode cX5_offer 36 = .ok (.goto 4, 3) := by decide +kernel
theorem dX5_offer_39 : decode cX5_offer 39 = .ok (.iload_n 2, 1) := by decide +kernel
theorem dX5_offer_40 : decode cX5_offer 40 = .ok (.istore_n 2, 1) := by decide +kernel
theorem dX5_offer_41 : decode cX5_offer 41 = .ok (.iinc 3 1, 3) := by decide +kernel
theorem dX5_offer_44 : decode cX5_offer 44 = .ok (.goto (-40), 3) := by decide +kernel
theorem dX5_offer_47 : decode cX5_offer 47 = .ok (.iload_n 2, 1) := by decide +kernel
theorem dX5_offer_48 : decode cX5_offer 48 = .ok (.ireturn, 1) := by decide +kernel
set_option maxRecDepth 20000 in
theorem ggX5_want_X5_isNode : GoodIn wsX5_want wsX5_isNode := goodIn_r _ [13] (by decide +kernel) (by decide +kernel)
set_option maxRecDepth 20000 in
theorem gX5_want_X5_isNode : GoodIn wsX5_want (va_wsS RX5 147 yX5_isNode wsX5_isNode) := goodIn_app (goodIn_of _ (by decide +kernel)) ggX5_want_X5_isNode
theorem dX5_want_0 : decode cX5_want 0 = .ok (.iload_n 3, 1) := by decide +kernel
theorem dX5_want_1 : decode cX5_want 1 = .ok (.ifCond .lt 39, 3) := by decide +kernel
theorem dX5_want_4 : decode cX5_want 4 = .ok (.iload_n 2, 1) := by decide +kernel
theorem dX5_want_5 : decode cX5_want 5 = .ok (.ifCond .eq 12, 3) := by decide +kernel
theorem dX5_want_8 : decode cX5_want 8 = .ok (.iload_n 3, 1) := by decide +kernel
theorem dX5_want_9 : decode cX5_want 9 = .ok (.ldc 146, 2) := by decide +kernel
theorem dX5_want_11 : decode cX5_want 11 = .ok (.if_icmp .ge 29, 3) := by decide +kernel
theorem dX5_want_14 : decode cX5_want 14 = .ok (.goto 10, 3) := by decide +kernel
theorem dX5_want_17 : decode cX5_want 17 = .ok (.iload_n 3, 1) := by decide +kernel
theorem dX5_want_18 : decode cX5_want 18 = .ok (.sipush 2048, 3) := by decide +kernel
theorem dX5_want_21 : decode cX5_want 21 = .ok (.if_icmp .ge 19, 3) := by decide +kernel
theorem dX5_want_24 : decode cX5_want 24 = .ok (.iload 6, 2) := by decide +kernel
theorem dX5_want_26 : decode cX5_want 26 = .ok (.ifCond .lt 14, 3) := by decide +kernel
theorem dX5_want_29 : decode cX5_want 29 = .ok (.iload 6, 2) := by decide +kernel
theorem dX5_want_31 : decode cX5_want 31 = .ok (.bipush 9, 2) := by decide +kernel
theorem dX5_want_33 : decode cX5_want 33 = .ok (.if_icmp .ge 7, 3) := by decide +kernel
theorem dX5_want_36 : decode cX5_want 36 = .ok (.iconst 1, 1) := by decide +kernel
theorem dX5_want_37 : decode cX5_want 37 = .ok (.goto 4, 3) := by decide +kernel
theorem dX5_want_40 : decode cX5_want 40 = .ok (.iconst 0, 1) := by decide +kernel
theorem dX5_want_41 : decode cX5_want 41 = .ok (.istore 7, 2) := by decide +kernel
theorem dX5_want_43 : decode cX5_want 43 = .ok (.aload_n 0, 1) := by decide +kernel
theorem dX5_want_44 : decode cX5_want 44 = .ok (.iload_n 1, 1) := by decide +kernel
theorem dX5_want_45 : decode cX5_want 45 = .ok (.invokestatic 147, 3) := by decide +kernel
theorem dX5_want_48 : decode cX5_want 48 = .ok (.ifCond .ne 7, 3) := by decide +kernel
theorem dX5_want_51 : decode cX5_want 51 = .ok (.iconst 1, 1) := by decide +kernel
theorem dX5_want_52 : decode cX5_want 52 = .ok (.goto 27, 3) := by decide +kernel
theorem dX5_want_55 : decode cX5_want 55 = .ok (.iload 7, 2) := by decide +kernel
theorem dX5_want_57 : decode cX5_want 57 = .ok (.ifCond .ne 7, 3) := by decide +kernel
theorem dX5_want_60 : decode cX5_want 60 = .ok (.iconst 2, 1) := by decide +kernel
theorem dX5_want_61 : decode cX5_want 61 = .ok (.goto 18, 3) := by decide +kernel
theorem dX5_want_64 : decode cX5_want 64 = .ok (.aload_n 0, 1) := by decide +kernel
theorem dX5_want_65 : decode cX5_want 65 = .ok (.getfield 28, 3) := by decide +kernel
theorem dX5_want_68 : decode cX5_want 68 = .ok (.iload_n 1, 1) := by decide +kernel
theorem dX5_want_69 : decode cX5_want 69 = .ok (.iaload, 1) := by decide +kernel
theorem dX5_want_70 : decode cX5_want 70 = .ok (.iconst 4, 1) := by decide +kernel
theorem dX5_want_71 : decode cX5_want 71 = .ok (.if_icmp .ne 7, 3) := by decide +kernel
theorem dX5_want_74 : decode cX5_want 74 = .ok (.iconst 3, 1) := by decide +kernel
theorem dX5_want_75 : decode cX5_want 75 = .ok (.goto 4, 3) := by decide +kernel
theorem dX5_want_78 : decode cX5_want 78 = .ok (.iconst 0, 1) := by decide +kernel
theorem dX5_want_79 : decode cX5_want 79 = .ok (.putfield 99, 3) := by decide +kernel
theorem dX5_want_82 : decode cX5_want 82 = .ok (.aload_n 0, 1) := by decide +kernel
theorem dX5_want_83 : decode cX5_want 83 = .ok (.getfield 99, 3) := by decide +kernel
theorem dX5_want_86 : decode cX5_want 86 = .ok (.ifCond .le 5, 3) := by decide +kernel
theorem dX5_want_89 : decode cX5_want 89 = .ok (.iconst 0, 1) := by decide +kernel
theorem dX5_want_90 : decode cX5_want 90 = .ok (.ireturn, 1) := by decide +kernel
theorem dX5_want_91 : decode cX5_want 91 = .ok (.iconst 4, 1) := by decide +kernel
theorem dX5_want_92 : decode cX5_want 92 = .ok (.iload_n 1, 1) := by decide +kernel
theorem dX5_want_93 : decode cX5_want 93 = .ok (.imul, 1) := by decide +kernel
theorem dX5_want_94 : decode cX5_want 94 = .ok (.aload_n 0, 1) := by decide +kernel
theorem dX5_want_95 : decode cX5_want 95 = .ok (.getfield 28, 3) := by decide +kernel
theorem dX5_want_98 : decode cX5_want 98 = .ok (.iload_n 1, 1) := by decide +kernel
theorem dX5_want_99 : decode cX5_want 99 = .ok (.iaload, 1) := by decide +kernel
theorem dX5_want_100 : decode cX5_want 100 = .ok (.iadd, 1) := by decide +kernel
theorem dX5_want_101 : decode cX5_want 101 = .ok (.istore 8, 2) := by decide +kernel
theorem dX5_want_103 : decode cX5_want 103 = .ok (.aload_n 0, 1) := by decide +kernel
theorem dX5_want_104 : decode cX5_want 104 = .ok (.getfield 31, 3) := by decide +kernel
theorem dX5_want_107 : decode cX5_want 107 = .ok (.iload 8, 2) := by decide +kernel
theorem dX5_want_109 : decode cX5_want 109 = .ok (.iload_n 2, 1) := by decide +kernel
theorem dX5_want_110 : decode cX5_want 110 = .ok (.bastore, 1) := by decide +kernel
theorem dX5_want_111 : decode cX5_want 111 = .ok (.aload_n 0, 1) := by decide +kernel
theorem dX5_want_112 : decode cX5_want 112 = .ok (.getfield 35, 3) := by decide +kernel
theorem dX5_want_115 : decode cX5_want 115 = .ok (.iload 8, 2) := by decide +kernel
theorem dX5_want_117 : decode cX5_want 117 = .ok (.iload_n 3, 1) := by decide +kernel
theorem dX5_want_118 : decode cX5_want 118 = .ok (.iastore, 1) := by decide +kernel
theorem dX5_want_119 : decode cX5_want 119 = .ok (.aload_n 0, 1) := by decide +kernel
theorem dX5_want_120 : decode cX5_want 120 = .ok (.getfield 38, 3) := by decide +kernel
theorem dX5_want_123 : decode cX5_want 123 = .ok (.iload 8, 2) := by decide +kernel
theorem dX5_want_125 : decode cX5_want 125 = .ok (.lload 4, 2) := by decide +kernel
theorem dX5_want_127 : decode cX5_want 127 = .ok (.lastore, 1) := by decide +kernel
theorem dX5_want_128 : decode cX5_want 128 = .ok (.aload_n 0, 1) := by decide +kernel
theorem dX5_want_129 : decode cX5_want 129 = .ok (.getfield 42, 3) := by decide +kernel
theorem dX5_want_132 : decode cX5_want 132 = .ok (.iload 8, 2) := by decide +kernel
theorem dX5_want_134 : decode cX5_want 134 = .ok (.iload 6, 2) := by decide +kernel
theorem dX5_want_136 : decode cX5_want 136 = .ok (.iastore, 1) := by decide +kernel
theorem dX5_want_137 : decode cX5_want 137 = .ok (.aload_n 0, 1) := by decide +kernel
theorem dX5_want_138 : decode cX5_want 138 = .ok (.getfield 72, 3) := by decide +kernel
theorem dX5_want_141 : decode cX5_want 141 = .ok (.iload 8, 2) := by decide +kernel
theorem dX5_want_143 : decode cX5_want 143 = .ok (.aload_n 0, 1) := by decide +kernel
theorem dX5_want_144 : decode cX5_want 144 = .ok (.getfield 150, 3) := by decide +kernel
theorem dX5_want_147 : decode cX5_want 147 = .ok (.iastore, 1) := by decide +kernel
theorem dX5_want_148 : decode cX5_want 148 = .ok (.aload_n 0, 1) := by decide +kernel
theorem dX5_want_149 : decode cX5_want 149 = .ok (.dup, 1) := by decide +kernel
theorem dX5_want_150 : decode cX5_want 150 = .ok (.getfield 150, 3) := by decide +kernel
theorem dX5_want_153 : decode cX5_want 153 = .ok (.iconst 1, 1) := by decide +kernel
theorem dX5_want_154 : decode cX5_want 154 = .ok (.iadd, 1) := by decide +kernel
theorem dX5_want_155 : decode cX5_want 155 = .ok (.putfield 150, 3) := by decide +kernel
theorem dX5_want_158 : decode cX5_want 158 = .ok (.aload_n 0, 1) := by decide +kernel
theorem dX5_want_159 : decode cX5_want 159 = .ok (.getfield 28, 3) := by decide +kernel
theorem dX5_want_162 : decode cX5_want 162 = .ok (.iload_n 1, 1) := by decide +kernel
theorem dX5_want_163 : decode cX5_want 163 = .ok (.dup2, 1) := by decide +kernel
theorem dX5_want_164 : decode cX5_want 164 = .ok (.iaload, 1) := by decide +kernel
theorem dX5_want_165 : decode cX5_want 165 = .ok (.iconst 1, 1) := by decide +kernel
theorem dX5_want_166 : decode cX5_want 166 = .ok (.iadd, 1) := by decide +kernel
theorem dX5_want_167 : decode cX5_want 167 = .ok (.iastore, 1) := by decide +kernel
theorem dX5_want_168 : decode cX5_want 168 = .ok (.aload_n 0, 1) := by decide +kernel
theorem dX5_want_169 : decode cX5_want 169 = .ok (.getfield 28, 3) := by decide +kernel
theorem dX5_want_172 : decode cX5_want 172 = .ok (.iload_n 1, 1) := by decide +kernel
theorem dX5_want_173 : decode cX5_want 173 = .ok (.iaload, 1) := by decide +kernel
theorem dX5_want_174 : decode cX5_want 174 = .ok (.ireturn, 1) := by decide +kernel
theorem dX5_sentOne_0 : decode cX5_sentOne 0 = .ok (.iconst 4, 1) := by decide +kernel
theorem dX5_sentOne_1 : decode cX5_sentOne 1 = .ok (.iload_n 1, 1) := by decide +kernel
theorem dX5_sentOne_2 : decode cX5_sentOne 2 = .ok (.imul, 1) := by decide +kernel
theorem dX5_sentOne_3 : decode cX5_sentOne 3 = .ok (.istore_n 2, 1) := by decide +kernel
theorem dX5_sentOne_4 : decode cX5_sentOne 4 = .ok (.aload_n 0, 1) := by decide +kernel
theorem dX5_sentOne_5 : decode cX5_sentOne 5 = .ok (.getfield 72, 3) := by decide +kernel
theorem dX5_sentOne_8 : decode cX5_sentOne 8 = .ok (.iload_n 2, 1) := by decide +kernel
theorem dX5_sentOne_9 : decode cX5_sentOne 9 = .ok (.iaload, 1) := by decide +kernel
theorem dX5_sentOne_10 : decode cX5_sentOne 10 = .ok (.aload_n 0, 1) := by decide +kernel
theorem dX5_sentOne_11 : decode cX5_sentOne 11 = .ok (.getfield 69, 3) := by decide +kernel
theorem dX5_sentOne_14 : decode cX5_sentOne 14 = .ok (.iload_n 1, 1) := by decide +kernel
theorem dX5_sentOne_15 : decode cX5_sentOne 15 = .ok (.iaload, 1) := by decide +kernel
theorem dX5_sentOne_16 : decode cX5_sentOne 16 = .ok (.if_icmp .eq 9, 3) := by decide +kernel
theorem dX5_sentOne_19 : decode cX5_sentOne 19 = .ok (.iinc 2 1, 3) := by decide +kernel
theorem dX5_sentOne_22 : decode cX5_sentOne 22 = .ok (.goto (-18), 3) := by decide +kernel
theorem dX5_sentOne_25 : decode cX5_sentOne 25 = .ok (.iload_n 2, 1) := by decide +kernel
theorem dX5_sentOne_26 : decode cX5_sentOne 26 = .ok (.ireturn, 1) := by decide +kernel
set_option maxRecDepth 20000 in
theorem ggX5_forget_X5_sentOne : GoodIn wsX5_forget wsX5_sentOne := goodIn_r _ [11, 6, 12, 13, 14, 15, 16, 17, 18, 19, 20, 21, 22, 23, 24, 25, 26, 27, 28, 29, 30, 31, 32, 33, 34, 35, 36, 37, 38, 39, 40, 41, 42, 43, 44, 45, 46, 47] (by decide +kernel) (by decide +kernel)
set_option maxRecDepth 20000 in
theorem gX5_forget_X5_sentOne : GoodIn wsX5_forget (wsV RX5 153 RX5 yX5_sentOne wsX5_sentOne) := goodIn_app (goodIn_of _ (by decide +kernel)) ggX5_forget_X5_sentOne
theorem dX5_forget_0 : decode cX5_forget 0 = .ok (.aload_n 0, 1) := by decide +kernel
theorem dX5_forget_1 : decode cX5_forget 1 = .ok (.iload_n 1, 1) := by decide +kernel
theorem dX5_forget_2 : decode cX5_forget 2 = .ok (.invokevirtual 153, 3) := by decide +kernel
theorem dX5_forget_5 : decode cX5_forget 5 = .ok (.istore_n 2, 1) := by decide +kernel
theorem dX5_forget_6 : decode cX5_forget 6 = .ok (.aload_n 0, 1) := by decide +kernel
theorem dX5_forget_7 : decode cX5_forget 7 = .ok (.getfield 28, 3) := by decide +kernel
theorem dX5_forget_10 : decode cX5_forget 10 = .ok (.iload_n 1, 1) := by decide +kernel
theorem dX5_forget_11 : decode cX5_forget 11 = .ok (.dup2, 1) := by decide +kernel
theorem dX5_forget_12 : decode cX5_forget 12 = .ok (.iaload, 1) := by decide +kernel
theorem dX5_forget_13 : decode cX5_forget 13 = .ok (.iconst 1, 1) := by decide +kernel
theorem dX5_forget_14 : decode cX5_forget 14 = .ok (.isub, 1) := by decide +kernel
theorem dX5_forget_15 : decode cX5_forget 15 = .ok (.iastore, 1) := by decide +kernel
theorem dX5_forget_16 : decode cX5_forget 16 = .ok (.iload_n 2, 1) := by decide +kernel
theorem dX5_forget_17 : decode cX5_forget 17 = .ok (.istore_n 3, 1) := by decide +kernel
theorem dX5_forget_18 : decode cX5_forget 18 = .ok (.iload_n 3, 1) := by decide +kernel
theorem dX5_forget_19 : decode cX5_forget 19 = .ok (.iconst 4, 1) := by decide +kernel
theorem dX5_forget_20 : decode cX5_forget 20 = .ok (.iload_n 1, 1) := by decide +kernel
theorem dX5_forget_21 : decode cX5_forget 21 = .ok (.imul, 1) := by decide +kernel
theorem dX5_forget_22 : decode cX5_forget 22 = .ok (.aload_n 0, 1) := by decide +kernel
theorem dX5_forget_23 : decode cX5_forget 23 = .ok (.getfield 28, 3) := by decide +kernel
theorem dX5_forget_26 : decode cX5_forget 26 = .ok (.iload_n 1, 1) := by decide +kernel
theorem dX5_forget_27 : decode cX5_forget 27 = .ok (.iaload, 1) := by decide +kernel
theorem dX5_forget_28 : decode cX5_forget 28 = .ok (.iadd, 1) := by decide +kernel
theorem dX5_forget_29 : decode cX5_forget 29 = .ok (.if_icmp .ge 79, 3) := by decide +kernel
theorem dX5_forget_32 : decode cX5_forget 32 = .ok (.aload_n 0, 1) := by decide +kernel
theorem dX5_forget_33 : decode cX5_forget 33 = .ok (.getfield 31, 3) := by decide +kernel
theorem dX5_forget_36 : decode cX5_forget 36 = .ok (.iload_n 3, 1) := by decide +kernel
theorem dX5_forget_37 : decode cX5_forget 37 = .ok (.aload_n 0, 1) := by decide +kernel
theorem dX5_forget_38 : decode cX5_forget 38 = .ok (.getfield 31, 3) := by decide +kernel
theorem dX5_forget_41 : decode cX5_forget 41 = .ok (.iload_n 3, 1) := by decide +kernel
theorem dX5_forget_42 : decode cX5_forget 42 = .ok (.iconst 1, 1) := by decide +kernel
theorem dX5_forget_43 : decode cX5_forget 43 = .ok (.iadd, 1) := by decide +kernel
theorem dX5_forget_44 : decode cX5_forget 44 = .ok (.baload, 1) := by decide +kernel
theorem dX5_forget_45 : decode cX5_forget 45 = .ok (.bastore, 1) := by decide +kernel
theorem dX5_forget_46 : decode cX5_forget 46 = .ok (.aload_n 0, 1) := by decide +kernel
theorem dX5_forget_47 : decode cX5_forget 47 = .ok (.getfield 35, 3) := by decide +kernel
theorem dX5_forget_50 : decode cX5_forget 50 = .ok (.iload_n 3, 1) := by decide +kernel
theorem dX5_forget_51 : decode cX5_forget 51 = .ok (.aload_n 0, 1) := by decide +kernel
theorem dX5_forget_52 : decode cX5_forget 52 = .ok (.getfield 35, 3) := by decide +kernel
theorem dX5_forget_55 : decode cX5_forget 55 = .ok (.iload_n 3, 1) := by decide +kernel
theorem dX5_forget_56 : decode cX5_forget 56 = .ok (.iconst 1, 1) := by decide +kernel
theorem dX5_forget_57 : decode cX5_forget 57 = .ok (.iadd, 1) := by decide +kernel
theorem dX5_forget_58 : decode cX5_forget 58 = .ok (.iaload, 1) := by decide +kernel
theorem dX5_forget_59 : decode cX5_forget 59 = .ok (.iastore, 1) := by decide +kernel
theorem dX5_forget_60 : decode cX5_forget 60 = .ok (.aload_n 0, 1) := by decide +kernel
theorem dX5_forget_61 : decode cX5_forget 61 = .ok (.getfield 38, 3) := by decide +kernel
theorem dX5_forget_64 : decode cX5_forget 64 = .ok (.iload_n 3, 1) := by decide +kernel
theorem dX5_forget_65 : decode cX5_forget 65 = .ok (.aload_n 0, 1) := by decide +kernel
theorem dX5_forget_66 : decode cX5_forget 66 = .ok (.getfield 38, 3) := by decide +kernel
theorem dX5_forget_69 : decode cX5_forget 69 = .ok (.iload_n 3, 1) := by decide +kernel
theorem dX5_forget_70 : decode cX5_forget 70 = .ok (.iconst 1, 1) := by decide +kernel
theorem dX5_forget_71 : decode cX5_forget 71 = .ok (.iadd, 1) := by decide +kernel
theorem dX5_forget_72 : decode cX5_forget 72 = .ok (.laload, 1) := by decide +kernel
theorem dX5_forget_73 : decode cX5_forget 73 = .ok (.lastore, 1) := by decide +kernel
theorem dX5_forget_74 : decode cX5_forget 74 = .ok (.aload_n 0, 1) := by decide +kernel
theorem dX5_forget_75 : decode cX5_forget 75 = .ok (.getfield 42, 3) := by decide +kernel
theorem dX5_forget_78 : decode cX5_forget 78 = .ok (.iload_n 3, 1) := by decide +kernel
theorem dX5_forget_79 : decode cX5_forget 79 = .ok (.aload_n 0, 1) := by decide +kernel
theorem dX5_forget_80 : decode cX5_forget 80 = .ok (.getfield 42, 3) := by decide +kernel
theorem dX5_forget_83 : decode cX5_forget 83 = .ok (.iload_n 3, 1) := by decide +kernel
theorem dX5_forget_84 : decode cX5_forget 84 = .ok (.iconst 1, 1) := by decide +kernel
theorem dX5_forget_85 : decode cX5_forget 85 = .ok (.iadd, 1) := by decide +kernel
theorem dX5_forget_86 : decode cX5_forget 86 = .ok (.iaload, 1) := by decide +kernel
theorem dX5_forget_87 : decode cX5_forget 87 = .ok (.iastore, 1) := by decide +kernel
theorem dX5_forget_88 : decode cX5_forget 88 = .ok (.aload_n 0, 1) := by decide +kernel
theorem dX5_forget_89 : decode cX5_forget 89 = .ok (.getfield 72, 3) := by decide +kernel
theorem dX5_forget_92 : decode cX5_forget 92 = .ok (.iload_n 3, 1) := by decide +kernel
theorem dX5_forget_93 : decode cX5_forget 93 = .ok (.aload_n 0, 1) := by decide +kernel
theorem dX5_forget_94 : decode cX5_forget 94 = .ok (.getfield 72, 3) := by decide +kernel
theorem dX5_forget_97 : decode cX5_forget 97 = .ok (.iload_n 3, 1) := by decide +kernel
theorem dX5_forget_98 : decode cX5_forget 98 = .ok (.iconst 1, 1) := by decide +kernel
theorem dX5_forget_99 : decode cX5_forget 99 = .ok (.iadd, 1) := by decide +kernel
theorem dX5_forget_100 : decode cX5_forget 100 = .ok (.iaload, 1) := by decide +kernel
theorem dX5_forget_101 : decode cX5_forget 101 = .ok (.iastore, 1) := by decide +kernel
theorem dX5_forget_102 : decode cX5_forget 102 = .ok (.iinc 3 1, 3) := by decide +kernel
theorem dX5_forget_105 : decode cX5_forget 105 = .ok (.goto (-87), 3) := by decide +kernel
theorem dX5_forget_108 : decode cX5_forget 108 = .ok (.return_, 1) := by decide +kernel
set_option maxRecDepth 20000 in
theorem ggX5_sends_X5_answers : GoodIn wsX5_sends wsX5_answers := goodIn_r _ [8, 9, 10, 11, 12, 13, 14, 7, 15, 16, 17, 18, 19, 20, 21, 22, 23, 24, 25, 26, 27, 28, 29, 30, 31, 32, 33, 34, 35, 36, 37, 38, 39, 40, 41, 42, 43, 44, 45, 46, 47, 48, 49, 50, 51, 52, 53, 54, 55, 56, 57, 58] (by decide +kernel) (by decide +kernel)
set_option maxRecDepth 20000 in
theorem gX5_sends_X5_answers : GoodIn wsX5_sends (wsV RX5 156 RX5 yX5_answers wsX5_answers) := goodIn_app (goodIn_of _ (by decide +kernel)) ggX5_sends_X5_answers
theorem dX5_sends_0 : decode cX5_sends 0 = .ok (.aload_n 0, 1) := by decide +kernel
theorem dX5_sends_1 : decode cX5_sends 1 = .ok (.getfield 9, 3) := by decide +kernel
theorem dX5_sends_4 : decode cX5_sends 4 = .ok (.iload_n 1, 1) := by decide +kernel
theorem dX5_sends_5 : decode cX5_sends 5 = .ok (.iaload, 1) := by decide +kernel
theorem dX5_sends_6 : decode cX5_sends 6 = .ok (.iconst 3, 1) := by decide +kernel
theorem dX5_sends_7 : decode cX5_sends 7 = .ok (.if_icmp .ne 21, 3) := by decide +kernel
theorem dX5_sends_10 : decode cX5_sends 10 = .ok (.aload_n 0, 1) := by decide +kernel
theorem dX5_sends_11 : decode cX5_sends 11 = .ok (.getfield 57, 3) := by decide +kernel
theorem dX5_sends_14 : decode cX5_sends 14 = .ok (.sipush 200, 3) := by decide +kernel
theorem dX5_sends_17 : decode cX5_sends 17 = .ok (.iload_n 1, 1) := by decide +kernel
theorem dX5_sends_18 : decode cX5_sends 18 = .ok (.imul, 1) := by decide +kernel
theorem dX5_sends_19 : decode cX5_sends 19 = .ok (.aload_n 0, 1) := by decide +kernel
theorem dX5_sends_20 : decode cX5_sends 20 = .ok (.getfield 66, 3) := by decide +kernel
theorem dX5_sends_23 : decode cX5_sends 23 = .ok (.iload_n 1, 1) := by decide +kernel
theorem dX5_sends_24 : decode cX5_sends 24 = .ok (.iaload, 1) := by decide +kernel
theorem dX5_sends_25 : decode cX5_sends 25 = .ok (.iadd, 1) := by decide +kernel
theorem dX5_sends_26 : decode cX5_sends 26 = .ok (.iaload, 1) := by decide +kernel
theorem dX5_sends_27 : decode cX5_sends 27 = .ok (.ireturn, 1) := by decide +kernel
theorem dX5_sends_28 : decode cX5_sends 28 = .ok (.aload_n 0, 1) := by decide +kernel
theorem dX5_sends_29 : decode cX5_sends 29 = .ok (.getfield 9, 3) := by decide +kernel
theorem dX5_sends_32 : decode cX5_sends 32 = .ok (.iload_n 1, 1) := by decide +kernel
theorem dX5_sends_33 : decode cX5_sends 33 = .ok (.iaload, 1) := by decide +kernel
theorem dX5_sends_34 : decode cX5_sends 34 = .ok (.iconst 2, 1) := by decide +kernel
theorem dX5_sends_35 : decode cX5_sends 35 = .ok (.if_icmp .ne 15, 3) := by decide +kernel
theorem dX5_sends_38 : decode cX5_sends 38 = .ok (.aload_n 0, 1) := by decide +kernel
theorem dX5_sends_39 : decode cX5_sends 39 = .ok (.iload_n 1, 1) := by decide +kernel
theorem dX5_sends_40 : decode cX5_sends 40 = .ok (.invokevirtual 156, 3) := by decide +kernel
theorem dX5_sends_43 : decode cX5_sends 43 = .ok (.ifCond .eq 7, 3) := by decide +kernel
theorem dX5_sends_46 : decode cX5_sends 46 = .ok (.iconst 0, 1) := by decide +kernel
theorem dX5_sends_47 : decode cX5_sends 47 = .ok (.goto 4, 3) := by decide +kernel
theorem dX5_sends_50 : decode cX5_sends 50 = .ok (.iconst 1, 1) := by decide +kernel
theorem dX5_sends_51 : decode cX5_sends 51 = .ok (.ireturn, 1) := by decide +kernel
set_option maxRecDepth 20000 in
theorem ggX5_offerAll_X5_offer : GoodIn wsX5_offerAll wsX5_offer := goodIn_r _ [9, 10, 11, 12, 13, 8, 14, 15, 16, 17, 18, 19, 52, 53, 54, 55, 56, 57, 58, 59, 60, 61, 62, 63, 64, 65, 66, 67, 68, 69, 70, 71, 72, 73, 74, 75, 76, 77, 78, 79, 80, 81, 82, 83, 84, 85, 86] (by decide +kernel) (by decide +kernel)
set_option maxRecDepth 20000 in
theorem gX5_offerAll_X5_offer : GoodIn wsX5_offerAll (wsV RX5 159 RX5 yX5_offer wsX5_offer) := goodIn_app (goodIn_of _ (by decide +kernel)) ggX5_offerAll_X5_offer
set_option maxRecDepth 20000 in
theorem ggX5_offerAll_X5_make : GoodIn wsX5_offerAll wsX5_make := goodIn_r _ [23, 24, 15, 16, 25, 26, 27, 28, 29, 30, 31, 32, 8, 33, 34, 35, 36, 37, 38, 39, 40, 41, 42, 52, 53, 54, 55, 56, 57, 58, 59, 60, 61, 62, 63, 64, 65, 66, 67, 68, 69, 70, 71, 72, 73, 74, 75, 76, 77, 78, 79, 80, 81, 82, 83, 84, 85, 86] (by decide +kernel) (by decide +kernel)
set_option maxRecDepth 20000 in
theorem gX5_offerAll_X5_make : GoodIn wsX5_offerAll (wsV RX5 162 RX5 yX5_make wsX5_make) := goodIn_app (goodIn_of _ (by decide +kernel)) ggX5_offerAll_X5_make
set_option maxRecDepth 20000 in
theorem ggX5_offerAll_X5_begin : GoodIn wsX5_offerAll wsX5_begin := goodIn_r _ [46, 47, 48, 49, 50, 51, 52, 53, 54, 55, 56, 57, 58, 59, 60, 61, 62, 63, 64, 65, 66, 67, 68, 69, 70, 71, 72, 73, 74, 75, 76, 77, 78, 79, 80, 81, 82, 83, 84, 85, 86] (by decide +kernel) (by decide +kernel)
set_option maxRecDepth 20000 in
theorem gX5_offerAll_X5_begin : GoodIn wsX5_offerAll (wsV RX5 165 RX5 yX5_begin wsX5_begin) := goodIn_app (goodIn_of _ (by decide +kernel)) ggX5_offerAll_X5_begin
theorem dX5_offerAll_0 : decode cX5_offerAll 0 = .ok (.iconst 0, 1) := by decide +kernel
theorem dX5_offerAll_1 : decode cX5_offerAll 1 = .ok (.istore_n 1, 1) := by decide +kernel
theorem dX5_offerAll_2 : decode cX5_offerAll 2 = .ok (.iload_n 1, 1) := by decide +kernel
theorem dX5_offerAll_3 : decode cX5_offerAll 3 = .ok (.iconst 4, 1) := by decide +kernel
theorem dX5_offerAll_4 : decode cX5_offerAll 4 = .ok (.if_icmp .ge 66, 3) := by decide +kernel
theorem dX5_offerAll_7 : decode cX5_offerAll 7 = .ok (.aload_n 0, 1) := by decide +kernel
theorem dX5_offerAll_8 : decode cX5_offerAll 8 = .ok (.iload_n 1, 1) := by decide +kernel
theorem dX5_offerAll_9 : decode cX5_offerAll 9 = .ok (.invokevirtual 159, 3) := by decide +kernel
theorem dX5_offerAll_12 : decode cX5_offerAll 12 = .ok (.istore_n 2, 1) := by decide +kernel
theorem dX5_offerAll_13 : decode cX5_offerAll 13 = .ok (.aload_n 0, 1) := by decide +kernel
theorem dX5_offerAll_14 : decode cX5_offerAll 14 = .ok (.getfield 9, 3) := by decide +kernel
theorem dX5_offerAll_17 : decode cX5_offerAll 17 = .ok (.iload_n 1, 1) := by decide +kernel
theorem dX5_offerAll_18 : decode cX5_offerAll 18 = .ok (.iaload, 1) := by decide +kernel
theorem dX5_offerAll_19 : decode cX5_offerAll 19 = .ok (.iconst 1, 1) := by decide +kernel
theorem dX5_offerAll_20 : decode cX5_offerAll 20 = .ok (.if_icmp .ne 44, 3) := by decide +kernel
theorem dX5_offerAll_23 : decode cX5_offerAll 23 = .ok (.iload_n 2, 1) := by decide +kernel
theorem dX5_offerAll_24 : decode cX5_offerAll 24 = .ok (.ifCond .lt 40, 3) := by decide +kernel
theorem dX5_offerAll_27 : decode cX5_offerAll 27 = .ok (.aload_n 0, 1) := by decide +kernel
theorem dX5_offerAll_28 : decode cX5_offerAll 28 = .ok (.getfield 9, 3) := by decide +kernel
theorem dX5_offerAll_31 : decode cX5_offerAll 31 = .ok (.iload_n 1, 1) := by decide +kernel
theorem dX5_offerAll_32 : decode cX5_offerAll 32 = .ok (.iconst 3, 1) := by decide +kernel
theorem dX5_offerAll_33 : decode cX5_offerAll 33 = .ok (.iastore, 1) := by decide +kernel
theorem dX5_offerAll_34 : decode cX5_offerAll 34 = .ok (.aload_n 0, 1) := by decide +kernel
theorem dX5_offerAll_35 : decode cX5_offerAll 35 = .ok (.getfield 69, 3) := by decide +kernel
theorem dX5_offerAll_38 : decode cX5_offerAll 38 = .ok (.iload_n 1, 1) := by decide +kernel
theorem dX5_offerAll_39 : decode cX5_offerAll 39 = .ok (.aload_n 0, 1) := by decide +kernel
theorem dX5_offerAll_40 : decode cX5_offerAll 40 = .ok (.getfield 72, 3) := by decide +kernel
theorem dX5_offerAll_43 : decode cX5_offerAll 43 = .ok (.iload_n 2, 1) := by decide +kernel
theorem dX5_offerAll_44 : decode cX5_offerAll 44 = .ok (.iaload, 1) := by decide +kernel
theorem dX5_offerAll_45 : decode cX5_offerAll 45 = .ok (.iastore, 1) := by decide +kernel
theorem dX5_offerAll_46 : decode cX5_offerAll 46 = .ok (.aload_n 0, 1) := by decide +kernel
theorem dX5_offerAll_47 : decode cX5_offerAll 47 = .ok (.getfield 66, 3) := by decide +kernel
theorem dX5_offerAll_50 : decode cX5_offerAll 50 = .ok (.iload_n 1, 1) := by decide +kernel
theorem dX5_offerAll_51 : decode cX5_offerAll 51 = .ok (.iconst 0, 1) := by decide +kernel
theorem dX5_offerAll_52 : decode cX5_offerAll 52 = .ok (.iastore, 1) := by decide +kernel
theorem dX5_offerAll_53 : decode cX5_offerAll 53 = .ok (.aload_n 0, 1) := by decide +kernel
theorem dX5_offerAll_54 : decode cX5_offerAll 54 = .ok (.iload_n 2, 1) := by decide +kernel
theorem dX5_offerAll_55 : decode cX5_offerAll 55 = .ok (.iload_n 1, 1) := by decide +kernel
theorem dX5_offerAll_56 : decode cX5_offerAll 56 = .ok (.invokevirtual 162, 3) := by decide +kernel
theorem dX5_offerAll_59 : decode cX5_offerAll 59 = .ok (.aload_n 0, 1) := by decide +kernel
theorem dX5_offerAll_60 : decode cX5_offerAll 60 = .ok (.iload_n 1, 1) := by decide +kernel
theorem dX5_offerAll_61 : decode cX5_offerAll 61 = .ok (.invokevirtual 165, 3) := by decide +kernel
theorem dX5_offerAll_64 : decode cX5_offerAll 64 = .ok (.iinc 1 1, 3) := by decide +kernel
theorem dX5_offerAll_67 : decode cX5_offerAll 67 = .ok (.goto (-65), 3) := by decide +kernel
theorem dX5_offerAll_70 : decode cX5_offerAll 70 = .ok (.return_, 1) := by decide +kernel
set_option maxRecDepth 20000 in
theorem ggX5_saw_X5_take : GoodIn wsX5_saw wsX5_take := goodIn_r _ [10, 11, 12, 13, 14, 15, 16, 17, 18, 9, 19, 20, 21, 22, 23, 24, 25, 26, 27, 28, 29, 30, 31, 32, 33, 34, 35, 36, 37, 38, 39, 46, 47, 48, 49, 50, 51, 52, 53, 54, 55, 56, 57, 58, 59, 60, 61, 62, 63, 64, 65, 66, 67, 68, 69, 70, 71, 72, 73, 74, 75, 76, 77, 78, 79, 80] (by decide +kernel) (by decide +kernel)
set_option maxRecDepth 20000 in
theorem gX5_saw_X5_take : GoodIn wsX5_saw (wsV RX5 169 RX5 yX5_take wsX5_take) := goodIn_app (goodIn_of _ (by decide +kernel)) ggX5_saw_X5_take
set_option maxRecDepth 20000 in
theorem ggX5_saw_X5_sentOne : GoodIn wsX5_saw wsX5_sentOne := goodIn_r _ [43, 44, 45, 46, 47, 48, 49, 50, 51, 52, 53, 54, 55, 56, 57, 58, 59, 60, 61, 62, 63, 64, 65, 66, 67, 68, 69, 70, 71, 72, 73, 74, 75, 76, 77, 78, 79, 80] (by decide +kernel) (by decide +kernel)
set_option maxRecDepth 20000 in
theorem gX5_saw_X5_sentOne : GoodIn wsX5_saw (wsV RX5 153 RX5 yX5_sentOne wsX5_sentOne) := goodIn_app (goodIn_of _ (by decide +kernel)) ggX5_saw_X5_sentOne
theorem dX5_saw_0 : decode cX5_saw 0 = .ok (.aload_n 0, 1) := by decide +kernel
theorem dX5_saw_1 : decode cX5_saw 1 = .ok (.getfield 60, 3) := by decide +kernel
theorem dX5_saw_4 : decode cX5_saw 4 = .ok (.sipush 200, 3) := by decide +kernel
theorem dX5_saw_7 : decode cX5_saw 7 = .ok (.iload_n 1, 1) := by decide +kernel
theorem dX5_saw_8 : decode cX5_saw 8 = .ok (.imul, 1) := by decide +kernel
theorem dX5_saw_9 : decode cX5_saw 9 = .ok (.aload_n 0, 1) := by decide +kernel
theorem dX5_saw_10 : decode cX5_saw 10 = .ok (.getfield 66, 3) := by decide +kernel
theorem dX5_saw_13 : decode cX5_saw 13 = .ok (.iload_n 1, 1) := by decide +kernel
theorem dX5_saw_14 : decode cX5_saw 14 = .ok (.iaload, 1) := by decide +kernel
theorem dX5_saw_15 : decode cX5_saw 15 = .ok (.iadd, 1) := by decide +kernel
theorem dX5_saw_16 : decode cX5_saw 16 = .ok (.iaload, 1) := by decide +kernel
theorem dX5_saw_17 : decode cX5_saw 17 = .ok (.istore_n 3, 1) := by decide +kernel
theorem dX5_saw_18 : decode cX5_saw 18 = .ok (.aload_n 0, 1) := by decide +kernel
theorem dX5_saw_19 : decode cX5_saw 19 = .ok (.getfield 57, 3) := by decide +kernel
theorem dX5_saw_22 : decode cX5_saw 22 = .ok (.sipush 200, 3) := by decide +kernel
theorem dX5_saw_25 : decode cX5_saw 25 = .ok (.iload_n 1, 1) := by decide +kernel
theorem dX5_saw_26 : decode cX5_saw 26 = .ok (.imul, 1) := by decide +kernel
theorem dX5_saw_27 : decode cX5_saw 27 = .ok (.aload_n 0, 1) := by decide +kernel
theorem dX5_saw_28 : decode cX5_saw 28 = .ok (.getfield 66, 3) := by decide +kernel
theorem dX5_saw_31 : decode cX5_saw 31 = .ok (.iload_n 1, 1) := by decide +kernel
theorem dX5_saw_32 : decode cX5_saw 32 = .ok (.iaload, 1) := by decide +kernel
theorem dX5_saw_33 : decode cX5_saw 33 = .ok (.iadd, 1) := by decide +kernel
theorem dX5_saw_34 : decode cX5_saw 34 = .ok (.iaload, 1) := by decide +kernel
theorem dX5_saw_35 : decode cX5_saw 35 = .ok (.istore 4, 2) := by decide +kernel
theorem dX5_saw_37 : decode cX5_saw 37 = .ok (.aload_n 0, 1) := by decide +kernel
theorem dX5_saw_38 : decode cX5_saw 38 = .ok (.iload_n 1, 1) := by decide +kernel
theorem dX5_saw_39 : decode cX5_saw 39 = .ok (.iload_n 2, 1) := by decide +kernel
theorem dX5_saw_40 : decode cX5_saw 40 = .ok (.invokevirtual 169, 3) := by decide +kernel
theorem dX5_saw_43 : decode cX5_saw 43 = .ok (.pop, 1) := by decide +kernel
theorem dX5_saw_44 : decode cX5_saw 44 = .ok (.aload_n 0, 1) := by decide +kernel
theorem dX5_saw_45 : decode cX5_saw 45 = .ok (.getfield 66, 3) := by decide +kernel
theorem dX5_saw_48 : decode cX5_saw 48 = .ok (.iload_n 1, 1) := by decide +kernel
theorem dX5_saw_49 : decode cX5_saw 49 = .ok (.dup2, 1) := by decide +kernel
theorem dX5_saw_50 : decode cX5_saw 50 = .ok (.iaload, 1) := by decide +kernel
theorem dX5_saw_51 : decode cX5_saw 51 = .ok (.iconst 1, 1) := by decide +kernel
theorem dX5_saw_52 : decode cX5_saw 52 = .ok (.iadd, 1) := by decide +kernel
theorem dX5_saw_53 : decode cX5_saw 53 = .ok (.iastore, 1) := by decide +kernel
theorem dX5_saw_54 : decode cX5_saw 54 = .ok (.iload_n 3, 1) := by decide +kernel
theorem dX5_saw_55 : decode cX5_saw 55 = .ok (.sipush 201, 3) := by decide +kernel
theorem dX5_saw_58 : decode cX5_saw 58 = .ok (.if_icmp .ne 14, 3) := by decide +kernel
theorem dX5_saw_61 : decode cX5_saw 61 = .ok (.iload_n 2, 1) := by decide +kernel
theorem dX5_saw_62 : decode cX5_saw 62 = .ok (.iconst 1, 1) := by decide +kernel
theorem dX5_saw_63 : decode cX5_saw 63 = .ok (.if_icmp .ne 7, 3) := by decide +kernel
theorem dX5_saw_66 : decode cX5_saw 66 = .ok (.iconst 5, 1) := by decide +kernel
theorem dX5_saw_67 : decode cX5_saw 67 = .ok (.goto 4, 3) := by decide +kernel
theorem dX5_saw_70 : decode cX5_saw 70 = .ok (.iconst 0, 1) := by decide +kernel
theorem dX5_saw_71 : decode cX5_saw 71 = .ok (.ireturn, 1) := by decide +kernel
theorem dX5_saw_72 : decode cX5_saw 72 = .ok (.iload_n 2, 1) := by decide +kernel
theorem dX5_saw_73 : decode cX5_saw 73 = .ok (.iload 4, 2) := by decide +kernel
theorem dX5_saw_75 : decode cX5_saw 75 = .ok (.if_icmp .ne 5, 3) := by decide +kernel
theorem dX5_saw_78 : decode cX5_saw 78 = .ok (.iconst 0, 1) := by decide +kernel
theorem dX5_saw_79 : decode cX5_saw 79 = .ok (.ireturn, 1) := by decide +kernel
theorem dX5_saw_80 : decode cX5_saw 80 = .ok (.aload_n 0, 1) := by decide +kernel
theorem dX5_saw_81 : decode cX5_saw 81 = .ok (.getfield 31, 3) := by decide +kernel
theorem dX5_saw_84 : decode cX5_saw 84 = .ok (.aload_n 0, 1) := by decide +kernel
theorem dX5_saw_85 : decode cX5_saw 85 = .ok (.iload_n 1, 1) := by decide +kernel
theorem dX5_saw_86 : decode cX5_saw 86 = .ok (.invokevirtual 153, 3) := by decide +kernel
theorem dX5_saw_89 : decode cX5_saw 89 = .ok (.baload, 1) := by decide +kernel
theorem dX5_saw_90 : decode cX5_saw 90 = .ok (.ifCond .eq 8, 3) := by decide +kernel
theorem dX5_saw_93 : decode cX5_saw 93 = .ok (.bipush 35, 2) := by decide +kernel
theorem dX5_saw_95 : decode cX5_saw 95 = .ok (.goto 5, 3) := by decide +kernel
theorem dX5_saw_98 : decode cX5_saw 98 = .ok (.bipush 15, 2) := by decide +kernel
theorem dX5_saw_100 : decode cX5_saw 100 = .ok (.istore 5, 2) := by decide +kernel
theorem dX5_saw_102 : decode cX5_saw 102 = .ok (.iload 4, 2) := by decide +kernel
theorem dX5_saw_104 : decode cX5_saw 104 = .ok (.ifCond .eq 15, 3) := by decide +kernel
theorem dX5_saw_107 : decode cX5_saw 107 = .ok (.iload_n 3, 1) := by decide +kernel
theorem dX5_saw_108 : decode cX5_saw 108 = .ok (.ifCond .lt 11, 3) := by decide +kernel
theorem dX5_saw_111 : decode cX5_saw 111 = .ok (.iload 5, 2) := by decide +kernel
theorem dX5_saw_113 : decode cX5_saw 113 = .ok (.iload_n 3, 1) := by decide +kernel
theorem dX5_saw_114 : decode cX5_saw 114 = .ok (.isub, 1) := by decide +kernel
theorem dX5_saw_115 : decode cX5_saw 115 = .ok (.iconst 4, 1) := by decide +kernel
theorem dX5_saw_116 : decode cX5_saw 116 = .ok (.if_icmp .ge 5, 3) := by decide +kernel
theorem dX5_saw_119 : decode cX5_saw 119 = .ok (.iconst 4, 1) := by decide +kernel
theorem dX5_saw_120 : decode cX5_saw 120 = .ok (.ireturn, 1) := by decide +kernel
theorem dX5_saw_121 : decode cX5_saw 121 = .ok (.aload_n 0, 1) := by decide +kernel
theorem dX5_saw_122 : decode cX5_saw 122 = .ok (.getfield 9, 3) := by decide +kernel
theorem dX5_saw_125 : decode cX5_saw 125 = .ok (.iload_n 1, 1) := by decide +kernel
theorem dX5_saw_126 : decode cX5_saw 126 = .ok (.iconst 2, 1) := by decide +kernel
theorem dX5_saw_127 : decode cX5_saw 127 = .ok (.iastore, 1) := by decide +kernel
theorem dX5_saw_128 : decode cX5_saw 128 = .ok (.iconst 0, 1) := by decide +kernel
theorem dX5_saw_129 : decode cX5_saw 129 = .ok (.ireturn, 1) := by decide +kernel
set_option maxRecDepth 20000 in
theorem ggX5_idle_X5_begin : GoodIn wsX5_idle wsX5_begin := goodIn_r _ [6, 7, 8, 9, 10, 11, 40, 41, 42, 43, 44, 45, 46, 47, 48, 49, 50, 51, 52, 53, 54, 55, 56, 57, 58, 59, 60, 61, 62, 63, 64, 65, 66, 67, 68, 69, 70, 71, 72, 73, 74] (by decide +kernel) (by decide +kernel)
set_option maxRecDepth 20000 in
theorem gX5_idle_X5_begin : GoodIn wsX5_idle (wsV RX5 165 RX5 yX5_begin wsX5_begin) := goodIn_app (goodIn_of _ (by decide +kernel)) ggX5_idle_X5_begin
set_option maxRecDepth 20000 in
theorem ggX5_idle_X5_take : GoodIn wsX5_idle wsX5_take := goodIn_r _ [15, 7, 10, 8, 9, 16, 17, 18, 19, 5, 20, 11, 21, 22, 23, 24, 25, 26, 27, 28, 29, 30, 31, 32, 33, 34, 35, 36, 37, 38, 39, 40, 41, 42, 43, 44, 45, 46, 47, 48, 49, 50, 51, 52, 53, 54, 55, 56, 57, 58, 59, 60, 61, 62, 63, 64, 65, 66, 67, 68, 69, 70, 71, 72, 73, 74] (by decide +kernel) (by decide +kernel)
set_option maxRecDepth 20000 in
theorem gX5_idle_X5_take : GoodIn wsX5_idle (wsV RX5 169 RX5 yX5_take wsX5_take) := goodIn_app (goodIn_of _ (by decide +kernel)) ggX5_idle_X5_take
theorem dX5_idle_0 : decode cX5_idle 0 = .ok (.iload_n 2, 1) := by decide +kernel
theorem dX5_idle_1 : decode cX5_idle 1 = .ok (.ifCond .ne 22, 3) := by decide +kernel
theorem dX5_idle_4 : decode cX5_idle 4 = .ok (.aload_n 0, 1) := by decide +kernel
theorem dX5_idle_5 : decode cX5_idle 5 = .ok (.getfield 9, 3) := by decide +kernel
theorem dX5_idle_8 : decode cX5_idle 8 = .ok (.iload_n 1, 1) := by decide +kernel
theorem dX5_idle_9 : decode cX5_idle 9 = .ok (.iconst 2, 1) := by decide +kernel
theorem dX5_idle_10 : decode cX5_idle 10 = .ok (.iastore, 1) := by decide +kernel
theorem dX5_idle_11 : decode cX5_idle 11 = .ok (.aload_n 0, 1) := by decide +kernel
theorem dX5_idle_12 : decode cX5_idle 12 = .ok (.iload_n 1, 1) := by decide +kernel
theorem dX5_idle_13 : decode cX5_idle 13 = .ok (.invokevirtual 165, 3) := by decide +kernel
theorem dX5_idle_16 : decode cX5_idle 16 = .ok (.aload_n 0, 1) := by decide +kernel
theorem dX5_idle_17 : decode cX5_idle 17 = .ok (.iload_n 1, 1) := by decide +kernel
theorem dX5_idle_18 : decode cX5_idle 18 = .ok (.iconst 0, 1) := by decide +kernel
theorem dX5_idle_19 : decode cX5_idle 19 = .ok (.invokevirtual 169, 3) := by decide +kernel
theorem dX5_idle_22 : decode cX5_idle 22 = .ok (.ireturn, 1) := by decide +kernel
theorem dX5_idle_23 : decode cX5_idle 23 = .ok (.iconst 0, 1) := by decide +kernel
theorem dX5_idle_24 : decode cX5_idle 24 = .ok (.ireturn, 1) := by decide +kernel
set_option maxRecDepth 20000 in
theorem ggX5_sees_X5_saw : GoodIn wsX5_sees wsX5_saw := goodIn_r _ [6, 7, 8, 9, 10, 1, 11, 12, 13, 5, 14, 15, 16, 17, 18, 19, 20, 21, 22, 23, 24, 25, 26, 27, 28, 29, 30, 31, 32, 33, 34, 35, 36, 37, 38, 39, 40, 41, 42, 43, 44, 45, 46, 47, 48, 49, 58, 59, 60, 61, 62, 63, 64, 65, 66, 67, 68, 69, 70, 71, 72, 73, 74, 75, 76, 77, 78, 79, 80, 81, 82, 83, 84, 85, 86, 87, 88, 89, 90, 91, 92] rfl (by decide +kernel)
set_option maxRecDepth 20000 in
theorem gX5_sees_X5_saw : GoodIn wsX5_sees (wsV RX5 172 RX5 yX5_saw wsX5_saw) := goodIn_app (goodIn_of _ (by decide +kernel)) ggX5_sees_X5_saw
set_option maxRecDepth 20000 in
theorem ggX5_sees_X5_take : GoodIn wsX5_sees wsX5_take := goodIn_r _ [14, 15, 16, 17, 18, 19, 20, 21, 22, 5, 23, 24, 25, 26, 27, 28, 29, 30, 31, 32, 33, 34, 35, 36, 37, 38, 39, 40, 41, 42, 43, 58, 59, 60, 61, 62, 63, 64, 65, 66, 67, 68, 69, 70, 71, 72, 73, 74, 75, 76, 77, 78, 79, 80, 81, 82, 83, 84, 85, 86, 87, 88, 89, 90, 91, 92] (by decide +kernel) (by decide +kernel)
set_option maxRecDepth 20000 in
theorem gX5_sees_X5_take : GoodIn wsX5_sees (wsV RX5 169 RX5 yX5_take wsX5_take) := goodIn_app (goodIn_of _ (by decide +kernel)) ggX5_sees_X5_take
set_option maxRecDepth 20000 in
theorem ggX5_sees_X5_idle : GoodIn wsX5_sees wsX5_idle := goodIn_r _ [53, 1, 54, 55, 56, 5, 57, 15, 17, 18, 16, 24, 11, 12, 13, 14, 19, 20, 21, 22, 23, 25, 26, 27, 28, 29, 30, 31, 32, 33, 34, 35, 36, 37, 38, 39, 40, 41, 42, 43, 58, 59, 60, 61, 62, 63, 64, 65, 66, 67, 68, 69, 70, 71, 72, 73, 74, 75, 76, 77, 78, 79, 80, 81, 82, 83, 84, 85, 86, 87, 88, 89, 90, 91, 92] rfl (by decide +kernel)
set_option maxRecDepth 20000 in
theorem gX5_sees_X5_idle : GoodIn wsX5_sees (wsV RX5 175 RX5 yX5_idle wsX5_idle) := goodIn_app (goodIn_of _ (by decide +kernel)) ggX5_sees_X5_idle
theorem dX5_sees_0 : decode cX5_sees 0 = .ok (.aload_n 0, 1) := by decide +kernel
theorem dX5_sees_1 : decode cX5_sees 1 = .ok (.getfield 9, 3) := by decide +kernel
theorem dX5_sees_4 : decode cX5_sees 4 = .ok (.iload_n 1, 1) := by decide +kernel
theorem dX5_sees_5 : decode cX5_sees 5 = .ok (.iaload, 1) := by decide +kernel
theorem dX5_sees_6 : decode cX5_sees 6 = .ok (.iconst 3, 1) := by decide +kernel
theorem dX5_sees_7 : decode cX5_sees 7 = .ok (.if_icmp .ne 10, 3) := by decide +kernel
theorem dX5_sees_10 : decode cX5_sees 10 = .ok (.aload_n 0, 1) := by decide +kernel
theorem dX5_sees_11 : decode cX5_sees 11 = .ok (.iload_n 1, 1) := by decide +kernel
theorem dX5_sees_12 : decode cX5_sees 12 = .ok (.iload_n 2, 1) := by decide +kernel
theorem dX5_sees_13 : decode cX5_sees 13 = .ok (.invokevirtual 172, 3) := by decide +kernel
theorem dX5_sees_16 : decode cX5_sees 16 = .ok (.ireturn, 1) := by decide +kernel
theorem dX5_sees_17 : decode cX5_sees 17 = .ok (.aload_n 0, 1) := by decide +kernel
theorem dX5_sees_18 : decode cX5_sees 18 = .ok (.getfield 9, 3) := by decide +kernel
theorem dX5_sees_21 : decode cX5_sees 21 = .ok (.iload_n 1, 1) := by decide +kernel
theorem dX5_sees_22 : decode cX5_sees 22 = .ok (.iaload, 1) := by decide +kernel
theorem dX5_sees_23 : decode cX5_sees 23 = .ok (.iconst 2, 1) := by decide +kernel
theorem dX5_sees_24 : decode cX5_sees 24 = .ok (.if_icmp .ne 12, 3) := by decide +kernel
theorem dX5_sees_27 : decode cX5_sees 27 = .ok (.aload_n 0, 1) := by decide +kernel
theorem dX5_sees_28 : decode cX5_sees 28 = .ok (.iload_n 1, 1) := by decide +kernel
theorem dX5_sees_29 : decode cX5_sees 29 = .ok (.iload_n 2, 1) := by decide +kernel
theorem dX5_sees_30 : decode cX5_sees 30 = .ok (.invokevirtual 169, 3) := by decide +kernel
theorem dX5_sees_33 : decode cX5_sees 33 = .ok (.goto 23, 3) := by decide +kernel
theorem dX5_sees_36 : decode cX5_sees 36 = .ok (.aload_n 0, 1) := by decide +kernel
theorem dX5_sees_37 : decode cX5_sees 37 = .ok (.getfield 9, 3) := by decide +kernel
theorem dX5_sees_40 : decode cX5_sees 40 = .ok (.iload_n 1, 1) := by decide +kernel
theorem dX5_sees_41 : decode cX5_sees 41 = .ok (.iaload, 1) := by decide +kernel
theorem dX5_sees_42 : decode cX5_sees 42 = .ok (.iconst 1, 1) := by decide +kernel
theorem dX5_sees_43 : decode cX5_sees 43 = .ok (.if_icmp .ne 12, 3) := by decide +kernel
theorem dX5_sees_46 : decode cX5_sees 46 = .ok (.aload_n 0, 1) := by decide +kernel
theorem dX5_sees_47 : decode cX5_sees 47 = .ok (.iload_n 1, 1) := by decide +kernel
theorem dX5_sees_48 : decode cX5_sees 48 = .ok (.iload_n 2, 1) := by decide +kernel
theorem dX5_sees_49 : decode cX5_sees 49 = .ok (.invokevirtual 175, 3) := by decide +kernel
theorem dX5_sees_52 : decode cX5_sees 52 = .ok (.goto 4, 3) := by decide +kernel
theorem dX5_sees_55 : decode cX5_sees 55 = .ok (.iconst 0, 1) := by decide +kernel
theorem dX5_sees_56 : decode cX5_sees 56 = .ok (.ireturn, 1) := by decide +kernel
theorem dX5_breakOff_0 : decode cX5_breakOff 0 = .ok (.iconst 0, 1) := by decide +kernel
theorem dX5_breakOff_1 : decode cX5_breakOff 1 = .ok (.istore_n 2, 1) := by decide +kernel
theorem dX5_breakOff_2 : decode cX5_breakOff 2 = .ok (.iload_n 2, 1) := by decide +kernel
theorem dX5_breakOff_3 : decode cX5_breakOff 3 = .ok (.iconst 4, 1) := by decide +kernel
theorem dX5_breakOff_4 : decode cX5_breakOff 4 = .ok (.if_icmp .ge 88, 3) := by decide +kernel
theorem dX5_breakOff_7 : decode cX5_breakOff 7 = .ok (.iload_n 1, 1) := by decide +kernel
theorem dX5_breakOff_8 : decode cX5_breakOff 8 = .ok (.iload_n 2, 1) := by decide +kernel
theorem dX5_breakOff_9 : decode cX5_breakOff 9 = .ok (.ishr, 1) := by decide +kernel
theorem dX5_breakOff_10 : decode cX5_breakOff 10 = .ok (.iconst 1, 1) := by decide +kernel
theorem dX5_breakOff_11 : decode cX5_breakOff 11 = .ok (.iand, 1) := by decide +kernel
theorem dX5_breakOff_12 : decode cX5_breakOff 12 = .ok (.iconst 1, 1) := by decide +kernel
theorem dX5_breakOff_13 : decode cX5_breakOff 13 = .ok (.if_icmp .ne 41, 3) := by decide +kernel
theorem dX5_breakOff_16 : decode cX5_breakOff 16 = .ok (.aload_n 0, 1) := by decide +kernel
theorem dX5_breakOff_17 : decode cX5_breakOff 17 = .ok (.getfield 9, 3) := by decide +kernel
theorem dX5_breakOff_20 : decode cX5_breakOff 20 = .ok (.iload_n 2, 1) := by decide +kernel
theorem dX5_breakOff_21 : decode cX5_breakOff 21 = .ok (.iaload, 1) := by decide +kernel
theorem dX5_breakOff_22 : decode cX5_breakOff 22 = .ok (.iconst 3, 1) := by decide +kernel
theorem dX5_breakOff_23 : decode cX5_breakOff 23 = .ok (.if_icmp .ne 21, 3) := by decide +kernel
theorem dX5_breakOff_26 : decode cX5_breakOff 26 = .ok (.aload_n 0, 1) := by decide +kernel
theorem dX5_breakOff_27 : decode cX5_breakOff 27 = .ok (.getfield 13, 3) := by decide +kernel
theorem dX5_breakOff_30 : decode cX5_breakOff 30 = .ok (.iload_n 2, 1) := by decide +kernel
theorem dX5_breakOff_31 : decode cX5_breakOff 31 = .ok (.aload_n 0, 1) := by decide +kernel
theorem dX5_breakOff_32 : decode cX5_breakOff 32 = .ok (.getfield 13, 3) := by decide +kernel
theorem dX5_breakOff_35 : decode cX5_breakOff 35 = .ok (.iload_n 2, 1) := by decide +kernel
theorem dX5_breakOff_36 : decode cX5_breakOff 36 = .ok (.iaload, 1) := by decide +kernel
theorem dX5_breakOff_37 : decode cX5_breakOff 37 = .ok (.bipush 8, 2) := by decide +kernel
theorem dX5_breakOff_39 : decode cX5_breakOff 39 = .ok (.iadd, 1) := by decide +kernel
theorem dX5_breakOff_40 : decode cX5_breakOff 40 = .ok (.iastore, 1) := by decide +kernel
theorem dX5_breakOff_41 : decode cX5_breakOff 41 = .ok (.goto 13, 3) := by decide +kernel
theorem dX5_breakOff_44 : decode cX5_breakOff 44 = .ok (.aload_n 0, 1) := by decide +kernel
theorem dX5_breakOff_45 : decode cX5_breakOff 45 = .ok (.getfield 16, 3) := by decide +kernel
theorem dX5_breakOff_48 : decode cX5_breakOff 48 = .ok (.iload_n 2, 1) := by decide +kernel
theorem dX5_breakOff_49 : decode cX5_breakOff 49 = .ok (.dup2, 1) := by decide +kernel
theorem dX5_breakOff_50 : decode cX5_breakOff 50 = .ok (.iaload, 1) := by decide +kernel
theorem dX5_breakOff_51 : decode cX5_breakOff 51 = .ok (.iconst 1, 1) := by decide +kernel
theorem dX5_breakOff_52 : decode cX5_breakOff 52 = .ok (.iadd, 1) := by decide +kernel
theorem dX5_breakOff_53 : decode cX5_breakOff 53 = .ok (.iastore, 1) := by decide +kernel
theorem dX5_breakOff_54 : decode cX5_breakOff 54 = .ok (.aload_n 0, 1) := by decide +kernel
theorem dX5_breakOff_55 : decode cX5_breakOff 55 = .ok (.getfield 9, 3) := by decide +kernel
theorem dX5_breakOff_58 : decode cX5_breakOff 58 = .ok (.iload_n 2, 1) := by decide +kernel
theorem dX5_breakOff_59 : decode cX5_breakOff 59 = .ok (.aload_n 0, 1) := by decide +kernel
theorem dX5_breakOff_60 : decode cX5_breakOff 60 = .ok (.getfield 9, 3) := by decide +kernel
theorem dX5_breakOff_63 : decode cX5_breakOff 63 = .ok (.iload_n 2, 1) := by decide +kernel
theorem dX5_breakOff_64 : decode cX5_breakOff 64 = .ok (.iaload, 1) := by decide +kernel
theorem dX5_breakOff_65 : decode cX5_breakOff 65 = .ok (.ifCond .eq 15, 3) := by decide +kernel
theorem dX5_breakOff_68 : decode cX5_breakOff 68 = .ok (.aload_n 0, 1) := by decide +kernel
theorem dX5_breakOff_69 : decode cX5_breakOff 69 = .ok (.getfield 13, 3) := by decide +kernel
theorem dX5_breakOff_72 : decode cX5_breakOff 72 = .ok (.iload_n 2, 1) := by decide +kernel
theorem dX5_breakOff_73 : decode cX5_breakOff 73 = .ok (.iaload, 1) := by decide +kernel
theorem dX5_breakOff_74 : decode cX5_breakOff 74 = .ok (.sipush 255, 3) := by decide +kernel
theorem dX5_breakOff_77 : decode cX5_breakOff 77 = .ok (.if_icmp .le 7, 3) := by decide +kernel
theorem dX5_breakOff_80 : decode cX5_breakOff 80 = .ok (.iconst 0, 1) := by decide +kernel
theorem dX5_breakOff_81 : decode cX5_breakOff 81 = .ok (.goto 4, 3) := by decide +kernel
theorem dX5_breakOff_84 : decode cX5_breakOff 84 = .ok (.iconst 1, 1) := by decide +kernel
theorem dX5_breakOff_85 : decode cX5_breakOff 85 = .ok (.iastore, 1) := by decide +kernel
theorem dX5_breakOff_86 : decode cX5_breakOff 86 = .ok (.iinc 2 1, 3) := by decide +kernel
theorem dX5_breakOff_89 : decode cX5_breakOff 89 = .ok (.goto (-87), 3) := by decide +kernel
theorem dX5_breakOff_92 : decode cX5_breakOff 92 = .ok (.aload_n 0, 1) := by decide +kernel
theorem dX5_breakOff_93 : decode cX5_breakOff 93 = .ok (.iconst 2, 1) := by decide +kernel
theorem dX5_breakOff_94 : decode cX5_breakOff 94 = .ok (.putfield 178, 3) := by decide +kernel
theorem dX5_breakOff_97 : decode cX5_breakOff 97 = .ok (.aload_n 0, 1) := by decide +kernel
theorem dX5_breakOff_98 : decode cX5_breakOff 98 = .ok (.bipush 14, 2) := by decide +kernel
theorem dX5_breakOff_100 : decode cX5_breakOff 100 = .ok (.putfield 181, 3) := by decide +kernel
theorem dX5_breakOff_103 : decode cX5_breakOff 103 = .ok (.return_, 1) := by decide +kernel
set_option maxRecDepth 20000 in
theorem ggX5_keep_X5_isLong : GoodIn wsX5_keep wsX5_isLong := goodIn_r _ [12, 13, 22, 23, 24, 25, 26, 27, 28, 29, 30, 31, 32, 33, 34, 35, 36, 37, 38, 39, 40, 41, 42, 43, 44, 45, 46, 47, 48, 49, 50, 51, 52, 53, 54, 55, 56] (by decide +kernel) (by decide +kernel)
set_option maxRecDepth 20000 in
theorem gX5_keep_X5_isLong : GoodIn wsX5_keep (wsV RX5 120 RX5 yX5_isLong wsX5_isLong) := goodIn_app (goodIn_of _ (by decide +kernel)) ggX5_keep_X5_isLong
set_option maxRecDepth 20000 in
theorem ggX5_keep_X5_number : GoodIn wsX5_keep wsX5_number := goodIn_r _ [17, 13, 22, 23, 24, 25, 26, 27, 28, 29, 30, 31, 32, 33, 34, 35, 36, 37, 38, 39, 40, 41, 42, 43, 44, 45, 46, 47, 48, 49, 50, 51, 52, 53, 54, 55, 56] (by decide +kernel) (by decide +kernel)
set_option maxRecDepth 20000 in
theorem gX5_keep_X5_number : GoodIn wsX5_keep (wsV RX5 124 RX5 yX5_number wsX5_number) := goodIn_app (goodIn_of _ (by decide +kernel)) ggX5_keep_X5_number
set_option maxRecDepth 20000 in
theorem ggX5_keep_X5_bytesOf : GoodIn wsX5_keep wsX5_bytesOf := goodIn_r _ [21, 8, 9, 10, 11, 12, 13, 14, 15, 16, 17, 22, 23, 24, 25, 26, 27, 28, 29, 30, 31, 32, 33, 34, 35, 36, 37, 38, 39, 40, 41, 42, 43, 44, 45, 46, 47, 48, 49, 50, 51, 52, 53, 54, 55, 56] (by decide +kernel) (by decide +kernel)
set_option maxRecDepth 20000 in
theorem gX5_keep_X5_bytesOf : GoodIn wsX5_keep (wsV RX5 134 RX5 yX5_bytesOf wsX5_bytesOf) := goodIn_app (goodIn_of _ (by decide +kernel)) ggX5_keep_X5_bytesOf
theorem dX5_keep_0 : decode cX5_keep 0 = .ok (.aload_n 0, 1) := by decide +kernel
theorem dX5_keep_1 : decode cX5_keep 1 = .ok (.iload_n 1, 1) := by decide +kernel
theorem dX5_keep_2 : decode cX5_keep 2 = .ok (.invokevirtual 120, 3) := by decide +kernel
theorem dX5_keep_5 : decode cX5_keep 5 = .ok (.istore_n 2, 1) := by decide +kernel
theorem dX5_keep_6 : decode cX5_keep 6 = .ok (.aload_n 0, 1) := by decide +kernel
theorem dX5_keep_7 : decode cX5_keep 7 = .ok (.getfield 45, 3) := by decide +kernel
theorem dX5_keep_10 : decode cX5_keep 10 = .ok (.iload_n 1, 1) := by decide +kernel
theorem dX5_keep_11 : decode cX5_keep 11 = .ok (.iload_n 2, 1) := by decide +kernel
theorem dX5_keep_12 : decode cX5_keep 12 = .ok (.bastore, 1) := by decide +kernel
theorem dX5_keep_13 : decode cX5_keep 13 = .ok (.aload_n 0, 1) := by decide +kernel
theorem dX5_keep_14 : decode cX5_keep 14 = .ok (.getfield 48, 3) := by decide +kernel
theorem dX5_keep_17 : decode cX5_keep 17 = .ok (.iload_n 1, 1) := by decide +kernel
theorem dX5_keep_18 : decode cX5_keep 18 = .ok (.iload_n 2, 1) := by decide +kernel
theorem dX5_keep_19 : decode cX5_keep 19 = .ok (.ifCond .eq 27, 3) := by decide +kernel
theorem dX5_keep_22 : decode cX5_keep 22 = .ok (.aload_n 0, 1) := by decide +kernel
theorem dX5_keep_23 : decode cX5_keep 23 = .ok (.iload_n 1, 1) := by decide +kernel
theorem dX5_keep_24 : decode cX5_keep 24 = .ok (.iconst 1, 1) := by decide +kernel
theorem dX5_keep_25 : decode cX5_keep 25 = .ok (.bipush 11, 2) := by decide +kernel
theorem dX5_keep_27 : decode cX5_keep 27 = .ok (.invokevirtual 124, 3) := by decide +kernel
theorem dX5_keep_30 : decode cX5_keep 30 = .ok (.bipush 18, 2) := by decide +kernel
theorem dX5_keep_32 : decode cX5_keep 32 = .ok (.ishl, 1) := by decide +kernel
theorem dX5_keep_33 : decode cX5_keep 33 = .ok (.aload_n 0, 1) := by decide +kernel
theorem dX5_keep_34 : decode cX5_keep 34 = .ok (.iload_n 1, 1) := by decide +kernel
theorem dX5_keep_35 : decode cX5_keep 35 = .ok (.bipush 14, 2) := by decide +kernel
theorem dX5_keep_37 : decode cX5_keep 37 = .ok (.bipush 18, 2) := by decide +kernel
theorem dX5_keep_39 : decode cX5_keep 39 = .ok (.invokevirtual 124, 3) := by decide +kernel
theorem dX5_keep_42 : decode cX5_keep 42 = .ok (.ior, 1) := by decide +kernel
theorem dX5_keep_43 : decode cX5_keep 43 = .ok (.goto 11, 3) := by decide +kernel
theorem dX5_keep_46 : decode cX5_keep 46 = .ok (.aload_n 0, 1) := by decide +kernel
theorem dX5_keep_47 : decode cX5_keep 47 = .ok (.iload_n 1, 1) := by decide +kernel
theorem dX5_keep_48 : decode cX5_keep 48 = .ok (.iconst 1, 1) := by decide +kernel
theorem dX5_keep_49 : decode cX5_keep 49 = .ok (.bipush 11, 2) := by decide +kernel
theorem dX5_keep_51 : decode cX5_keep 51 = .ok (.invokevirtual 124, 3) := by decide +kernel
theorem dX5_keep_54 : decode cX5_keep 54 = .ok (.iastore, 1) := by decide +kernel
theorem dX5_keep_55 : decode cX5_keep 55 = .ok (.aload_n 0, 1) := by decide +kernel
theorem dX5_keep_56 : decode cX5_keep 56 = .ok (.getfield 54, 3) := by decide +kernel
theorem dX5_keep_59 : decode cX5_keep 59 = .ok (.iload_n 1, 1) := by decide +kernel
theorem dX5_keep_60 : decode cX5_keep 60 = .ok (.aload_n 0, 1) := by decide +kernel
theorem dX5_keep_61 : decode cX5_keep 61 = .ok (.iload_n 1, 1) := by decide +kernel
theorem dX5_keep_62 : decode cX5_keep 62 = .ok (.invokevirtual 134, 3) := by decide +kernel
theorem dX5_keep_65 : decode cX5_keep 65 = .ok (.iastore, 1) := by decide +kernel
theorem dX5_keep_66 : decode cX5_keep 66 = .ok (.lconst 0, 1) := by decide +kernel
theorem dX5_keep_67 : decode cX5_keep 67 = .ok (.lstore_n 3, 1) := by decide +kernel
theorem dX5_keep_68 : decode cX5_keep 68 = .ok (.iconst 0, 1) := by decide +kernel
theorem dX5_keep_69 : decode cX5_keep 69 = .ok (.istore 5, 2) := by decide +kernel
theorem dX5_keep_71 : decode cX5_keep 71 = .ok (.iload 5, 2) := by decide +kernel
theorem dX5_keep_73 : decode cX5_keep 73 = .ok (.aload_n 0, 1) := by decide +kernel
theorem dX5_keep_74 : decode cX5_keep 74 = .ok (.getfield 54, 3) := by decide +kernel
theorem dX5_keep_77 : decode cX5_keep 77 = .ok (.iload_n 1, 1) := by decide +kernel
theorem dX5_keep_78 : decode cX5_keep 78 = .ok (.iaload, 1) := by decide +kernel
theorem dX5_keep_79 : decode cX5_keep 79 = .ok (.if_icmp .ge 43, 3) := by decide +kernel
theorem dX5_keep_82 : decode cX5_keep 82 = .ok (.lload_n 3, 1) := by decide +kernel
theorem dX5_keep_83 : decode cX5_keep 83 = .ok (.aload_n 0, 1) := by decide +kernel
theorem dX5_keep_84 : decode cX5_keep 84 = .ok (.iload_n 1, 1) := by decide +kernel
theorem dX5_keep_85 : decode cX5_keep 85 = .ok (.iload_n 2, 1) := by decide +kernel
theorem dX5_keep_86 : decode cX5_keep 86 = .ok (.ifCond .eq 8, 3) := by decide +kernel
theorem dX5_keep_89 : decode cX5_keep 89 = .ok (.bipush 39, 2) := by decide +kernel
theorem dX5_keep_91 : decode cX5_keep 91 = .ok (.goto 5, 3) := by decide +kernel
theorem dX5_keep_94 : decode cX5_keep 94 = .ok (.bipush 19, 2) := by decide +kernel
theorem dX5_keep_96 : decode cX5_keep 96 = .ok (.bipush 8, 2) := by decide +kernel
theorem dX5_keep_98 : decode cX5_keep 98 = .ok (.iload 5, 2) := by decide +kernel
theorem dX5_keep_100 : decode cX5_keep 100 = .ok (.imul, 1) := by decide +kernel
theorem dX5_keep_101 : decode cX5_keep 101 = .ok (.iadd, 1) := by decide +kernel
theorem dX5_keep_102 : decode cX5_keep 102 = .ok (.bipush 8, 2) := by decide +kernel
theorem dX5_keep_104 : decode cX5_keep 104 = .ok (.invokevirtual 124, 3) := by decide +kernel
theorem dX5_keep_107 : decode cX5_keep 107 = .ok (.i2l, 1) := by decide +kernel
theorem dX5_keep_108 : decode cX5_keep 108 = .ok (.bipush 8, 2) := by decide +kernel
theorem dX5_keep_110 : decode cX5_keep 110 = .ok (.iload 5, 2) := by decide +kernel
theorem dX5_keep_112 : decode cX5_keep 112 = .ok (.imul, 1) := by decide +kernel
theorem dX5_keep_113 : decode cX5_keep 113 = .ok (.lshl, 1) := by decide +kernel
theorem dX5_keep_114 : decode cX5_keep 114 = .ok (.lor, 1) := by decide +kernel
theorem dX5_keep_115 : decode cX5_keep 115 = .ok (.lstore_n 3, 1) := by decide +kernel
theorem dX5_keep_116 : decode cX5_keep 116 = .ok (.iinc 5 1, 3) := by decide +kernel
theorem dX5_keep_119 : decode cX5_keep 119 = .ok (.goto (-48), 3) := by decide +kernel
theorem dX5_keep_122 : decode cX5_keep 122 = .ok (.aload_n 0, 1) := by decide +kernel
theorem dX5_keep_123 : decode cX5_keep 123 = .ok (.getfield 51, 3) := by decide +kernel
theorem dX5_keep_126 : decode cX5_keep 126 = .ok (.iload_n 1, 1) := by decide +kernel
theorem dX5_keep_127 : decode cX5_keep 127 = .ok (.lload_n 3, 1) := by decide +kernel
theorem dX5_keep_128 : decode cX5_keep 128 = .ok (.lastore, 1) := by decide +kernel
theorem dX5_keep_129 : decode cX5_keep 129 = .ok (.aload_n 0, 1) := by decide +kernel
theorem dX5_keep_130 : decode cX5_keep 130 = .ok (.getfield 22, 3) := by decide +kernel
theorem dX5_keep_133 : decode cX5_keep 133 = .ok (.iload_n 1, 1) := by decide +kernel
theorem dX5_keep_134 : decode cX5_keep 134 = .ok (.dup2, 1) := by decide +kernel
theorem dX5_keep_135 : decode cX5_keep 135 = .ok (.iaload, 1) := by decide +kernel
theorem dX5_keep_136 : decode cX5_keep 136 = .ok (.iconst 1, 1) := by decide +kernel
theorem dX5_keep_137 : decode cX5_keep 137 = .ok (.iadd, 1) := by decide +kernel
theorem dX5_keep_138 : decode cX5_keep 138 = .ok (.iastore, 1) := by decide +kernel
theorem dX5_keep_139 : decode cX5_keep 139 = .ok (.aload_n 0, 1) := by decide +kernel
theorem dX5_keep_140 : decode cX5_keep 140 = .ok (.getfield 16, 3) := by decide +kernel
theorem dX5_keep_143 : decode cX5_keep 143 = .ok (.iload_n 1, 1) := by decide +kernel
theorem dX5_keep_144 : decode cX5_keep 144 = .ok (.aload_n 0, 1) := by decide +kernel
theorem dX5_keep_145 : decode cX5_keep 145 = .ok (.getfield 16, 3) := by decide +kernel
theorem dX5_keep_148 : decode cX5_keep 148 = .ok (.iload_n 1, 1) := by decide +kernel
theorem dX5_keep_149 : decode cX5_keep 149 = .ok (.iaload, 1) := by decide +kernel
theorem dX5_keep_150 : decode cX5_keep 150 = .ok (.ifCond .le 14, 3) := by decide +kernel
theorem dX5_keep_153 : decode cX5_keep 153 = .ok (.aload_n 0, 1) := by decide +kernel
theorem dX5_keep_154 : decode cX5_keep 154 = .ok (.getfield 16, 3) := by decide +kernel
theorem dX5_keep_157 : decode cX5_keep 157 = .ok (.iload_n 1, 1) := by decide +kernel
theorem dX5_keep_158 : decode cX5_keep 158 = .ok (.iaload, 1) := by decide +kernel
theorem dX5_keep_159 : decode cX5_keep 159 = .ok (.iconst 1, 1) := by decide +kernel
theorem dX5_keep_160 : decode cX5_keep 160 = .ok (.isub, 1) := by decide +kernel
theorem dX5_keep_161 : decode cX5_keep 161 = .ok (.goto 4, 3) := by decide +kernel
theorem dX5_keep_164 : decode cX5_keep 164 = .ok (.iconst 0, 1) := by decide +kernel
theorem dX5_keep_165 : decode cX5_keep 165 = .ok (.iastore, 1) := by decide +kernel
theorem dX5_keep_166 : decode cX5_keep 166 = .ok (.aload_n 0, 1) := by decide +kernel
theorem dX5_keep_167 : decode cX5_keep 167 = .ok (.getfield 9, 3) := by decide +kernel
theorem dX5_keep_170 : decode cX5_keep 170 = .ok (.iload_n 1, 1) := by decide +kernel
theorem dX5_keep_171 : decode cX5_keep 171 = .ok (.iconst 1, 1) := by decide +kernel
theorem dX5_keep_172 : decode cX5_keep 172 = .ok (.iastore, 1) := by decide +kernel
theorem dX5_keep_173 : decode cX5_keep 173 = .ok (.return_, 1) := by decide +kernel
set_option maxRecDepth 20000 in
theorem ggX5_finish_X5_forget : GoodIn wsX5_finish wsX5_forget := goodIn_r _ [12, 13, 14, 15, 16, 17, 18, 19, 20, 21, 11, 22, 23, 47, 48, 49, 50, 51, 52, 53, 54, 55, 56, 57, 58, 59, 60, 61, 62, 63, 64, 65, 66, 67, 68, 69, 70, 71, 72, 73, 74, 75, 76, 77, 78, 79, 80, 81] (by decide +kernel) (by decide +kernel)
set_option maxRecDepth 20000 in
theorem gX5_finish_X5_forget : GoodIn wsX5_finish (wsV RX5 184 RX5 yX5_forget wsX5_forget) := goodIn_app (goodIn_of _ (by decide +kernel)) ggX5_finish_X5_forget
set_option maxRecDepth 20000 in
theorem ggX5_finish_X5_keep : GoodIn wsX5_finish wsX5_keep := goodIn_r _ [27, 28, 29, 30, 31, 32, 33, 1, 34, 35, 36, 11, 37, 38, 39, 40, 41, 42, 43, 44, 45, 46, 47, 48, 49, 50, 51, 52, 53, 54, 55, 56, 57, 58, 59, 60, 61, 62, 63, 64, 65, 66, 67, 68, 69, 70, 71, 72, 73, 74, 75, 76, 77, 78, 79, 80, 81] (by decide +kernel) (by decide +kernel)
set_option maxRecDepth 20000 in
theorem gX5_finish_X5_keep : GoodIn wsX5_finish (wsV RX5 187 RX5 yX5_keep wsX5_keep) := goodIn_app (goodIn_of _ (by decide +kernel)) ggX5_finish_X5_keep
theorem dX5_finish_0 : decode cX5_finish 0 = .ok (.iconst 0, 1) := by decide +kernel
theorem dX5_finish_1 : decode cX5_finish 1 = .ok (.istore_n 2, 1) := by decide +kernel
theorem dX5_finish_2 : decode cX5_finish 2 = .ok (.iconst 0, 1) := by decide +kernel
theorem dX5_finish_3 : decode cX5_finish 3 = .ok (.istore_n 3, 1) := by decide +kernel
theorem dX5_finish_4 : decode cX5_finish 4 = .ok (.iload_n 3, 1) := by decide +kernel
theorem dX5_finish_5 : decode cX5_finish 5 = .ok (.iconst 4, 1) := by decide +kernel
theorem dX5_finish_6 : decode cX5_finish 6 = .ok (.if_icmp .ge 127, 3) := by decide +kernel
theorem dX5_finish_9 : decode cX5_finish 9 = .ok (.aload_n 0, 1) := by decide +kernel
theorem dX5_finish_10 : decode cX5_finish 10 = .ok (.getfield 9, 3) := by decide +kernel
theorem dX5_finish_13 : decode cX5_finish 13 = .ok (.iload_n 3, 1) := by decide +kernel
theorem dX5_finish_14 : decode cX5_finish 14 = .ok (.iaload, 1) := by decide +kernel
theorem dX5_finish_15 : decode cX5_finish 15 = .ok (.iconst 3, 1) := by decide +kernel
theorem dX5_finish_16 : decode cX5_finish 16 = .ok (.if_icmp .ne 67, 3) := by decide +kernel
theorem dX5_finish_19 : decode cX5_finish 19 = .ok (.aload_n 0, 1) := by decide +kernel
theorem dX5_finish_20 : decode cX5_finish 20 = .ok (.getfield 66, 3) := by decide +kernel
theorem dX5_finish_23 : decode cX5_finish 23 = .ok (.iload_n 3, 1) := by decide +kernel
theorem dX5_finish_24 : decode cX5_finish 24 = .ok (.iaload, 1) := by decide +kernel
theorem dX5_finish_25 : decode cX5_finish 25 = .ok (.aload_n 0, 1) := by decide +kernel
theorem dX5_finish_26 : decode cX5_finish 26 = .ok (.getfield 63, 3) := by decide +kernel
theorem dX5_finish_29 : decode cX5_finish 29 = .ok (.iload_n 3, 1) := by decide +kernel
theorem dX5_finish_30 : decode cX5_finish 30 = .ok (.iaload, 1) := by decide +kernel
theorem dX5_finish_31 : decode cX5_finish 31 = .ok (.if_icmp .ne 52, 3) := by decide +kernel
theorem dX5_finish_34 : decode cX5_finish 34 = .ok (.aload_n 0, 1) := by decide +kernel
theorem dX5_finish_35 : decode cX5_finish 35 = .ok (.iload_n 3, 1) := by decide +kernel
theorem dX5_finish_36 : decode cX5_finish 36 = .ok (.invokevirtual 184, 3) := by decide +kernel
theorem dX5_finish_39 : decode cX5_finish 39 = .ok (.aload_n 0, 1) := by decide +kernel
theorem dX5_finish_40 : decode cX5_finish 40 = .ok (.getfield 19, 3) := by decide +kernel
theorem dX5_finish_43 : decode cX5_finish 43 = .ok (.iload_n 3, 1) := by decide +kernel
theorem dX5_finish_44 : decode cX5_finish 44 = .ok (.dup2, 1) := by decide +kernel
theorem dX5_finish_45 : decode cX5_finish 45 = .ok (.iaload, 1) := by decide +kernel
theorem dX5_finish_46 : decode cX5_finish 46 = .ok (.iconst 1, 1) := by decide +kernel
theorem dX5_finish_47 : decode cX5_finish 47 = .ok (.iadd, 1) := by decide +kernel
theorem dX5_finish_48 : decode cX5_finish 48 = .ok (.iastore, 1) := by decide +kernel
theorem dX5_finish_49 : decode cX5_finish 49 = .ok (.aload_n 0, 1) := by decide +kernel
theorem dX5_finish_50 : decode cX5_finish 50 = .ok (.getfield 13, 3) := by decide +kernel
theorem dX5_finish_53 : decode cX5_finish 53 = .ok (.iload_n 3, 1) := by decide +kernel
theorem dX5_finish_54 : decode cX5_finish 54 = .ok (.aload_n 0, 1) := by decide +kernel
theorem dX5_finish_55 : decode cX5_finish 55 = .ok (.getfield 13, 3) := by decide +kernel
theorem dX5_finish_58 : decode cX5_finish 58 = .ok (.iload_n 3, 1) := by decide +kernel
theorem dX5_finish_59 : decode cX5_finish 59 = .ok (.iaload, 1) := by decide +kernel
theorem dX5_finish_60 : decode cX5_finish 60 = .ok (.ifCond .le 14, 3) := by decide +kernel
theorem dX5_finish_63 : decode cX5_finish 63 = .ok (.aload_n 0, 1) := by decide +kernel
theorem dX5_finish_64 : decode cX5_finish 64 = .ok (.getfield 13, 3) := by decide +kernel
theorem dX5_finish_67 : decode cX5_finish 67 = .ok (.iload_n 3, 1) := by decide +kernel
theorem dX5_finish_68 : decode cX5_finish 68 = .ok (.iaload, 1) := by decide +kernel
theorem dX5_finish_69 : decode cX5_finish 69 = .ok (.iconst 1, 1) := by decide +kernel
theorem dX5_finish_70 : decode cX5_finish 70 = .ok (.isub, 1) := by decide +kernel
theorem dX5_finish_71 : decode cX5_finish 71 = .ok (.goto 4, 3) := by decide +kernel
theorem dX5_finish_74 : decode cX5_finish 74 = .ok (.iconst 0, 1) := by decide +kernel
theorem dX5_finish_75 : decode cX5_finish 75 = .ok (.iastore, 1) := by decide +kernel
theorem dX5_finish_76 : decode cX5_finish 76 = .ok (.aload_n 0, 1) := by decide +kernel
theorem dX5_finish_77 : decode cX5_finish 77 = .ok (.getfield 9, 3) := by decide +kernel
theorem dX5_finish_80 : decode cX5_finish 80 = .ok (.iload_n 3, 1) := by decide +kernel
theorem dX5_finish_81 : decode cX5_finish 81 = .ok (.iconst 1, 1) := by decide +kernel
theorem dX5_finish_82 : decode cX5_finish 82 = .ok (.iastore, 1) := by decide +kernel
theorem dX5_finish_83 : decode cX5_finish 83 = .ok (.aload_n 0, 1) := by decide +kernel
theorem dX5_finish_84 : decode cX5_finish 84 = .ok (.getfield 9, 3) := by decide +kernel
theorem dX5_finish_87 : decode cX5_finish 87 = .ok (.iload_n 3, 1) := by decide +kernel
theorem dX5_finish_88 : decode cX5_finish 88 = .ok (.iaload, 1) := by decide +kernel
theorem dX5_finish_89 : decode cX5_finish 89 = .ok (.iconst 2, 1) := by decide +kernel
theorem dX5_finish_90 : decode cX5_finish 90 = .ok (.if_icmp .ne 17, 3) := by decide +kernel
theorem dX5_finish_93 : decode cX5_finish 93 = .ok (.iload_n 1, 1) := by decide +kernel
theorem dX5_finish_94 : decode cX5_finish 94 = .ok (.iload_n 3, 1) := by decide +kernel
theorem dX5_finish_95 : decode cX5_finish 95 = .ok (.ishr, 1) := by decide +kernel
theorem dX5_finish_96 : decode cX5_finish 96 = .ok (.iconst 1, 1) := by decide +kernel
theorem dX5_finish_97 : decode cX5_finish 97 = .ok (.iand, 1) := by decide +kernel
theorem dX5_finish_98 : decode cX5_finish 98 = .ok (.iconst 1, 1) := by decide +kernel
theorem dX5_finish_99 : decode cX5_finish 99 = .ok (.if_icmp .ne 8, 3) := by decide +kernel
theorem dX5_finish_102 : decode cX5_finish 102 = .ok (.aload_n 0, 1) := by decide +kernel
theorem dX5_finish_103 : decode cX5_finish 103 = .ok (.iload_n 3, 1) := by decide +kernel
theorem dX5_finish_104 : decode cX5_finish 104 = .ok (.invokevirtual 187, 3) := by decide +kernel
theorem dX5_finish_107 : decode cX5_finish 107 = .ok (.iload_n 2, 1) := by decide +kernel
theorem dX5_finish_108 : decode cX5_finish 108 = .ok (.ifCond .ne 13, 3) := by decide +kernel
theorem dX5_finish_111 : decode cX5_finish 111 = .ok (.aload_n 0, 1) := by decide +kernel
theorem dX5_finish_112 : decode cX5_finish 112 = .ok (.getfield 9, 3) := by decide +kernel
theorem dX5_finish_115 : decode cX5_finish 115 = .ok (.iload_n 3, 1) := by decide +kernel
theorem dX5_finish_116 : decode cX5_finish 116 = .ok (.iaload, 1) := by decide +kernel
theorem dX5_finish_117 : decode cX5_finish 117 = .ok (.iconst 1, 1) := by decide +kernel
theorem dX5_finish_118 : decode cX5_finish 118 = .ok (.if_icmp .le 7, 3) := by decide +kernel
theorem dX5_finish_121 : decode cX5_finish 121 = .ok (.iconst 1, 1) := by decide +kernel
theorem dX5_finish_122 : decode cX5_finish 122 = .ok (.goto 4, 3) := by decide +kernel
theorem dX5_finish_125 : decode cX5_finish 125 = .ok (.iconst 0, 1) := by decide +kernel
theorem dX5_finish_126 : decode cX5_finish 126 = .ok (.istore_n 2, 1) := by decide +kernel
theorem dX5_finish_127 : decode cX5_finish 127 = .ok (.iinc 3 1, 3) := by decide +kernel
theorem dX5_finish_130 : decode cX5_finish 130 = .ok (.goto (-126), 3) := by decide +kernel
theorem dX5_finish_133 : decode cX5_finish 133 = .ok (.aload_n 0, 1) := by decide +kernel
theorem dX5_finish_134 : decode cX5_finish 134 = .ok (.iload_n 2, 1) := by decide +kernel
theorem dX5_finish_135 : decode cX5_finish 135 = .ok (.ifCond .eq 7, 3) := by decide +kernel
theorem dX5_finish_138 : decode cX5_finish 138 = .ok (.iconst 1, 1) := by decide +kernel
theorem dX5_finish_139 : decode cX5_finish 139 = .ok (.goto 4, 3) := by decide +kernel
theorem dX5_finish_142 : decode cX5_finish 142 = .ok (.iconst 3, 1) := by decide +kernel
theorem dX5_finish_143 : decode cX5_finish 143 = .ok (.putfield 178, 3) := by decide +kernel
theorem dX5_finish_146 : decode cX5_finish 146 = .ok (.aload_n 0, 1) := by decide +kernel
theorem dX5_finish_147 : decode cX5_finish 147 = .ok (.iload_n 2, 1) := by decide +kernel
theorem dX5_finish_148 : decode cX5_finish 148 = .ok (.ifCond .eq 7, 3) := by decide +kernel
theorem dX5_finish_151 : decode cX5_finish 151 = .ok (.iconst 0, 1) := by decide +kernel
theorem dX5_finish_152 : decode cX5_finish 152 = .ok (.goto 4, 3) := by decide +kernel
theorem dX5_finish_155 : decode cX5_finish 155 = .ok (.iconst 3, 1) := by decide +kernel
theorem dX5_finish_156 : decode cX5_finish 156 = .ok (.putfield 181, 3) := by decide +kernel
theorem dX5_finish_159 : decode cX5_finish 159 = .ok (.return_, 1) := by decide +kernel
set_option maxRecDepth 20000 in
theorem ggX5_liveStep_X5_offerAll : GoodIn wsX5_liveStep wsX5_offerAll := goodIn_r _ [8, 2, 9, 10, 11, 12, 13, 14, 7, 15, 16, 17, 18, 19, 20, 21, 22, 23, 24, 25, 26, 27, 28, 29, 30, 31, 32, 33, 34, 35, 36, 37, 38, 39, 40, 41, 42, 43, 44, 45, 46, 47, 48, 49, 50, 51, 52, 53, 54, 55, 56, 57, 132, 133, 134, 135, 136, 137, 138, 139, 140, 141, 142, 143, 144, 145, 146, 147, 148, 149, 150, 151, 152, 153, 154, 155, 156, 157, 158, 159, 160, 161, 162, 163, 164, 165, 166] rfl (by decide +kernel)
set_option maxRecDepth 20000 in
theorem gX5_liveStep_X5_offerAll : GoodIn wsX5_liveStep (wsV RX5 190 RX5 yX5_offerAll wsX5_offerAll) := goodIn_app (goodIn_of _ (by decide +kernel)) ggX5_liveStep_X5_offerAll
set_option maxRecDepth 20000 in
theorem ggX5_liveStep_X5_sends : GoodIn wsX5_liveStep wsX5_sends := goodIn_r _ [61, 2, 47, 11, 62, 63, 64, 7, 65, 53, 56, 57, 66, 67, 68, 69, 70, 40, 41, 42, 71, 72, 73, 74, 132, 133, 134, 135, 136, 137, 138, 139, 140, 141, 142, 143, 144, 145, 146, 147, 148, 149, 150, 151, 152, 153, 154, 155, 156, 157, 158, 159, 160, 161, 162, 163, 164, 165, 166] (by decide +kernel) (by decide +kernel)
set_option maxRecDepth 20000 in
theorem gX5_liveStep_X5_sends : GoodIn wsX5_liveStep (wsV RX5 193 RX5 yX5_sends wsX5_sends) := goodIn_app (goodIn_of _ (by decide +kernel)) ggX5_liveStep_X5_sends
set_option maxRecDepth 20000 in
theorem ggX5_liveStep_X5_sees : GoodIn wsX5_liveStep wsX5_sees := goodIn_r _ [78, 2, 79, 80, 81, 7, 82, 48, 11, 47, 21, 83, 84, 85, 86, 53, 56, 54, 55, 70, 87, 88, 89, 90, 57, 66, 67, 68, 69, 40, 41, 42, 71, 72, 73, 74, 91, 92, 93, 94, 95, 96, 97, 98, 99, 100, 101, 102, 10, 9, 103, 104, 105, 106, 49, 50, 51, 52, 132, 133, 134, 135, 136, 137, 138, 139, 140, 141, 142, 143, 144, 145, 146, 147, 148, 149, 150, 151, 152, 153, 154, 155, 156, 157, 158, 159, 160, 161, 162, 163, 164, 165, 166] rfl (by decide +kernel)
set_option maxRecDepth 20000 in
theorem gX5_liveStep_X5_sees : GoodIn wsX5_liveStep (wsV RX5 196 RX5 yX5_sees wsX5_sees) := goodIn_app (goodIn_of _ (by decide +kernel)) ggX5_liveStep_X5_sees
set_option maxRecDepth 20000 in
theorem ggX5_liveStep_X5_breakOff : GoodIn wsX5_liveStep wsX5_breakOff := goodIn_r _ [110, 2, 111, 112, 1, 113, 132, 133, 134, 135, 136, 137, 138, 139, 140, 141, 142, 143, 144, 145, 146, 147, 148, 149, 150, 151, 152, 153, 154, 155, 156, 157, 158, 159, 160, 161, 162, 163, 164, 165, 166] (by decide +kernel) (by decide +kernel)
set_option maxRecDepth 20000 in
theorem gX5_liveStep_X5_breakOff : GoodIn wsX5_liveStep (wsV RX5 199 RX5 yX5_breakOff wsX5_breakOff) := goodIn_app (goodIn_of _ (by decide +kernel)) ggX5_liveStep_X5_breakOff
set_option maxRecDepth 20000 in
theorem ggX5_liveStep_X5_finish : GoodIn wsX5_liveStep wsX5_finish := goodIn_r _ [117, 2, 11, 35, 118, 111, 1, 113, 119, 120, 121, 7, 122, 16, 21, 22, 32, 31, 10, 99, 100, 101, 102, 9, 123, 124, 125, 126, 127, 128, 129, 130, 131, 112, 91, 92, 93, 94, 70, 71, 72, 73, 74, 95, 96, 97, 98, 132, 133, 134, 135, 136, 137, 138, 139, 140, 141, 142, 143, 144, 145, 146, 147, 148, 149, 150, 151, 152, 153, 154, 155, 156, 157, 158, 159, 160, 161, 162, 163, 164, 165, 166] rfl (by decide +kernel)
set_option maxRecDepth 20000 in
theorem gX5_liveStep_X5_finish : GoodIn wsX5_liveStep (wsV RX5 202 RX5 yX5_finish wsX5_finish) := goodIn_app (goodIn_of _ (by decide +kernel)) ggX5_liveStep_X5_finish
theorem dX5_liveStep_0 : decode cX5_liveStep 0 = .ok (.aload_n 0, 1) := by decide +kernel
theorem dX5_liveStep_1 : decode cX5_liveStep 1 = .ok (.getfield 178, 3) := by decide +kernel
theorem dX5_liveStep_4 : decode cX5_liveStep 4 = .ok (.ifCond .ne 7, 3) := by decide +kernel
theorem dX5_liveStep_7 : decode cX5_liveStep 7 = .ok (.iconst 1, 1) := by decide +kernel
theorem dX5_liveStep_8 : decode cX5_liveStep 8 = .ok (.goto 4, 3) := by decide +kernel
theorem dX5_liveStep_11 : decode cX5_liveStep 11 = .ok (.iconst 0, 1) := by decide +kernel
theorem dX5_liveStep_12 : decode cX5_liveStep 12 = .ok (.istore_n 2, 1) := by decide +kernel
theorem dX5_liveStep_13 : decode cX5_liveStep 13 = .ok (.iload_n 2, 1) := by decide +kernel
theorem dX5_liveStep_14 : decode cX5_liveStep 14 = .ok (.ifCond .eq 7, 3) := by decide +kernel
theorem dX5_liveStep_17 : decode cX5_liveStep 17 = .ok (.aload_n 0, 1) := by decide +kernel
theorem dX5_liveStep_18 : decode cX5_liveStep 18 = .ok (.invokevirtual 190, 3) := by decide +kernel
theorem dX5_liveStep_21 : decode cX5_liveStep 21 = .ok (.iconst 1, 1) := by decide +kernel
theorem dX5_liveStep_22 : decode cX5_liveStep 22 = .ok (.istore_n 3, 1) := by decide +kernel
theorem dX5_liveStep_23 : decode cX5_liveStep 23 = .ok (.iconst 0, 1) := by decide +kernel
theorem dX5_liveStep_24 : decode cX5_liveStep 24 = .ok (.istore 4, 2) := by decide +kernel
theorem dX5_liveStep_26 : decode cX5_liveStep 26 = .ok (.iload 4, 2) := by decide +kernel
theorem dX5_liveStep_28 : decode cX5_liveStep 28 = .ok (.iconst 4, 1) := by decide +kernel
theorem dX5_liveStep_29 : decode cX5_liveStep 29 = .ok (.if_icmp .ge 34, 3) := by decide +kernel
theorem dX5_liveStep_32 : decode cX5_liveStep 32 = .ok (.aload_n 0, 1) := by decide +kernel
theorem dX5_liveStep_33 : decode cX5_liveStep 33 = .ok (.getfield 9, 3) := by decide +kernel
theorem dX5_liveStep_36 : decode cX5_liveStep 36 = .ok (.iload 4, 2) := by decide +kernel
theorem dX5_liveStep_38 : decode cX5_liveStep 38 = .ok (.iaload, 1) := by decide +kernel
theorem dX5_liveStep_39 : decode cX5_liveStep 39 = .ok (.ifCond .eq 16, 3) := by decide +kernel
theorem dX5_liveStep_42 : decode cX5_liveStep 42 = .ok (.aload_n 0, 1) := by decide +kernel
theorem dX5_liveStep_43 : decode cX5_liveStep 43 = .ok (.iload 4, 2) := by decide +kernel
theorem dX5_liveStep_45 : decode cX5_liveStep 45 = .ok (.invokevirtual 193, 3) := by decide +kernel
theorem dX5_liveStep_48 : decode cX5_liveStep 48 = .ok (.ifCond .ne 7, 3) := by decide +kernel
theorem dX5_liveStep_51 : decode cX5_liveStep 51 = .ok (.iconst 0, 1) := by decide +kernel
theorem dX5_liveStep_52 : decode cX5_liveStep 52 = .ok (.goto 4, 3) := by decide +kernel
theorem dX5_liveStep_55 : decode cX5_liveStep 55 = .ok (.iload_n 3, 1) := by decide +kernel
theorem dX5_liveStep_56 : decode cX5_liveStep 56 = .ok (.istore_n 3, 1) := by decide +kernel
theorem dX5_liveStep_57 : decode cX5_liveStep 57 = .ok (.iinc 4 1, 3) := by decide +kernel
theorem dX5_liveStep_60 : decode cX5_liveStep 60 = .ok (.goto (-34), 3) := by decide +kernel
theorem dX5_liveStep_63 : decode cX5_liveStep 63 = .ok (.iconst 0, 1) := by decide +kernel
theorem dX5_liveStep_64 : decode cX5_liveStep 64 = .ok (.istore 4, 2) := by decide +kernel
theorem dX5_liveStep_66 : decode cX5_liveStep 66 = .ok (.iconst 0, 1) := by decide +kernel
theorem dX5_liveStep_67 : decode cX5_liveStep 67 = .ok (.istore 5, 2) := by decide +kernel
theorem dX5_liveStep_69 : decode cX5_liveStep 69 = .ok (.iload_n 3, 1) := by decide +kernel
theorem dX5_liveStep_70 : decode cX5_liveStep 70 = .ok (.ifCond .ne 7, 3) := by decide +kernel
theorem dX5_liveStep_73 : decode cX5_liveStep 73 = .ok (.iconst 1, 1) := by decide +kernel
theorem dX5_liveStep_74 : decode cX5_liveStep 74 = .ok (.goto 4, 3) := by decide +kernel
theorem dX5_liveStep_77 : decode cX5_liveStep 77 = .ok (.iconst 0, 1) := by decide +kernel
theorem dX5_liveStep_78 : decode cX5_liveStep 78 = .ok (.istore 6, 2) := by decide +kernel
theorem dX5_liveStep_80 : decode cX5_liveStep 80 = .ok (.iconst 0, 1) := by decide +kernel
theorem dX5_liveStep_81 : decode cX5_liveStep 81 = .ok (.istore 7, 2) := by decide +kernel
theorem dX5_liveStep_83 : decode cX5_liveStep 83 = .ok (.iload 7, 2) := by decide +kernel
theorem dX5_liveStep_85 : decode cX5_liveStep 85 = .ok (.iconst 4, 1) := by decide +kernel
theorem dX5_liveStep_86 : decode cX5_liveStep 86 = .ok (.if_icmp .ge 126, 3) := by decide +kernel
theorem dX5_liveStep_89 : decode cX5_liveStep 89 = .ok (.iload_n 1, 1) := by decide +kernel
theorem dX5_liveStep_90 : decode cX5_liveStep 90 = .ok (.iload 7, 2) := by decide +kernel
theorem dX5_liveStep_92 : decode cX5_liveStep 92 = .ok (.ishr, 1) := by decide +kernel
theorem dX5_liveStep_93 : decode cX5_liveStep 93 = .ok (.iconst 1, 1) := by decide +kernel
theorem dX5_liveStep_94 : decode cX5_liveStep 94 = .ok (.iand, 1) := by decide +kernel
theorem dX5_liveStep_95 : decode cX5_liveStep 95 = .ok (.iconst 1, 1) := by decide +kernel
theorem dX5_liveStep_96 : decode cX5_liveStep 96 = .ok (.if_icmp .ne 9, 3) := by decide +kernel
theorem dX5_liveStep_99 : decode cX5_liveStep 99 = .ok (.iconst 1, 1) := by decide +kernel
theorem dX5_liveStep_100 : decode cX5_liveStep 100 = .ok (.iload_n 3, 1) := by decide +kernel
theorem dX5_liveStep_101 : decode cX5_liveStep 101 = .ok (.isub, 1) := by decide +kernel
theorem dX5_liveStep_102 : decode cX5_liveStep 102 = .ok (.goto 4, 3) := by decide +kernel
theorem dX5_liveStep_105 : decode cX5_liveStep 105 = .ok (.iload_n 3, 1) := by decide +kernel
theorem dX5_liveStep_106 : decode cX5_liveStep 106 = .ok (.istore 8, 2) := by decide +kernel
theorem dX5_liveStep_108 : decode cX5_liveStep 108 = .ok (.aload_n 0, 1) := by decide +kernel
theorem dX5_liveStep_109 : decode cX5_liveStep 109 = .ok (.getfield 9, 3) := by decide +kernel
theorem dX5_liveStep_112 : decode cX5_liveStep 112 = .ok (.iload 7, 2) := by decide +kernel
theorem dX5_liveStep_114 : decode cX5_liveStep 114 = .ok (.iaload, 1) := by decide +kernel
theorem dX5_liveStep_115 : decode cX5_liveStep 115 = .ok (.ifCond .ne 7, 3) := by decide +kernel
theorem dX5_liveStep_118 : decode cX5_liveStep 118 = .ok (.iconst 0, 1) := by decide +kernel
theorem dX5_liveStep_119 : decode cX5_liveStep 119 = .ok (.goto 11, 3) := by decide +kernel
theorem dX5_liveStep_122 : decode cX5_liveStep 122 = .ok (.aload_n 0, 1) := by decide +kernel
theorem dX5_liveStep_123 : decode cX5_liveStep 123 = .ok (.iload 7, 2) := by decide +kernel
theorem dX5_liveStep_125 : decode cX5_liveStep 125 = .ok (.iload 8, 2) := by decide +kernel
theorem dX5_liveStep_127 : decode cX5_liveStep 127 = .ok (.invokevirtual 196, 3) := by decide +kernel
theorem dX5_liveStep_130 : decode cX5_liveStep 130 = .ok (.istore 9, 2) := by decide +kernel
theorem dX5_liveStep_132 : decode cX5_liveStep 132 = .ok (.iload 6, 2) := by decide +kernel
theorem dX5_liveStep_134 : decode cX5_liveStep 134 = .ok (.ifCond .ne 14, 3) := by decide +kernel
theorem dX5_liveStep_137 : decode cX5_liveStep 137 = .ok (.aload_n 0, 1) := by decide +kernel
theorem dX5_liveStep_138 : decode cX5_liveStep 138 = .ok (.getfield 9, 3) := by decide +kernel
theorem dX5_liveStep_141 : decode cX5_liveStep 141 = .ok (.iload 7, 2) := by decide +kernel
theorem dX5_liveStep_143 : decode cX5_liveStep 143 = .ok (.iaload, 1) := by decide +kernel
theorem dX5_liveStep_144 : decode cX5_liveStep 144 = .ok (.iconst 2, 1) := by decide +kernel
theorem dX5_liveStep_145 : decode cX5_liveStep 145 = .ok (.if_icmp .ne 7, 3) := by decide +kernel
theorem dX5_liveStep_148 : decode cX5_liveStep 148 = .ok (.iconst 1, 1) := by decide +kernel
theorem dX5_liveStep_149 : decode cX5_liveStep 149 = .ok (.goto 4, 3) := by decide +kernel
theorem dX5_liveStep_152 : decode cX5_liveStep 152 = .ok (.iconst 0, 1) := by decide +kernel
theorem dX5_liveStep_153 : decode cX5_liveStep 153 = .ok (.istore 6, 2) := by decide +kernel
theorem dX5_liveStep_155 : decode cX5_liveStep 155 = .ok (.iload 9, 2) := by decide +kernel
theorem dX5_liveStep_157 : decode cX5_liveStep 157 = .ok (.bipush 9, 2) := by decide +kernel
theorem dX5_liveStep_159 : decode cX5_liveStep 159 = .ok (.if_icmp .ne 13, 3) := by decide +kernel
theorem dX5_liveStep_162 : decode cX5_liveStep 162 = .ok (.iload 5, 2) := by decide +kernel
theorem dX5_liveStep_164 : decode cX5_liveStep 164 = .ok (.iconst 1, 1) := by decide +kernel
theorem dX5_liveStep_165 : decode cX5_liveStep 165 = .ok (.iload 7, 2) := by decide +kernel
theorem dX5_liveStep_167 : decode cX5_liveStep 167 = .ok (.ishl, 1) := by decide +kernel
theorem dX5_liveStep_168 : decode cX5_liveStep 168 = .ok (.ior, 1) := by decide +kernel
theorem dX5_liveStep_169 : decode cX5_liveStep 169 = .ok (.goto 5, 3) := by decide +kernel
theorem dX5_liveStep_172 : decode cX5_liveStep 172 = .ok (.iload 5, 2) := by decide +kernel
theorem dX5_liveStep_174 : decode cX5_liveStep 174 = .ok (.istore 5, 2) := by decide +kernel
theorem dX5_liveStep_176 : decode cX5_liveStep 176 = .ok (.iload 9, 2) := by decide +kernel
theorem dX5_liveStep_178 : decode cX5_liveStep 178 = .ok (.ifCond .le 28, 3) := by decide +kernel
theorem dX5_liveStep_181 : decode cX5_liveStep 181 = .ok (.iload 9, 2) := by decide +kernel
theorem dX5_liveStep_183 : decode cX5_liveStep 183 = .ok (.bipush 9, 2) := by decide +kernel
theorem dX5_liveStep_185 : decode cX5_liveStep 185 = .ok (.if_icmp .ge 21, 3) := by decide +kernel
theorem dX5_liveStep_188 : decode cX5_liveStep 188 = .ok (.iload 4, 2) := by decide +kernel
theorem dX5_liveStep_190 : decode cX5_liveStep 190 = .ok (.iconst 1, 1) := by decide +kernel
theorem dX5_liveStep_191 : decode cX5_liveStep 191 = .ok (.iload 7, 2) := by decide +kernel
theorem dX5_liveStep_193 : decode cX5_liveStep 193 = .ok (.ishl, 1) := by decide +kernel
theorem dX5_liveStep_194 : decode cX5_liveStep 194 = .ok (.ior, 1) := by decide +kernel
theorem dX5_liveStep_195 : decode cX5_liveStep 195 = .ok (.istore 4, 2) := by decide +kernel
theorem dX5_liveStep_197 : decode cX5_liveStep 197 = .ok (.aload_n 0, 1) := by decide +kernel
theorem dX5_liveStep_198 : decode cX5_liveStep 198 = .ok (.getfield 25, 3) := by decide +kernel
theorem dX5_liveStep_201 : decode cX5_liveStep 201 = .ok (.iload 7, 2) := by decide +kernel
theorem dX5_liveStep_203 : decode cX5_liveStep 203 = .ok (.iload 9, 2) := by decide +kernel
theorem dX5_liveStep_205 : decode cX5_liveStep 205 = .ok (.iastore, 1) := by decide +kernel
theorem dX5_liveStep_206 : decode cX5_liveStep 206 = .ok (.iinc 7 1, 3) := by decide +kernel
theorem dX5_liveStep_209 : decode cX5_liveStep 209 = .ok (.goto (-126), 3) := by decide +kernel
theorem dX5_liveStep_212 : decode cX5_liveStep 212 = .ok (.iload 4, 2) := by decide +kernel
theorem dX5_liveStep_214 : decode cX5_liveStep 214 = .ok (.ifCond .le 12, 3) := by decide +kernel
theorem dX5_liveStep_217 : decode cX5_liveStep 217 = .ok (.aload_n 0, 1) := by decide +kernel
theorem dX5_liveStep_218 : decode cX5_liveStep 218 = .ok (.iload 4, 2) := by decide +kernel
theorem dX5_liveStep_220 : decode cX5_liveStep 220 = .ok (.invokevirtual 199, 3) := by decide +kernel
theorem dX5_liveStep_223 : decode cX5_liveStep 223 = .ok (.goto 18, 3) := by decide +kernel
theorem dX5_liveStep_226 : decode cX5_liveStep 226 = .ok (.iload_n 2, 1) := by decide +kernel
theorem dX5_liveStep_227 : decode cX5_liveStep 227 = .ok (.ifCond .eq 8, 3) := by decide +kernel
theorem dX5_liveStep_230 : decode cX5_liveStep 230 = .ok (.iload 6, 2) := by decide +kernel
theorem dX5_liveStep_232 : decode cX5_liveStep 232 = .ok (.ifCond .eq 9, 3) := by decide +kernel
theorem dX5_liveStep_235 : decode cX5_liveStep 235 = .ok (.aload_n 0, 1) := by decide +kernel
theorem dX5_liveStep_236 : decode cX5_liveStep 236 = .ok (.iload 5, 2) := by decide +kernel
theorem dX5_liveStep_238 : decode cX5_liveStep 238 = .ok (.invokevirtual 202, 3) := by decide +kernel
theorem dX5_liveStep_241 : decode cX5_liveStep 241 = .ok (.iload_n 3, 1) := by decide +kernel
theorem dX5_liveStep_242 : decode cX5_liveStep 242 = .ok (.ireturn, 1) := by decide +kernel
set_option maxRecDepth 20000 in
theorem ggX5_oneStep_X5_liveStep : GoodIn wsX5_oneStep wsX5_liveStep := goodIn_r _ [7, 1, 8, 9, 10, 11, 12, 6, 13, 14, 15, 16, 17, 18, 19, 20, 21, 22, 23, 24, 25, 26, 27, 28, 29, 30, 31, 32, 33, 34, 35, 36, 37, 38, 39, 40, 41, 42, 43, 44, 45, 46, 47, 48, 49, 50, 51, 52, 53, 54, 55, 56, 57, 58, 59, 60, 61, 62, 63, 64, 65, 66, 67, 68, 69, 70, 71, 72, 73, 74, 75, 76, 77, 78, 79, 80, 81, 82, 83, 84, 85, 86, 87, 88, 89, 90, 91, 92, 93, 94, 95, 96, 97, 98, 99, 100, 101, 102, 103, 104, 105, 106, 107, 108, 109, 110, 111, 112, 113, 114, 115, 116, 117, 2, 118, 119, 120, 121, 122, 123, 124, 125, 126, 127, 128, 129, 130, 131, 132, 133, 134, 135, 136, 137, 138, 139, 140, 141, 142, 143, 144, 145, 146, 147, 148, 149, 150, 151, 152, 153, 154, 155, 156, 157, 158, 159, 160, 161, 162, 163, 164, 165, 166, 167, 168, 169, 170] rfl (by decide +kernel)
set_option maxRecDepth 20000 in
theorem gX5_oneStep_X5_liveStep : GoodIn wsX5_oneStep (wsV RX5 205 RX5 yX5_liveStep wsX5_liveStep) := goodIn_app (goodIn_of _ (by decide +kernel)) ggX5_oneStep_X5_liveStep
theorem dX5_oneStep_0 : decode cX5_oneStep 0 = .ok (.aload_n 0, 1) := by decide +kernel
theorem dX5_oneStep_1 : decode cX5_oneStep 1 = .ok (.getfield 178, 3) := by decide +kernel
theorem dX5_oneStep_4 : decode cX5_oneStep 4 = .ok (.ifCond .eq 11, 3) := by decide +kernel
theorem dX5_oneStep_7 : decode cX5_oneStep 7 = .ok (.aload_n 0, 1) := by decide +kernel
theorem dX5_oneStep_8 : decode cX5_oneStep 8 = .ok (.getfield 178, 3) := by decide +kernel
theorem dX5_oneStep_11 : decode cX5_oneStep 11 = .ok (.iconst 1, 1) := by decide +kernel
theorem dX5_oneStep_12 : decode cX5_oneStep 12 = .ok (.if_icmp .ne 9, 3) := by decide +kernel
theorem dX5_oneStep_15 : decode cX5_oneStep 15 = .ok (.aload_n 0, 1) := by decide +kernel
theorem dX5_oneStep_16 : decode cX5_oneStep 16 = .ok (.iload_n 1, 1) := by decide +kernel
theorem dX5_oneStep_17 : decode cX5_oneStep 17 = .ok (.invokevirtual 205, 3) := by decide +kernel
theorem dX5_oneStep_20 : decode cX5_oneStep 20 = .ok (.ireturn, 1) := by decide +kernel
theorem dX5_oneStep_21 : decode cX5_oneStep 21 = .ok (.aload_n 0, 1) := by decide +kernel
theorem dX5_oneStep_22 : decode cX5_oneStep 22 = .ok (.getfield 178, 3) := by decide +kernel
theorem dX5_oneStep_25 : decode cX5_oneStep 25 = .ok (.iconst 2, 1) := by decide +kernel
theorem dX5_oneStep_26 : decode cX5_oneStep 26 = .ok (.if_icmp .ne 16, 3) := by decide +kernel
theorem dX5_oneStep_29 : decode cX5_oneStep 29 = .ok (.aload_n 0, 1) := by decide +kernel
theorem dX5_oneStep_30 : decode cX5_oneStep 30 = .ok (.getfield 181, 3) := by decide +kernel
theorem dX5_oneStep_33 : decode cX5_oneStep 33 = .ok (.bipush 8, 2) := by decide +kernel
theorem dX5_oneStep_35 : decode cX5_oneStep 35 = .ok (.if_icmp .le 7, 3) := by decide +kernel
theorem dX5_oneStep_38 : decode cX5_oneStep 38 = .ok (.iconst 0, 1) := by decide +kernel
theorem dX5_oneStep_39 : decode cX5_oneStep 39 = .ok (.goto 4, 3) := by decide +kernel
theorem dX5_oneStep_42 : decode cX5_oneStep 42 = .ok (.iconst 1, 1) := by decide +kernel
theorem dX5_oneStep_43 : decode cX5_oneStep 43 = .ok (.istore_n 2, 1) := by decide +kernel
theorem dX5_oneStep_44 : decode cX5_oneStep 44 = .ok (.aload_n 0, 1) := by decide +kernel
theorem dX5_oneStep_45 : decode cX5_oneStep 45 = .ok (.dup, 1) := by decide +kernel
theorem dX5_oneStep_46 : decode cX5_oneStep 46 = .ok (.getfield 181, 3) := by decide +kernel
theorem dX5_oneStep_49 : decode cX5_oneStep 49 = .ok (.iconst 1, 1) := by decide +kernel
theorem dX5_oneStep_50 : decode cX5_oneStep 50 = .ok (.isub, 1) := by decide +kernel
theorem dX5_oneStep_51 : decode cX5_oneStep 51 = .ok (.putfield 181, 3) := by decide +kernel
theorem dX5_oneStep_54 : decode cX5_oneStep 54 = .ok (.aload_n 0, 1) := by decide +kernel
theorem dX5_oneStep_55 : decode cX5_oneStep 55 = .ok (.getfield 181, 3) := by decide +kernel
theorem dX5_oneStep_58 : decode cX5_oneStep 58 = .ok (.ifCond .ne 37, 3) := by decide +kernel
theorem dX5_oneStep_61 : decode cX5_oneStep 61 = .ok (.aload_n 0, 1) := by decide +kernel
theorem dX5_oneStep_62 : decode cX5_oneStep 62 = .ok (.aload_n 0, 1) := by decide +kernel
theorem dX5_oneStep_63 : decode cX5_oneStep 63 = .ok (.getfield 178, 3) := by decide +kernel
theorem dX5_oneStep_66 : decode cX5_oneStep 66 = .ok (.iconst 2, 1) := by decide +kernel
theorem dX5_oneStep_67 : decode cX5_oneStep 67 = .ok (.if_icmp .ne 7, 3) := by decide +kernel
theorem dX5_oneStep_70 : decode cX5_oneStep 70 = .ok (.iconst 3, 1) := by decide +kernel
theorem dX5_oneStep_71 : decode cX5_oneStep 71 = .ok (.goto 4, 3) := by decide +kernel
theorem dX5_oneStep_74 : decode cX5_oneStep 74 = .ok (.iconst 0, 1) := by decide +kernel
theorem dX5_oneStep_75 : decode cX5_oneStep 75 = .ok (.putfield 181, 3) := by decide +kernel
theorem dX5_oneStep_78 : decode cX5_oneStep 78 = .ok (.aload_n 0, 1) := by decide +kernel
theorem dX5_oneStep_79 : decode cX5_oneStep 79 = .ok (.aload_n 0, 1) := by decide +kernel
theorem dX5_oneStep_80 : decode cX5_oneStep 80 = .ok (.getfield 178, 3) := by decide +kernel
theorem dX5_oneStep_83 : decode cX5_oneStep 83 = .ok (.iconst 2, 1) := by decide +kernel
theorem dX5_oneStep_84 : decode cX5_oneStep 84 = .ok (.if_icmp .ne 7, 3) := by decide +kernel
theorem dX5_oneStep_87 : decode cX5_oneStep 87 = .ok (.iconst 3, 1) := by decide +kernel
theorem dX5_oneStep_88 : decode cX5_oneStep 88 = .ok (.goto 4, 3) := by decide +kernel
theorem dX5_oneStep_91 : decode cX5_oneStep 91 = .ok (.iconst 0, 1) := by decide +kernel
theorem dX5_oneStep_92 : decode cX5_oneStep 92 = .ok (.putfield 178, 3) := by decide +kernel
theorem dX5_oneStep_95 : decode cX5_oneStep 95 = .ok (.iload_n 2, 1) := by decide +kernel
theorem dX5_oneStep_96 : decode cX5_oneStep 96 = .ok (.ireturn, 1) := by decide +kernel
set_option maxRecDepth 20000 in
theorem ggX5_step_X5_oneStep : GoodIn wsX5_step wsX5_oneStep := goodIn_r _ [6, 7, 8, 9, 10, 11, 5, 12, 13, 14, 15, 16, 17, 18, 19, 20, 21, 22, 23, 24, 25, 26, 27, 28, 29, 30, 31, 32, 33, 34, 35, 36, 37, 38, 39, 40, 41, 42, 43, 44, 45, 46, 47, 48, 49, 50, 51, 52, 53, 54, 55, 56, 57, 58, 59, 60, 61, 62, 63, 64, 65, 66, 67, 68, 69, 70, 71, 72, 73, 74, 75, 76, 77, 78, 79, 80, 81, 82, 83, 84, 85, 86, 87, 88, 89, 90, 91, 92, 93, 94, 95, 96, 97, 98, 99, 100, 101, 102, 103, 104, 105, 106, 107, 108, 109, 110, 111, 112, 113, 114, 115, 116, 117, 118, 119, 120, 121, 122, 123, 124, 125, 126, 127, 128, 129, 130, 131, 132, 133, 134, 135, 136, 137, 138, 139, 140, 141, 142, 143, 144, 145, 146, 147, 148, 149, 150, 151, 152, 153, 154, 155, 156, 157, 158, 159, 160, 161, 162, 163, 164, 165, 166, 167, 168, 169, 170, 171, 172, 173, 174, 175] rfl (by decide +kernel)
set_option maxRecDepth 20000 in
theorem gX5_step_X5_oneStep : GoodIn wsX5_step (wsV RX5 208 RX5 yX5_oneStep wsX5_oneStep) := goodIn_app (goodIn_of _ (by decide +kernel)) ggX5_step_X5_oneStep
theorem dX5_step_0 : decode cX5_step 0 = .ok (.aload_n 0, 1) := by decide +kernel
theorem dX5_step_1 : decode cX5_step 1 = .ok (.iload_n 1, 1) := by decide +kernel
theorem dX5_step_2 : decode cX5_step 2 = .ok (.iconst 1, 1) := by decide +kernel
theorem dX5_step_3 : decode cX5_step 3 = .ok (.if_icmp .lt 20, 3) := by decide +kernel
theorem dX5_step_6 : decode cX5_step 6 = .ok (.iload_n 1, 1) := by decide +kernel
theorem dX5_step_7 : decode cX5_step 7 = .ok (.sipush 200, 3) := by decide +kernel
theorem dX5_step_10 : decode cX5_step 10 = .ok (.if_icmp .gt 13, 3) := by decide +kernel
theorem dX5_step_13 : decode cX5_step 13 = .ok (.iload_n 2, 1) := by decide +kernel
theorem dX5_step_14 : decode cX5_step 14 = .ok (.ifCond .lt 9, 3) := by decide +kernel
theorem dX5_step_17 : decode cX5_step 17 = .ok (.iload_n 2, 1) := by decide +kernel
theorem dX5_step_18 : decode cX5_step 18 = .ok (.bipush 15, 2) := by decide +kernel
theorem dX5_step_20 : decode cX5_step 20 = .ok (.if_icmp .le 7, 3) := by decide +kernel
theorem dX5_step_23 : decode cX5_step 23 = .ok (.iconst 1, 1) := by decide +kernel
theorem dX5_step_24 : decode cX5_step 24 = .ok (.goto 4, 3) := by decide +kernel
theorem dX5_step_27 : decode cX5_step 27 = .ok (.iconst 0, 1) := by decide +kernel
theorem dX5_step_28 : decode cX5_step 28 = .ok (.putfield 99, 3) := by decide +kernel
theorem dX5_step_31 : decode cX5_step 31 = .ok (.aload_n 0, 1) := by decide +kernel
theorem dX5_step_32 : decode cX5_step 32 = .ok (.getfield 99, 3) := by decide +kernel
theorem dX5_step_35 : decode cX5_step 35 = .ok (.ifCond .le 5, 3) := by decide +kernel
theorem dX5_step_38 : decode cX5_step 38 = .ok (.iconst 0, 1) := by decide +kernel
theorem dX5_step_39 : decode cX5_step 39 = .ok (.ireturn, 1) := by decide +kernel
theorem dX5_step_40 : decode cX5_step 40 = .ok (.iconst 1, 1) := by decide +kernel
theorem dX5_step_41 : decode cX5_step 41 = .ok (.istore_n 3, 1) := by decide +kernel
theorem dX5_step_42 : decode cX5_step 42 = .ok (.iconst 0, 1) := by decide +kernel
theorem dX5_step_43 : decode cX5_step 43 = .ok (.istore 4, 2) := by decide +kernel
theorem dX5_step_45 : decode cX5_step 45 = .ok (.iload 4, 2) := by decide +kernel
theorem dX5_step_47 : decode cX5_step 47 = .ok (.iload_n 1, 1) := by decide +kernel
theorem dX5_step_48 : decode cX5_step 48 = .ok (.if_icmp .ge 24, 3) := by decide +kernel
theorem dX5_step_51 : decode cX5_step 51 = .ok (.aload_n 0, 1) := by decide +kernel
theorem dX5_step_52 : decode cX5_step 52 = .ok (.iload 4, 2) := by decide +kernel
theorem dX5_step_54 : decode cX5_step 54 = .ok (.ifCond .ne 7, 3) := by decide +kernel
theorem dX5_step_57 : decode cX5_step 57 = .ok (.iload_n 2, 1) := by decide +kernel
theorem dX5_step_58 : decode cX5_step 58 = .ok (.goto 4, 3) := by decide +kernel
theorem dX5_step_61 : decode cX5_step 61 = .ok (.iconst 0, 1) := by decide +kernel
theorem dX5_step_62 : decode cX5_step 62 = .ok (.invokevirtual 208, 3) := by decide +kernel
theorem dX5_step_65 : decode cX5_step 65 = .ok (.istore_n 3, 1) := by decide +kernel
theorem dX5_step_66 : decode cX5_step 66 = .ok (.iinc 4 1, 3) := by decide +kernel
theorem dX5_step_69 : decode cX5_step 69 = .ok (.goto (-24), 3) := by decide +kernel
theorem dX5_step_72 : decode cX5_step 72 = .ok (.iload_n 3, 1) := by decide +kernel
theorem dX5_step_73 : decode cX5_step 73 = .ok (.ireturn, 1) := by decide +kernel
set_option maxRecDepth 20000 in
theorem ggX5_join_X5_isNode : GoodIn wsX5_join wsX5_isNode := goodIn_r _ [8] (by decide +kernel) (by decide +kernel)
set_option maxRecDepth 20000 in
theorem gX5_join_X5_isNode : GoodIn wsX5_join (va_wsS RX5 147 yX5_isNode wsX5_isNode) := goodIn_app (goodIn_of _ (by decide +kernel)) ggX5_join_X5_isNode
theorem dX5_join_0 : decode cX5_join 0 = .ok (.aload_n 0, 1) := by decide +kernel
theorem dX5_join_1 : decode cX5_join 1 = .ok (.iload_n 1, 1) := by decide +kernel
theorem dX5_join_2 : decode cX5_join 2 = .ok (.invokestatic 147, 3) := by decide +kernel
theorem dX5_join_5 : decode cX5_join 5 = .ok (.ifCond .eq 7, 3) := by decide +kernel
theorem dX5_join_8 : decode cX5_join 8 = .ok (.iconst 0, 1) := by decide +kernel
theorem dX5_join_9 : decode cX5_join 9 = .ok (.goto 4, 3) := by decide +kernel
theorem dX5_join_12 : decode cX5_join 12 = .ok (.iconst 1, 1) := by decide +kernel
theorem dX5_join_13 : decode cX5_join 13 = .ok (.putfield 99, 3) := by decide +kernel
theorem dX5_join_16 : decode cX5_join 16 = .ok (.aload_n 0, 1) := by decide +kernel
theorem dX5_join_17 : decode cX5_join 17 = .ok (.getfield 99, 3) := by decide +kernel
theorem dX5_join_20 : decode cX5_join 20 = .ok (.ifCond .gt 12, 3) := by decide +kernel
theorem dX5_join_23 : decode cX5_join 23 = .ok (.aload_n 0, 1) := by decide +kernel
theorem dX5_join_24 : decode cX5_join 24 = .ok (.getfield 9, 3) := by decide +kernel
theorem dX5_join_27 : decode cX5_join 27 = .ok (.iload_n 1, 1) := by decide +kernel
theorem dX5_join_28 : decode cX5_join 28 = .ok (.iaload, 1) := by decide +kernel
theorem dX5_join_29 : decode cX5_join 29 = .ok (.ifCond .eq 5, 3) := by decide +kernel
theorem dX5_join_32 : decode cX5_join 32 = .ok (.iconst 0, 1) := by decide +kernel
theorem dX5_join_33 : decode cX5_join 33 = .ok (.ireturn, 1) := by decide +kernel
theorem dX5_join_34 : decode cX5_join 34 = .ok (.aload_n 0, 1) := by decide +kernel
theorem dX5_join_35 : decode cX5_join 35 = .ok (.getfield 9, 3) := by decide +kernel
theorem dX5_join_38 : decode cX5_join 38 = .ok (.iload_n 1, 1) := by decide +kernel
theorem dX5_join_39 : decode cX5_join 39 = .ok (.iconst 1, 1) := by decide +kernel
theorem dX5_join_40 : decode cX5_join 40 = .ok (.iastore, 1) := by decide +kernel
theorem dX5_join_41 : decode cX5_join 41 = .ok (.aload_n 0, 1) := by decide +kernel
theorem dX5_join_42 : decode cX5_join 42 = .ok (.getfield 13, 3) := by decide +kernel
theorem dX5_join_45 : decode cX5_join 45 = .ok (.iload_n 1, 1) := by decide +kernel
theorem dX5_join_46 : decode cX5_join 46 = .ok (.iconst 0, 1) := by decide +kernel
theorem dX5_join_47 : decode cX5_join 47 = .ok (.iastore, 1) := by decide +kernel
theorem dX5_join_48 : decode cX5_join 48 = .ok (.aload_n 0, 1) := by decide +kernel
theorem dX5_join_49 : decode cX5_join 49 = .ok (.getfield 16, 3) := by decide +kernel
theorem dX5_join_52 : decode cX5_join 52 = .ok (.iload_n 1, 1) := by decide +kernel
theorem dX5_join_53 : decode cX5_join 53 = .ok (.iconst 0, 1) := by decide +kernel
theorem dX5_join_54 : decode cX5_join 54 = .ok (.iastore, 1) := by decide +kernel
theorem dX5_join_55 : decode cX5_join 55 = .ok (.iconst 1, 1) := by decide +kernel
theorem dX5_join_56 : decode cX5_join 56 = .ok (.ireturn, 1) := by decide +kernel
theorem dX5_wire_0 : decode cX5_wire 0 = .ok (.aload_n 0, 1) := by decide +kernel
theorem dX5_wire_1 : decode cX5_wire 1 = .ok (.iconst 0, 1) := by decide +kernel
theorem dX5_wire_2 : decode cX5_wire 2 = .ok (.putfield 99, 3) := by decide +kernel
theorem dX5_wire_5 : decode cX5_wire 5 = .ok (.aload_n 0, 1) := by decide +kernel
theorem dX5_wire_6 : decode cX5_wire 6 = .ok (.getfield 178, 3) := by decide +kernel
theorem dX5_wire_9 : decode cX5_wire 9 = .ok (.ireturn, 1) := by decide +kernel
set_option maxRecDepth 20000 in
theorem ggX5_node_X5_isNode : GoodIn wsX5_node wsX5_isNode := goodIn_r _ [12] (by decide +kernel) (by decide +kernel)
set_option maxRecDepth 20000 in
theorem gX5_node_X5_isNode : GoodIn wsX5_node (va_wsS RX5 147 yX5_isNode wsX5_isNode) := goodIn_app (goodIn_of _ (by decide +kernel)) ggX5_node_X5_isNode
theorem dX5_node_0 : decode cX5_node 0 = .ok (.aload_n 0, 1) := by decide +kernel
theorem dX5_node_1 : decode cX5_node 1 = .ok (.iload_n 1, 1) := by decide +kernel
theorem dX5_node_2 : decode cX5_node 2 = .ok (.invokestatic 147, 3) := by decide +kernel
theorem dX5_node_5 : decode cX5_node 5 = .ok (.ifCond .eq 13, 3) := by decide +kernel
theorem dX5_node_8 : decode cX5_node 8 = .ok (.iload_n 2, 1) := by decide +kernel
theorem dX5_node_9 : decode cX5_node 9 = .ok (.ifCond .lt 9, 3) := by decide +kernel
theorem dX5_node_12 : decode cX5_node 12 = .ok (.iload_n 2, 1) := by decide +kernel
theorem dX5_node_13 : decode cX5_node 13 = .ok (.bipush 6, 2) := by decide +kernel
theorem dX5_node_15 : decode cX5_node 15 = .ok (.if_icmp .le 7, 3) := by decide +kernel
theorem dX5_node_18 : decode cX5_node 18 = .ok (.iconst 1, 1) := by decide +kernel
theorem dX5_node_19 : decode cX5_node 19 = .ok (.goto 4, 3) := by decide +kernel
theorem dX5_node_22 : decode cX5_node 22 = .ok (.iconst 0, 1) := by decide +kernel
theorem dX5_node_23 : decode cX5_node 23 = .ok (.putfield 99, 3) := by decide +kernel
theorem dX5_node_26 : decode cX5_node 26 = .ok (.aload_n 0, 1) := by decide +kernel
theorem dX5_node_27 : decode cX5_node 27 = .ok (.getfield 99, 3) := by decide +kernel
theorem dX5_node_30 : decode cX5_node 30 = .ok (.ifCond .le 5, 3) := by decide +kernel
theorem dX5_node_33 : decode cX5_node 33 = .ok (.iconst 0, 1) := by decide +kernel
theorem dX5_node_34 : decode cX5_node 34 = .ok (.ireturn, 1) := by decide +kernel
theorem dX5_node_35 : decode cX5_node 35 = .ok (.iload_n 2, 1) := by decide +kernel
theorem dX5_node_36 : decode cX5_node 36 = .ok (.tableswitch 82 0 5 #[40, 47, 54, 61, 68, 75], 40) := by decide +kernel
theorem dX5_node_76 : decode cX5_node 76 = .ok (.aload_n 0, 1) := by decide +kernel
theorem dX5_node_77 : decode cX5_node 77 = .ok (.getfield 9, 3) := by decide +kernel
theorem dX5_node_80 : decode cX5_node 80 = .ok (.iload_n 1, 1) := by decide +kernel
theorem dX5_node_81 : decode cX5_node 81 = .ok (.iaload, 1) := by decide +kernel
theorem dX5_node_82 : decode cX5_node 82 = .ok (.ireturn, 1) := by decide +kernel
theorem dX5_node_83 : decode cX5_node 83 = .ok (.aload_n 0, 1) := by decide +kernel
theorem dX5_node_84 : decode cX5_node 84 = .ok (.getfield 13, 3) := by decide +kernel
theorem dX5_node_87 : decode cX5_node 87 = .ok (.iload_n 1, 1) := by decide +kernel
theorem dX5_node_88 : decode cX5_node 88 = .ok (.iaload, 1) := by decide +kernel
theorem dX5_node_89 : decode cX5_node 89 = .ok (.ireturn, 1) := by decide +kernel
theorem dX5_node_90 : decode cX5_node 90 = .ok (.aload_n 0, 1) := by decide +kernel
theorem dX5_node_91 : decode cX5_node 91 = .ok (.getfield 16, 3) := by decide +kernel
theorem dX5_node_94 : decode cX5_node 94 = .ok (.iload_n 1, 1) := by decide +kernel
theorem dX5_node_95 : decode cX5_node 95 = .ok (.iaload, 1) := by decide +kernel
theorem dX5_node_96 : decode cX5_node 96 = .ok (.ireturn, 1) := by decide +kernel
theorem dX5_node_97 : decode cX5_node 97 = .ok (.aload_n 0, 1) := by decide +kernel
theorem dX5_node_98 : decode cX5_node 98 = .ok (.getfield 28, 3) := by decide +kernel
theorem dX5_node_101 : decode cX5_node 101 = .ok (.iload_n 1, 1) := by decide +kernel
theorem dX5_node_102 : decode cX5_node 102 = .ok (.iaload, 1) := by decide +kernel
theorem dX5_node_103 : decode cX5_node 103 = .ok (.ireturn, 1) := by decide +kernel
theorem dX5_node_104 : decode cX5_node 104 = .ok (.aload_n 0, 1) := by decide +kernel
theorem dX5_node_105 : decode cX5_node 105 = .ok (.getfield 19, 3) := by decide +kernel
theorem dX5_node_108 : decode cX5_node 108 = .ok (.iload_n 1, 1) := by decide +kernel
theorem dX5_node_109 : decode cX5_node 109 = .ok (.iaload, 1) := by decide +kernel
theorem dX5_node_110 : decode cX5_node 110 = .ok (.ireturn, 1) := by decide +kernel
theorem dX5_node_111 : decode cX5_node 111 = .ok (.aload_n 0, 1) := by decide +kernel
theorem dX5_node_112 : decode cX5_node 112 = .ok (.getfield 22, 3) := by decide +kernel
theorem dX5_node_115 : decode cX5_node 115 = .ok (.iload_n 1, 1) := by decide +kernel
theorem dX5_node_116 : decode cX5_node 116 = .ok (.iaload, 1) := by decide +kernel
theorem dX5_node_117 : decode cX5_node 117 = .ok (.ireturn, 1) := by decide +kernel
theorem dX5_node_118 : decode cX5_node 118 = .ok (.aload_n 0, 1) := by decide +kernel
theorem dX5_node_119 : decode cX5_node 119 = .ok (.getfield 25, 3) := by decide +kernel
theorem dX5_node_122 : decode cX5_node 122 = .ok (.iload_n 1, 1) := by decide +kernel
theorem dX5_node_123 : decode cX5_node 123 = .ok (.iaload, 1) := by decide +kernel
theorem dX5_node_124 : decode cX5_node 124 = .ok (.ireturn, 1) := by decide +kernel
set_option maxRecDepth 20000 in
theorem ggX5_received_X5_isNode : GoodIn wsX5_received wsX5_isNode := goodIn_r _ [10] (by decide +kernel) (by decide +kernel)
set_option maxRecDepth 20000 in
theorem gX5_received_X5_isNode : GoodIn wsX5_received (va_wsS RX5 147 yX5_isNode wsX5_isNode) := goodIn_app (goodIn_of _ (by decide +kernel)) ggX5_received_X5_isNode
theorem dX5_received_0 : decode cX5_received 0 = .ok (.aload_n 0, 1) := by decide +kernel
theorem dX5_received_1 : decode cX5_received 1 = .ok (.iload_n 1, 1) := by decide +kernel
theorem dX5_received_2 : decode cX5_received 2 = .ok (.invokestatic 147, 3) := by decide +kernel
theorem dX5_received_5 : decode cX5_received 5 = .ok (.ifCond .eq 12, 3) := by decide +kernel
theorem dX5_received_8 : decode cX5_received 8 = .ok (.iload_n 2, 1) := by decide +kernel
theorem dX5_received_9 : decode cX5_received 9 = .ok (.ifCond .lt 8, 3) := by decide +kernel
theorem dX5_received_12 : decode cX5_received 12 = .ok (.iload_n 2, 1) := by decide +kernel
theorem dX5_received_13 : decode cX5_received 13 = .ok (.iconst 3, 1) := by decide +kernel
theorem dX5_received_14 : decode cX5_received 14 = .ok (.if_icmp .le 7, 3) := by decide +kernel
theorem dX5_received_17 : decode cX5_received 17 = .ok (.iconst 1, 1) := by decide +kernel
theorem dX5_received_18 : decode cX5_received 18 = .ok (.goto 17, 3) := by decide +kernel
theorem dX5_received_21 : decode cX5_received 21 = .ok (.aload_n 0, 1) := by decide +kernel
theorem dX5_received_22 : decode cX5_received 22 = .ok (.getfield 22, 3) := by decide +kernel
theorem dX5_received_25 : decode cX5_received 25 = .ok (.iload_n 1, 1) := by decide +kernel
theorem dX5_received_26 : decode cX5_received 26 = .ok (.iaload, 1) := by decide +kernel
theorem dX5_received_27 : decode cX5_received 27 = .ok (.ifCond .ne 7, 3) := by decide +kernel
theorem dX5_received_30 : decode cX5_received 30 = .ok (.iconst 2, 1) := by decide +kernel
theorem dX5_received_31 : decode cX5_received 31 = .ok (.goto 4, 3) := by decide +kernel
theorem dX5_received_34 : decode cX5_received 34 = .ok (.iconst 0, 1) := by decide +kernel
theorem dX5_received_35 : decode cX5_received 35 = .ok (.putfield 99, 3) := by decide +kernel
theorem dX5_received_38 : decode cX5_received 38 = .ok (.aload_n 0, 1) := by decide +kernel
theorem dX5_received_39 : decode cX5_received 39 = .ok (.getfield 99, 3) := by decide +kernel
theorem dX5_received_42 : decode cX5_received 42 = .ok (.ifCond .le 5, 3) := by decide +kernel
theorem dX5_received_45 : decode cX5_received 45 = .ok (.lconst 0, 1) := by decide +kernel
theorem dX5_received_46 : decode cX5_received 46 = .ok (.lreturn, 1) := by decide +kernel
theorem dX5_received_47 : decode cX5_received 47 = .ok (.iload_n 2, 1) := by decide +kernel
theorem dX5_received_48 : decode cX5_received 48 = .ok (.ifCond .ne 13, 3) := by decide +kernel
theorem dX5_received_51 : decode cX5_received 51 = .ok (.aload_n 0, 1) := by decide +kernel
theorem dX5_received_52 : decode cX5_received 52 = .ok (.getfield 48, 3) := by decide +kernel
theorem dX5_received_55 : decode cX5_received 55 = .ok (.iload_n 1, 1) := by decide +kernel
theorem dX5_received_56 : decode cX5_received 56 = .ok (.iaload, 1) := by decide +kernel
theorem dX5_received_57 : decode cX5_received 57 = .ok (.i2l, 1) := by decide +kernel
theorem dX5_received_58 : decode cX5_received 58 = .ok (.goto 46, 3) := by decide +kernel
theorem dX5_received_61 : decode cX5_received 61 = .ok (.iload_n 2, 1) := by decide +kernel
theorem dX5_received_62 : decode cX5_received 62 = .ok (.iconst 1, 1) := by decide +kernel
theorem dX5_received_63 : decode cX5_received 63 = .ok (.if_icmp .ne 20, 3) := by decide +kernel
theorem dX5_received_66 : decode cX5_received 66 = .ok (.aload_n 0, 1) := by decide +kernel
theorem dX5_received_67 : decode cX5_received 67 = .ok (.getfield 45, 3) := by decide +kernel
theorem dX5_received_70 : decode cX5_received 70 = .ok (.iload_n 1, 1) := by decide +kernel
theorem dX5_received_71 : decode cX5_received 71 = .ok (.baload, 1) := by decide +kernel
theorem dX5_received_72 : decode cX5_received 72 = .ok (.ifCond .eq 7, 3) := by decide +kernel
theorem dX5_received_75 : decode cX5_received 75 = .ok (.lconst 1, 1) := by decide +kernel
theorem dX5_received_76 : decode cX5_received 76 = .ok (.goto 28, 3) := by decide +kernel
theorem dX5_received_79 : decode cX5_received 79 = .ok (.lconst 0, 1) := by decide +kernel
theorem dX5_received_80 : decode cX5_received 80 = .ok (.goto 24, 3) := by decide +kernel
theorem dX5_received_83 : decode cX5_received 83 = .ok (.iload_n 2, 1) := by decide +kernel
theorem dX5_received_84 : decode cX5_received 84 = .ok (.iconst 2, 1) := by decide +kernel
theorem dX5_received_85 : decode cX5_received 85 = .ok (.if_icmp .ne 13, 3) := by decide +kernel
theorem dX5_received_88 : decode cX5_received 88 = .ok (.aload_n 0, 1) := by decide +kernel
theorem dX5_received_89 : decode cX5_received 89 = .ok (.getfield 54, 3) := by decide +kernel
theorem dX5_received_92 : decode cX5_received 92 = .ok (.iload_n 1, 1) := by decide +kernel
theorem dX5_received_93 : decode cX5_received 93 = .ok (.iaload, 1) := by decide +kernel
theorem dX5_received_94 : decode cX5_received 94 = .ok (.i2l, 1) := by decide +kernel
theorem dX5_received_95 : decode cX5_received 95 = .ok (.goto 9, 3) := by decide +kernel
theorem dX5_received_98 : decode cX5_received 98 = .ok (.aload_n 0, 1) := by decide +kernel
theorem dX5_received_99 : decode cX5_received 99 = .ok (.getfield 51, 3) := by decide +kernel
theorem dX5_received_102 : decode cX5_received 102 = .ok (.iload_n 1, 1) := by decide +kernel
theorem dX5_received_103 : decode cX5_received 103 = .ok (.laload, 1) := by decide +kernel
theorem dX5_received_104 : decode cX5_received 104 = .ok (.lreturn, 1) := by decide +kernel
set_option maxRecDepth 20000 in
theorem ggX5_tape_X5_isNode : GoodIn wsX5_tape wsX5_isNode := goodIn_r _ [9] (by decide +kernel) (by decide +kernel)
set_option maxRecDepth 20000 in
theorem gX5_tape_X5_isNode : GoodIn wsX5_tape (va_wsS RX5 147 yX5_isNode wsX5_isNode) := goodIn_app (goodIn_of _ (by decide +kernel)) ggX5_tape_X5_isNode
set_option maxRecDepth 20000 in
theorem ggX5_tape_X5_offer : GoodIn wsX5_tape wsX5_offer := goodIn_r _ [13, 14, 15, 16, 17, 8, 18, 19, 20, 21, 22, 23, 45, 46, 47, 48, 49, 50, 51, 52, 53, 54, 55, 56, 57, 58, 59, 60, 61, 62, 63, 64, 65, 66, 67, 68, 69, 70, 71, 72, 73, 74, 75, 76, 77, 78, 79] (by decide +kernel) (by decide +kernel)
set_option maxRecDepth 20000 in
theorem gX5_tape_X5_offer : GoodIn wsX5_tape (wsV RX5 159 RX5 yX5_offer wsX5_offer) := goodIn_app (goodIn_of _ (by decide +kernel)) ggX5_tape_X5_offer
set_option maxRecDepth 20000 in
theorem ggX5_tape_X5_make : GoodIn wsX5_tape wsX5_make := goodIn_r _ [27, 28, 19, 20, 29, 30, 31, 32, 2, 33, 34, 35, 8, 36, 37, 38, 39, 40, 41, 42, 43, 5, 44, 45, 46, 47, 48, 49, 50, 51, 52, 53, 54, 55, 56, 57, 58, 59, 60, 61, 62, 63, 64, 65, 66, 67, 68, 69, 70, 71, 72, 73, 74, 75, 76, 77, 78, 79] (by decide +kernel) (by decide +kernel)
set_option maxRecDepth 20000 in
theorem gX5_tape_X5_make : GoodIn wsX5_tape (wsV RX5 162 RX5 yX5_make wsX5_make) := goodIn_app (goodIn_of _ (by decide +kernel)) ggX5_tape_X5_make
theorem dX5_tape_0 : decode cX5_tape 0 = .ok (.aload_n 0, 1) := by decide +kernel
theorem dX5_tape_1 : decode cX5_tape 1 = .ok (.iload_n 1, 1) := by decide +kernel
theorem dX5_tape_2 : decode cX5_tape 2 = .ok (.invokestatic 147, 3) := by decide +kernel
theorem dX5_tape_5 : decode cX5_tape 5 = .ok (.ifCond .ne 7, 3) := by decide +kernel
theorem dX5_tape_8 : decode cX5_tape 8 = .ok (.iconst 1, 1) := by decide +kernel
theorem dX5_tape_9 : decode cX5_tape 9 = .ok (.goto 16, 3) := by decide +kernel
theorem dX5_tape_12 : decode cX5_tape 12 = .ok (.aload_n 0, 1) := by decide +kernel
theorem dX5_tape_13 : decode cX5_tape 13 = .ok (.iload_n 1, 1) := by decide +kernel
theorem dX5_tape_14 : decode cX5_tape 14 = .ok (.invokevirtual 159, 3) := by decide +kernel
theorem dX5_tape_17 : decode cX5_tape 17 = .ok (.ifCond .ge 7, 3) := by decide +kernel
theorem dX5_tape_20 : decode cX5_tape 20 = .ok (.iconst 2, 1) := by decide +kernel
theorem dX5_tape_21 : decode cX5_tape 21 = .ok (.goto 4, 3) := by decide +kernel
theorem dX5_tape_24 : decode cX5_tape 24 = .ok (.iconst 0, 1) := by decide +kernel
theorem dX5_tape_25 : decode cX5_tape 25 = .ok (.putfield 99, 3) := by decide +kernel
theorem dX5_tape_28 : decode cX5_tape 28 = .ok (.aload_n 0, 1) := by decide +kernel
theorem dX5_tape_29 : decode cX5_tape 29 = .ok (.getfield 99, 3) := by decide +kernel
theorem dX5_tape_32 : decode cX5_tape 32 = .ok (.ifCond .le 5, 3) := by decide +kernel
theorem dX5_tape_35 : decode cX5_tape 35 = .ok (.iconst 0, 1) := by decide +kernel
theorem dX5_tape_36 : decode cX5_tape 36 = .ok (.ireturn, 1) := by decide +kernel
theorem dX5_tape_37 : decode cX5_tape 37 = .ok (.aload_n 0, 1) := by decide +kernel
theorem dX5_tape_38 : decode cX5_tape 38 = .ok (.aload_n 0, 1) := by decide +kernel
theorem dX5_tape_39 : decode cX5_tape 39 = .ok (.iload_n 1, 1) := by decide +kernel
theorem dX5_tape_40 : decode cX5_tape 40 = .ok (.invokevirtual 159, 3) := by decide +kernel
theorem dX5_tape_43 : decode cX5_tape 43 = .ok (.iconst 4, 1) := by decide +kernel
theorem dX5_tape_44 : decode cX5_tape 44 = .ok (.invokevirtual 162, 3) := by decide +kernel
theorem dX5_tape_47 : decode cX5_tape 47 = .ok (.aload_n 0, 1) := by decide +kernel
theorem dX5_tape_48 : decode cX5_tape 48 = .ok (.aload_n 0, 1) := by decide +kernel
theorem dX5_tape_49 : decode cX5_tape 49 = .ok (.getfield 63, 3) := by decide +kernel
theorem dX5_tape_52 : decode cX5_tape 52 = .ok (.iconst 4, 1) := by decide +kernel
theorem dX5_tape_53 : decode cX5_tape 53 = .ok (.iaload, 1) := by decide +kernel
theorem dX5_tape_54 : decode cX5_tape 54 = .ok (.putfield 211, 3) := by decide +kernel
theorem dX5_tape_57 : decode cX5_tape 57 = .ok (.iconst 0, 1) := by decide +kernel
theorem dX5_tape_58 : decode cX5_tape 58 = .ok (.istore_n 2, 1) := by decide +kernel
theorem dX5_tape_59 : decode cX5_tape 59 = .ok (.iload_n 2, 1) := by decide +kernel
theorem dX5_tape_60 : decode cX5_tape 60 = .ok (.aload_n 0, 1) := by decide +kernel
theorem dX5_tape_61 : decode cX5_tape 61 = .ok (.getfield 211, 3) := by decide +kernel
theorem dX5_tape_64 : decode cX5_tape 64 = .ok (.if_icmp .ge 25, 3) := by decide +kernel
theorem dX5_tape_67 : decode cX5_tape 67 = .ok (.aload_n 0, 1) := by decide +kernel
theorem dX5_tape_68 : decode cX5_tape 68 = .ok (.getfield 93, 3) := by decide +kernel
theorem dX5_tape_71 : decode cX5_tape 71 = .ok (.iload_n 2, 1) := by decide +kernel
theorem dX5_tape_72 : decode cX5_tape 72 = .ok (.aload_n 0, 1) := by decide +kernel
theorem dX5_tape_73 : decode cX5_tape 73 = .ok (.getfield 57, 3) := by decide +kernel
theorem dX5_tape_76 : decode cX5_tape 76 = .ok (.sipush 800, 3) := by decide +kernel
theorem dX5_tape_79 : decode cX5_tape 79 = .ok (.iload_n 2, 1) := by decide +kernel
theorem dX5_tape_80 : decode cX5_tape 80 = .ok (.iadd, 1) := by decide +kernel
theorem dX5_tape_81 : decode cX5_tape 81 = .ok (.iaload, 1) := by decide +kernel
theorem dX5_tape_82 : decode cX5_tape 82 = .ok (.iastore, 1) := by decide +kernel
theorem dX5_tape_83 : decode cX5_tape 83 = .ok (.iinc 2 1, 3) := by decide +kernel
theorem dX5_tape_86 : decode cX5_tape 86 = .ok (.goto (-27), 3) := by decide +kernel
theorem dX5_tape_89 : decode cX5_tape 89 = .ok (.aload_n 0, 1) := by decide +kernel
theorem dX5_tape_90 : decode cX5_tape 90 = .ok (.getfield 211, 3) := by decide +kernel
theorem dX5_tape_93 : decode cX5_tape 93 = .ok (.ireturn, 1) := by decide +kernel
theorem dX5_put_0 : decode cX5_put 0 = .ok (.aload_n 0, 1) := by decide +kernel
theorem dX5_put_1 : decode cX5_put 1 = .ok (.iconst 0, 1) := by decide +kernel
theorem dX5_put_2 : decode cX5_put 2 = .ok (.putfield 99, 3) := by decide +kernel
theorem dX5_put_5 : decode cX5_put 5 = .ok (.iload_n 3, 1) := by decide +kernel
theorem dX5_put_6 : decode cX5_put 6 = .ok (.iconst 1, 1) := by decide +kernel
theorem dX5_put_7 : decode cX5_put 7 = .ok (.if_icmp .lt 21, 3) := by decide +kernel
theorem dX5_put_10 : decode cX5_put 10 = .ok (.iload_n 3, 1) := by decide +kernel
theorem dX5_put_11 : decode cX5_put 11 = .ok (.bipush 64, 2) := by decide +kernel
theorem dX5_put_13 : decode cX5_put 13 = .ok (.if_icmp .gt 15, 3) := by decide +kernel
theorem dX5_put_16 : decode cX5_put 16 = .ok (.aload_n 0, 1) := by decide +kernel
theorem dX5_put_17 : decode cX5_put 17 = .ok (.getfield 211, 3) := by decide +kernel
theorem dX5_put_20 : decode cX5_put 20 = .ok (.iload_n 3, 1) := by decide +kernel
theorem dX5_put_21 : decode cX5_put 21 = .ok (.iadd, 1) := by decide +kernel
theorem dX5_put_22 : decode cX5_put 22 = .ok (.sipush 200, 3) := by decide +kernel
theorem dX5_put_25 : decode cX5_put 25 = .ok (.if_icmp .le 5, 3) := by decide +kernel
theorem dX5_put_28 : decode cX5_put 28 = .ok (.iconst 0, 1) := by decide +kernel
theorem dX5_put_29 : decode cX5_put 29 = .ok (.ireturn, 1) := by decide +kernel
theorem dX5_put_30 : decode cX5_put 30 = .ok (.iconst 0, 1) := by decide +kernel
theorem dX5_put_31 : decode cX5_put 31 = .ok (.istore 4, 2) := by decide +kernel
theorem dX5_put_33 : decode cX5_put 33 = .ok (.iload 4, 2) := by decide +kernel
theorem dX5_put_35 : decode cX5_put 35 = .ok (.iload_n 3, 1) := by decide +kernel
theorem dX5_put_36 : decode cX5_put 36 = .ok (.if_icmp .ge 35, 3) := by decide +kernel
theorem dX5_put_39 : decode cX5_put 39 = .ok (.aload_n 0, 1) := by decide +kernel
theorem dX5_put_40 : decode cX5_put 40 = .ok (.getfield 93, 3) := by decide +kernel
theorem dX5_put_43 : decode cX5_put 43 = .ok (.aload_n 0, 1) := by decide +kernel
theorem dX5_put_44 : decode cX5_put 44 = .ok (.getfield 211, 3) := by decide +kernel
theorem dX5_put_47 : decode cX5_put 47 = .ok (.lload_n 1, 1) := by decide +kernel
theorem dX5_put_48 : decode cX5_put 48 = .ok (.iload 4, 2) := by decide +kernel
theorem dX5_put_50 : decode cX5_put 50 = .ok (.lshr, 1) := by decide +kernel
theorem dX5_put_51 : decode cX5_put 51 = .ok (.lconst 1, 1) := by decide +kernel
theorem dX5_put_52 : decode cX5_put 52 = .ok (.land, 1) := by decide +kernel
theorem dX5_put_53 : decode cX5_put 53 = .ok (.l2i, 1) := by decide +kernel
theorem dX5_put_54 : decode cX5_put 54 = .ok (.iastore, 1) := by decide +kernel
theorem dX5_put_55 : decode cX5_put 55 = .ok (.aload_n 0, 1) := by decide +kernel
theorem dX5_put_56 : decode cX5_put 56 = .ok (.dup, 1) := by decide +kernel
theorem dX5_put_57 : decode cX5_put 57 = .ok (.getfield 211, 3) := by decide +kernel
theorem dX5_put_60 : decode cX5_put 60 = .ok (.iconst 1, 1) := by decide +kernel
theorem dX5_put_61 : decode cX5_put 61 = .ok (.iadd, 1) := by decide +kernel
theorem dX5_put_62 : decode cX5_put 62 = .ok (.putfield 211, 3) := by decide +kernel
theorem dX5_put_65 : decode cX5_put 65 = .ok (.iinc 4 1, 3) := by decide +kernel
theorem dX5_put_68 : decode cX5_put 68 = .ok (.goto (-35), 3) := by decide +kernel
theorem dX5_put_71 : decode cX5_put 71 = .ok (.iconst 1, 1) := by decide +kernel
theorem dX5_put_72 : decode cX5_put 72 = .ok (.ireturn, 1) := by decide +kernel
theorem dX5_bit_0 : decode cX5_bit 0 = .ok (.aload_n 0, 1) := by decide +kernel
theorem dX5_bit_1 : decode cX5_bit 1 = .ok (.iload_n 1, 1) := by decide +kernel
theorem dX5_bit_2 : decode cX5_bit 2 = .ok (.ifCond .lt 11, 3) := by decide +kernel
theorem dX5_bit_5 : decode cX5_bit 5 = .ok (.iload_n 1, 1) := by decide +kernel
theorem dX5_bit_6 : decode cX5_bit 6 = .ok (.aload_n 0, 1) := by decide +kernel
theorem dX5_bit_7 : decode cX5_bit 7 = .ok (.getfield 211, 3) := by decide +kernel
theorem dX5_bit_10 : decode cX5_bit 10 = .ok (.if_icmp .lt 7, 3) := by decide +kernel
theorem dX5_bit_13 : decode cX5_bit 13 = .ok (.iconst 1, 1) := by decide +kernel
theorem dX5_bit_14 : decode cX5_bit 14 = .ok (.goto 4, 3) := by decide +kernel
theorem dX5_bit_17 : decode cX5_bit 17 = .ok (.iconst 0, 1) := by decide +kernel
theorem dX5_bit_18 : decode cX5_bit 18 = .ok (.putfield 99, 3) := by decide +kernel
theorem dX5_bit_21 : decode cX5_bit 21 = .ok (.aload_n 0, 1) := by decide +kernel
theorem dX5_bit_22 : decode cX5_bit 22 = .ok (.getfield 99, 3) := by decide +kernel
theorem dX5_bit_25 : decode cX5_bit 25 = .ok (.ifCond .le 7, 3) := by decide +kernel
theorem dX5_bit_28 : decode cX5_bit 28 = .ok (.iconst 0, 1) := by decide +kernel
theorem dX5_bit_29 : decode cX5_bit 29 = .ok (.goto 9, 3) := by decide +kernel
theorem dX5_bit_32 : decode cX5_bit 32 = .ok (.aload_n 0, 1) := by decide +kernel
theorem dX5_bit_33 : decode cX5_bit 33 = .ok (.getfield 93, 3) := by decide +kernel
theorem dX5_bit_36 : decode cX5_bit 36 = .ok (.iload_n 1, 1) := by decide +kernel
theorem dX5_bit_37 : decode cX5_bit 37 = .ok (.iaload, 1) := by decide +kernel
theorem dX5_bit_38 : decode cX5_bit 38 = .ok (.ireturn, 1) := by decide +kernel
theorem dX5_flip_0 : decode cX5_flip 0 = .ok (.aload_n 0, 1) := by decide +kernel
theorem dX5_flip_1 : decode cX5_flip 1 = .ok (.iload_n 1, 1) := by decide +kernel
theorem dX5_flip_2 : decode cX5_flip 2 = .ok (.ifCond .lt 11, 3) := by decide +kernel
theorem dX5_flip_5 : decode cX5_flip 5 = .ok (.iload_n 1, 1) := by decide +kernel
theorem dX5_flip_6 : decode cX5_flip 6 = .ok (.aload_n 0, 1) := by decide +kernel
theorem dX5_flip_7 : decode cX5_flip 7 = .ok (.getfield 211, 3) := by decide +kernel
theorem dX5_flip_10 : decode cX5_flip 10 = .ok (.if_icmp .lt 7, 3) := by decide +kernel
theorem dX5_flip_13 : decode cX5_flip 13 = .ok (.iconst 1, 1) := by decide +kernel
theorem dX5_flip_14 : decode cX5_flip 14 = .ok (.goto 4, 3) := by decide +kernel
theorem dX5_flip_17 : decode cX5_flip 17 = .ok (.iconst 0, 1) := by decide +kernel
theorem dX5_flip_18 : decode cX5_flip 18 = .ok (.putfield 99, 3) := by decide +kernel
theorem dX5_flip_21 : decode cX5_flip 21 = .ok (.aload_n 0, 1) := by decide +kernel
theorem dX5_flip_22 : decode cX5_flip 22 = .ok (.getfield 99, 3) := by decide +kernel
theorem dX5_flip_25 : decode cX5_flip 25 = .ok (.ifCond .ne 17, 3) := by decide +kernel
theorem dX5_flip_28 : decode cX5_flip 28 = .ok (.aload_n 0, 1) := by decide +kernel
theorem dX5_flip_29 : decode cX5_flip 29 = .ok (.getfield 93, 3) := by decide +kernel
theorem dX5_flip_32 : decode cX5_flip 32 = .ok (.iload_n 1, 1) := by decide +kernel
theorem dX5_flip_33 : decode cX5_flip 33 = .ok (.iconst 1, 1) := by decide +kernel
theorem dX5_flip_34 : decode cX5_flip 34 = .ok (.aload_n 0, 1) := by decide +kernel
theorem dX5_flip_35 : decode cX5_flip 35 = .ok (.getfield 93, 3) := by decide +kernel
theorem dX5_flip_38 : decode cX5_flip 38 = .ok (.iload_n 1, 1) := by decide +kernel
theorem dX5_flip_39 : decode cX5_flip 39 = .ok (.iaload, 1) := by decide +kernel
theorem dX5_flip_40 : decode cX5_flip 40 = .ok (.isub, 1) := by decide +kernel
theorem dX5_flip_41 : decode cX5_flip 41 = .ok (.iastore, 1) := by decide +kernel
theorem dX5_flip_42 : decode cX5_flip 42 = .ok (.return_, 1) := by decide +kernel
theorem dX5_wipe_0 : decode cX5_wipe 0 = .ok (.aload_n 0, 1) := by decide +kernel
theorem dX5_wipe_1 : decode cX5_wipe 1 = .ok (.iconst 0, 1) := by decide +kernel
theorem dX5_wipe_2 : decode cX5_wipe 2 = .ok (.putfield 99, 3) := by decide +kernel
theorem dX5_wipe_5 : decode cX5_wipe 5 = .ok (.aload_n 0, 1) := by decide +kernel
theorem dX5_wipe_6 : decode cX5_wipe 6 = .ok (.getfield 211, 3) := by decide +kernel
theorem dX5_wipe_9 : decode cX5_wipe 9 = .ok (.istore_n 1, 1) := by decide +kernel
theorem dX5_wipe_10 : decode cX5_wipe 10 = .ok (.aload_n 0, 1) := by decide +kernel
theorem dX5_wipe_11 : decode cX5_wipe 11 = .ok (.iconst 0, 1) := by decide +kernel
theorem dX5_wipe_12 : decode cX5_wipe 12 = .ok (.putfield 211, 3) := by decide +kernel
theorem dX5_wipe_15 : decode cX5_wipe 15 = .ok (.iload_n 1, 1) := by decide +kernel
theorem dX5_wipe_16 : decode cX5_wipe 16 = .ok (.ireturn, 1) := by decide +kernel
set_option maxRecDepth 20000 in
theorem ggX5_read_X5_begin : GoodIn wsX5_read wsX5_begin := goodIn_r _ [8, 9, 10, 11, 12, 13, 42, 43, 44, 45, 46, 47, 48, 49, 50, 51, 52, 53, 54, 55, 56, 57, 58, 59, 60, 61, 62, 63, 64, 65, 66, 67, 68, 69, 70, 71, 72, 73, 74, 75, 76] (by decide +kernel) (by decide +kernel)
set_option maxRecDepth 20000 in
theorem gX5_read_X5_begin : GoodIn wsX5_read (wsV RX5 165 RX5 yX5_begin wsX5_begin) := goodIn_app (goodIn_of _ (by decide +kernel)) ggX5_read_X5_begin
set_option maxRecDepth 20000 in
theorem ggX5_read_X5_take : GoodIn wsX5_read wsX5_take := goodIn_r _ [17, 9, 12, 10, 11, 18, 19, 20, 21, 7, 22, 13, 23, 24, 25, 26, 27, 28, 29, 30, 31, 32, 33, 34, 35, 36, 37, 38, 39, 40, 41, 42, 43, 44, 45, 46, 47, 48, 49, 50, 51, 52, 53, 54, 55, 56, 57, 58, 59, 60, 61, 62, 63, 64, 65, 66, 67, 68, 69, 70, 71, 72, 73, 74, 75, 76] (by decide +kernel) (by decide +kernel)
set_option maxRecDepth 20000 in
theorem gX5_read_X5_take : GoodIn wsX5_read (wsV RX5 169 RX5 yX5_take wsX5_take) := goodIn_app (goodIn_of _ (by decide +kernel)) ggX5_read_X5_take
theorem dX5_read_0 : decode cX5_read 0 = .ok (.aload_n 0, 1) := by decide +kernel
theorem dX5_read_1 : decode cX5_read 1 = .ok (.iconst 0, 1) := by decide +kernel
theorem dX5_read_2 : decode cX5_read 2 = .ok (.putfield 99, 3) := by decide +kernel
theorem dX5_read_5 : decode cX5_read 5 = .ok (.aload_n 0, 1) := by decide +kernel
theorem dX5_read_6 : decode cX5_read 6 = .ok (.iconst 4, 1) := by decide +kernel
theorem dX5_read_7 : decode cX5_read 7 = .ok (.invokevirtual 165, 3) := by decide +kernel
theorem dX5_read_10 : decode cX5_read 10 = .ok (.iconst 0, 1) := by decide +kernel
theorem dX5_read_11 : decode cX5_read 11 = .ok (.istore_n 1, 1) := by decide +kernel
theorem dX5_read_12 : decode cX5_read 12 = .ok (.iload_n 1, 1) := by decide +kernel
theorem dX5_read_13 : decode cX5_read 13 = .ok (.aload_n 0, 1) := by decide +kernel
theorem dX5_read_14 : decode cX5_read 14 = .ok (.getfield 211, 3) := by decide +kernel
theorem dX5_read_17 : decode cX5_read 17 = .ok (.if_icmp .ge 59, 3) := by decide +kernel
theorem dX5_read_20 : decode cX5_read 20 = .ok (.aload_n 0, 1) := by decide +kernel
theorem dX5_read_21 : decode cX5_read 21 = .ok (.iconst 4, 1) := by decide +kernel
theorem dX5_read_22 : decode cX5_read 22 = .ok (.aload_n 0, 1) := by decide +kernel
theorem dX5_read_23 : decode cX5_read 23 = .ok (.getfield 93, 3) := by decide +kernel
theorem dX5_read_26 : decode cX5_read 26 = .ok (.iload_n 1, 1) := by decide +kernel
theorem dX5_read_27 : decode cX5_read 27 = .ok (.iaload, 1) := by decide +kernel
theorem dX5_read_28 : decode cX5_read 28 = .ok (.invokevirtual 169, 3) := by decide +kernel
theorem dX5_read_31 : decode cX5_read 31 = .ok (.istore_n 2, 1) := by decide +kernel
theorem dX5_read_32 : decode cX5_read 32 = .ok (.iload_n 2, 1) := by decide +kernel
theorem dX5_read_33 : decode cX5_read 33 = .ok (.bipush 9, 2) := by decide +kernel
theorem dX5_read_35 : decode cX5_read 35 = .ok (.if_icmp .ne 23, 3) := by decide +kernel
theorem dX5_read_38 : decode cX5_read 38 = .ok (.iload_n 1, 1) := by decide +kernel
theorem dX5_read_39 : decode cX5_read 39 = .ok (.iconst 1, 1) := by decide +kernel
theorem dX5_read_40 : decode cX5_read 40 = .ok (.iadd, 1) := by decide +kernel
theorem dX5_read_41 : decode cX5_read 41 = .ok (.aload_n 0, 1) := by decide +kernel
theorem dX5_read_42 : decode cX5_read 42 = .ok (.getfield 211, 3) := by decide +kernel
theorem dX5_read_45 : decode cX5_read 45 = .ok (.if_icmp .ne 7, 3) := by decide +kernel
theorem dX5_read_48 : decode cX5_read 48 = .ok (.iconst 0, 1) := by decide +kernel
theorem dX5_read_49 : decode cX5_read 49 = .ok (.goto 8, 3) := by decide +kernel
theorem dX5_read_52 : decode cX5_read 52 = .ok (.sipush 5001, 3) := by decide +kernel
theorem dX5_read_55 : decode cX5_read 55 = .ok (.iload_n 1, 1) := by decide +kernel
theorem dX5_read_56 : decode cX5_read 56 = .ok (.iadd, 1) := by decide +kernel
theorem dX5_read_57 : decode cX5_read 57 = .ok (.ireturn, 1) := by decide +kernel
theorem dX5_read_58 : decode cX5_read 58 = .ok (.iload_n 2, 1) := by decide +kernel
theorem dX5_read_59 : decode cX5_read 59 = .ok (.ifCond .le 11, 3) := by decide +kernel
theorem dX5_read_62 : decode cX5_read 62 = .ok (.sipush 1000, 3) := by decide +kernel
theorem dX5_read_65 : decode cX5_read 65 = .ok (.iload_n 2, 1) := by decide +kernel
theorem dX5_read_66 : decode cX5_read 66 = .ok (.imul, 1) := by decide +kernel
theorem dX5_read_67 : decode cX5_read 67 = .ok (.iload_n 1, 1) := by decide +kernel
theorem dX5_read_68 : decode cX5_read 68 = .ok (.iadd, 1) := by decide +kernel
theorem dX5_read_69 : decode cX5_read 69 = .ok (.ireturn, 1) := by decide +kernel
theorem dX5_read_70 : decode cX5_read 70 = .ok (.iinc 1 1, 3) := by decide +kernel
theorem dX5_read_73 : decode cX5_read 73 = .ok (.goto (-61), 3) := by decide +kernel
theorem dX5_read_76 : decode cX5_read 76 = .ok (.sipush 4000, 3) := by decide +kernel
theorem dX5_read_79 : decode cX5_read 79 = .ok (.aload_n 0, 1) := by decide +kernel
theorem dX5_read_80 : decode cX5_read 80 = .ok (.getfield 211, 3) := by decide +kernel
theorem dX5_read_83 : decode cX5_read 83 = .ok (.iadd, 1) := by decide +kernel
theorem dX5_read_84 : decode cX5_read 84 = .ok (.ireturn, 1) := by decide +kernel
theorem dJ9_max_7cf53_0 : decode cJ9_max_7cf53 0 = .ok (.iload_n 0, 1) := by decide +kernel
theorem dJ9_max_7cf53_1 : decode cJ9_max_7cf53 1 = .ok (.iload_n 1, 1) := by decide +kernel
theorem dJ9_max_7cf53_2 : decode cJ9_max_7cf53 2 = .ok (.if_icmp .lt 7, 3) := by decide +kernel
theorem dJ9_max_7cf53_5 : decode cJ9_max_7cf53 5 = .ok (.iload_n 0, 1) := by decide +kernel
theorem dJ9_max_7cf53_6 : decode cJ9_max_7cf53 6 = .ok (.goto 4, 3) := by decide +kernel
theorem dJ9_max_7cf53_9 : decode cJ9_max_7cf53 9 = .ok (.iload_n 1, 1) := by decide +kernel
theorem dJ9_max_7cf53_10 : decode cJ9_max_7cf53 10 = .ok (.ireturn, 1) := by decide +kernel
theorem dJ9_min_7cf53_0 : decode cJ9_min_7cf53 0 = .ok (.iload_n 0, 1) := by decide +kernel
theorem dJ9_min_7cf53_1 : decode cJ9_min_7cf53 1 = .ok (.iload_n 1, 1) := by decide +kernel
theorem dJ9_min_7cf53_2 : decode cJ9_min_7cf53 2 = .ok (.if_icmp .gt 7, 3) := by decide +kernel
theorem dJ9_min_7cf53_5 : decode cJ9_min_7cf53 5 = .ok (.iload_n 0, 1) := by decide +kernel
theorem dJ9_min_7cf53_6 : decode cJ9_min_7cf53 6 = .ok (.goto 4, 3) := by decide +kernel
theorem dJ9_min_7cf53_9 : decode cJ9_min_7cf53 9 = .ok (.iload_n 1, 1) := by decide +kernel
theorem dJ9_min_7cf53_10 : decode cJ9_min_7cf53 10 = .ok (.ireturn, 1) := by decide +kernel
