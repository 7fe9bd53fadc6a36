theorem dX4_init_0 : decode cX4_init 0 = .ok (.aload_n 0, 1) := by decide +kernel
theorem dX4_init_1 : decode cX4_init 1 = .ok (.invokespecial 1, 3) := by decide +kernel
theorem dX4_init_4 : decode cX4_init 4 = .ok (.aload_n 0, 1) := by decide +kernel
theorem dX4_init_5 : decode cX4_init 5 = .ok (.iconst 4, 1) := by decide +kernel
theorem dX4_init_6 : decode cX4_init 6 = .ok (.newarray .int, 2) := by decide +kernel
theorem dX4_init_8 : decode cX4_init 8 = .ok (.putfield 7, 3) := by decide +kernel
theorem dX4_init_11 : decode cX4_init 11 = .ok (.aload_n 0, 1) := by decide +kernel
theorem dX4_init_12 : decode cX4_init 12 = .ok (.iconst 4, 1) := by decide +kernel
theorem dX4_init_13 : decode cX4_init 13 = .ok (.newarray .int, 2) := by decide +kernel
theorem dX4_init_15 : decode cX4_init 15 = .ok (.putfield 13, 3) := by decide +kernel
theorem dX4_init_18 : decode cX4_init 18 = .ok (.aload_n 0, 1) := by decide +kernel
theorem dX4_init_19 : decode cX4_init 19 = .ok (.iconst 4, 1) := by decide +kernel
theorem dX4_init_20 : decode cX4_init 20 = .ok (.newarray .int, 2) := by decide +kernel
theorem dX4_init_22 : decode cX4_init 22 = .ok (.putfield 16, 3) := by decide +kernel
theorem dX4_init_25 : decode cX4_init 25 = .ok (.aload_n 0, 1) := by decide +kernel
theorem dX4_init_26 : decode cX4_init 26 = .ok (.iconst 4, 1) := by decide +kernel
theorem dX4_init_27 : decode cX4_init 27 = .ok (.newarray .int, 2) := by decide +kernel
theorem dX4_init_29 : decode cX4_init 29 = .ok (.putfield 19, 3) := by decide +kernel
theorem dX4_init_32 : decode cX4_init 32 = .ok (.aload_n 0, 1) := by decide +kernel
theorem dX4_init_33 : decode cX4_init 33 = .ok (.iconst 4, 1) := by decide +kernel
theorem dX4_init_34 : decode cX4_init 34 = .ok (.newarray .boolean, 2) := by decide +kernel
theorem dX4_init_36 : decode cX4_init 36 = .ok (.putfield 22, 3) := by decide +kernel
theorem dX4_init_39 : decode cX4_init 39 = .ok (.aload_n 0, 1) := by decide +kernel
theorem dX4_init_40 : decode cX4_init 40 = .ok (.iconst 4, 1) := by decide +kernel
theorem dX4_init_41 : decode cX4_init 41 = .ok (.newarray .boolean, 2) := by decide +kernel
theorem dX4_init_43 : decode cX4_init 43 = .ok (.putfield 26, 3) := by decide +kernel
theorem dX4_init_46 : decode cX4_init 46 = .ok (.aload_n 0, 1) := by decide +kernel
theorem dX4_init_47 : decode cX4_init 47 = .ok (.iconst 4, 1) := by decide +kernel
theorem dX4_init_48 : decode cX4_init 48 = .ok (.newarray .boolean, 2) := by decide +kernel
theorem dX4_init_50 : decode cX4_init 50 = .ok (.putfield 29, 3) := by decide +kernel
theorem dX4_init_53 : decode cX4_init 53 = .ok (.aload_n 0, 1) := by decide +kernel
theorem dX4_init_54 : decode cX4_init 54 = .ok (.bipush 24, 2) := by decide +kernel
theorem dX4_init_56 : decode cX4_init 56 = .ok (.newarray .int, 2) := by decide +kernel
theorem dX4_init_58 : decode cX4_init 58 = .ok (.putfield 32, 3) := by decide +kernel
theorem dX4_init_61 : decode cX4_init 61 = .ok (.aload_n 0, 1) := by decide +kernel
theorem dX4_init_62 : decode cX4_init 62 = .ok (.bipush 24, 2) := by decide +kernel
theorem dX4_init_64 : decode cX4_init 64 = .ok (.newarray .int, 2) := by decide +kernel
theorem dX4_init_66 : decode cX4_init 66 = .ok (.putfield 35, 3) := by decide +kernel
theorem dX4_init_69 : decode cX4_init 69 = .ok (.aload_n 0, 1) := by decide +kernel
theorem dX4_init_70 : decode cX4_init 70 = .ok (.bipush 24, 2) := by decide +kernel
theorem dX4_init_72 : decode cX4_init 72 = .ok (.newarray .int, 2) := by decide +kernel
theorem dX4_init_74 : decode cX4_init 74 = .ok (.putfield 38, 3) := by decide +kernel
theorem dX4_init_77 : decode cX4_init 77 = .ok (.aload_n 0, 1) := by decide +kernel
theorem dX4_init_78 : decode cX4_init 78 = .ok (.bipush 24, 2) := by decide +kernel
theorem dX4_init_80 : decode cX4_init 80 = .ok (.newarray .int, 2) := by decide +kernel
theorem dX4_init_82 : decode cX4_init 82 = .ok (.putfield 41, 3) := by decide +kernel
theorem dX4_init_85 : decode cX4_init 85 = .ok (.aload_n 0, 1) := by decide +kernel
theorem dX4_init_86 : decode cX4_init 86 = .ok (.bipush 24, 2) := by decide +kernel
theorem dX4_init_88 : decode cX4_init 88 = .ok (.newarray .int, 2) := by decide +kernel
theorem dX4_init_90 : decode cX4_init 90 = .ok (.putfield 44, 3) := by decide +kernel
theorem dX4_init_93 : decode cX4_init 93 = .ok (.aload_n 0, 1) := by decide +kernel
theorem dX4_init_94 : decode cX4_init 94 = .ok (.bipush 24, 2) := by decide +kernel
theorem dX4_init_96 : decode cX4_init 96 = .ok (.newarray .int, 2) := by decide +kernel
theorem dX4_init_98 : decode cX4_init 98 = .ok (.putfield 47, 3) := by decide +kernel
theorem dX4_init_101 : decode cX4_init 101 = .ok (.aload_n 0, 1) := by decide +kernel
theorem dX4_init_102 : decode cX4_init 102 = .ok (.bipush 24, 2) := by decide +kernel
theorem dX4_init_104 : decode cX4_init 104 = .ok (.newarray .int, 2) := by decide +kernel
theorem dX4_init_106 : decode cX4_init 106 = .ok (.putfield 50, 3) := by decide +kernel
theorem dX4_init_109 : decode cX4_init 109 = .ok (.aload_n 0, 1) := by decide +kernel
theorem dX4_init_110 : decode cX4_init 110 = .ok (.bipush 24, 2) := by decide +kernel
theorem dX4_init_112 : decode cX4_init 112 = .ok (.newarray .int, 2) := by decide +kernel
theorem dX4_init_114 : decode cX4_init 114 = .ok (.putfield 53, 3) := by decide +kernel
theorem dX4_init_117 : decode cX4_init 117 = .ok (.aload_n 0, 1) := by decide +kernel
theorem dX4_init_118 : decode cX4_init 118 = .ok (.bipush 24, 2) := by decide +kernel
theorem dX4_init_120 : decode cX4_init 120 = .ok (.newarray .int, 2) := by decide +kernel
theorem dX4_init_122 : decode cX4_init 122 = .ok (.putfield 56, 3) := by decide +kernel
theorem dX4_init_125 : decode cX4_init 125 = .ok (.aload_n 0, 1) := by decide +kernel
theorem dX4_init_126 : decode cX4_init 126 = .ok (.bipush 48, 2) := by decide +kernel
theorem dX4_init_128 : decode cX4_init 128 = .ok (.newarray .int, 2) := by decide +kernel
theorem dX4_init_130 : decode cX4_init 130 = .ok (.putfield 59, 3) := by decide +kernel
theorem dX4_init_133 : decode cX4_init 133 = .ok (.aload_n 0, 1) := by decide +kernel
theorem dX4_init_134 : decode cX4_init 134 = .ok (.bipush 48, 2) := by decide +kernel
theorem dX4_init_136 : decode cX4_init 136 = .ok (.newarray .int, 2) := by decide +kernel
theorem dX4_init_138 : decode cX4_init 138 = .ok (.putfield 62, 3) := by decide +kernel
theorem dX4_init_141 : decode cX4_init 141 = .ok (.aload_n 0, 1) := by decide +kernel
theorem dX4_init_142 : decode cX4_init 142 = .ok (.bipush 48, 2) := by decide +kernel
theorem dX4_init_144 : decode cX4_init 144 = .ok (.newarray .int, 2) := by decide +kernel
theorem dX4_init_146 : decode cX4_init 146 = .ok (.putfield 65, 3) := by decide +kernel
theorem dX4_init_149 : decode cX4_init 149 = .ok (.aload_n 0, 1) := by decide +kernel
theorem dX4_init_150 : decode cX4_init 150 = .ok (.sipush 1620, 3) := by decide +kernel
theorem dX4_init_153 : decode cX4_init 153 = .ok (.newarray .int, 2) := by decide +kernel
theorem dX4_init_155 : decode cX4_init 155 = .ok (.putfield 68, 3) := by decide +kernel
theorem dX4_init_158 : decode cX4_init 158 = .ok (.aload_n 0, 1) := by decide +kernel
theorem dX4_init_159 : decode cX4_init 159 = .ok (.iconst 4, 1) := by decide +kernel
theorem dX4_init_160 : decode cX4_init 160 = .ok (.newarray .int, 2) := by decide +kernel
theorem dX4_init_162 : decode cX4_init 162 = .ok (.putfield 71, 3) := by decide +kernel
theorem dX4_init_165 : decode cX4_init 165 = .ok (.aload_n 0, 1) := by decide +kernel
theorem dX4_init_166 : decode cX4_init 166 = .ok (.iload_n 1, 1) := by decide +kernel
theorem dX4_init_167 : decode cX4_init 167 = .ok (.iconst 2, 1) := by decide +kernel
theorem dX4_init_168 : decode cX4_init 168 = .ok (.if_icmp .ge 7, 3) := by decide +kernel
theorem dX4_init_171 : decode cX4_init 171 = .ok (.iconst 2, 1) := by decide +kernel
theorem dX4_init_172 : decode cX4_init 172 = .ok (.goto 15, 3) := by decide +kernel
theorem dX4_init_175 : decode cX4_init 175 = .ok (.iload_n 1, 1) := by decide +kernel
theorem dX4_init_176 : decode cX4_init 176 = .ok (.bipush 20, 2) := by decide +kernel
theorem dX4_init_178 : decode cX4_init 178 = .ok (.if_icmp .le 8, 3) := by decide +kernel
theorem dX4_init_181 : decode cX4_init 181 = .ok (.bipush 20, 2) := by decide +kernel
theorem dX4_init_183 : decode cX4_init 183 = .ok (.goto 4, 3) := by decide +kernel
theorem dX4_init_186 : decode cX4_init 186 = .ok (.iload_n 1, 1) := by decide +kernel
theorem dX4_init_187 : decode cX4_init 187 = .ok (.putfield 74, 3) := by decide +kernel
theorem dX4_init_190 : decode cX4_init 190 = .ok (.return_, 1) := by decide +kernel
theorem dX4_thrown_0 : decode cX4_thrown 0 = .ok (.aload_n 0, 1) := by decide +kernel
theorem dX4_thrown_1 : decode cX4_thrown 1 = .ok (.getfield 78, 3) := by decide +kernel
theorem dX4_thrown_4 : decode cX4_thrown 4 = .ok (.ireturn, 1) := by decide +kernel
theorem dX4_in_0 : decode cX4_in 0 = .ok (.iload_n 0, 1) := by decide +kernel
theorem dX4_in_1 : decode cX4_in 1 = .ok (.iload_n 1, 1) := by decide +kernel
theorem dX4_in_2 : decode cX4_in 2 = .ok (.if_icmp .lt 12, 3) := by decide +kernel
theorem dX4_in_5 : decode cX4_in 5 = .ok (.iload_n 0, 1) := by decide +kernel
theorem dX4_in_6 : decode cX4_in 6 = .ok (.iload_n 2, 1) := by decide +kernel
theorem dX4_in_7 : decode cX4_in 7 = .ok (.if_icmp .gt 7, 3) := by decide +kernel
theorem dX4_in_10 : decode cX4_in 10 = .ok (.iconst 1, 1) := by decide +kernel
theorem dX4_in_11 : decode cX4_in 11 = .ok (.goto 4, 3) := by decide +kernel
theorem dX4_in_14 : decode cX4_in 14 = .ok (.iconst 0, 1) := by decide +kernel
theorem dX4_in_15 : decode cX4_in 15 = .ok (.ireturn, 1) := by decide +kernel
set_option maxRecDepth 20000 in
theorem ggX4_isLevel_X4_in : GoodIn wsX4_isLevel wsX4_in := goodIn_r _ [5] (by decide +kernel) (by decide +kernel)
set_option maxRecDepth 20000 in
theorem gX4_isLevel_X4_in : GoodIn wsX4_isLevel (va_wsS RX4 81 yX4_in wsX4_in) := goodIn_app (goodIn_of _ (by decide +kernel)) ggX4_isLevel_X4_in
theorem dX4_isLevel_0 : decode cX4_isLevel 0 = .ok (.iload_n 1, 1) := by decide +kernel
theorem dX4_isLevel_1 : decode cX4_isLevel 1 = .ok (.iconst 0, 1) := by decide +kernel
theorem dX4_isLevel_2 : decode cX4_isLevel 2 = .ok (.aload_n 0, 1) := by decide +kernel
theorem dX4_isLevel_3 : decode cX4_isLevel 3 = .ok (.getfield 74, 3) := by decide +kernel
theorem dX4_isLevel_6 : decode cX4_isLevel 6 = .ok (.iconst 1, 1) := by decide +kernel
theorem dX4_isLevel_7 : decode cX4_isLevel 7 = .ok (.isub, 1) := by decide +kernel
theorem dX4_isLevel_8 : decode cX4_isLevel 8 = .ok (.invokestatic 81, 3) := by decide +kernel
theorem dX4_isLevel_11 : decode cX4_isLevel 11 = .ok (.ireturn, 1) := by decide +kernel
set_option maxRecDepth 20000 in
theorem ggX4_isLift_X4_in : GoodIn wsX4_isLift wsX4_in := goodIn_r _ [5] (by decide +kernel) (by decide +kernel)
set_option maxRecDepth 20000 in
theorem gX4_isLift_X4_in : GoodIn wsX4_isLift (va_wsS RX4 81 yX4_in wsX4_in) := goodIn_app (goodIn_of _ (by decide +kernel)) ggX4_isLift_X4_in
theorem dX4_isLift_0 : decode cX4_isLift 0 = .ok (.iload_n 1, 1) := by decide +kernel
theorem dX4_isLift_1 : decode cX4_isLift 1 = .ok (.iconst 0, 1) := by decide +kernel
theorem dX4_isLift_2 : decode cX4_isLift 2 = .ok (.aload_n 0, 1) := by decide +kernel
theorem dX4_isLift_3 : decode cX4_isLift 3 = .ok (.getfield 85, 3) := by decide +kernel
theorem dX4_isLift_6 : decode cX4_isLift 6 = .ok (.iconst 1, 1) := by decide +kernel
theorem dX4_isLift_7 : decode cX4_isLift 7 = .ok (.isub, 1) := by decide +kernel
theorem dX4_isLift_8 : decode cX4_isLift 8 = .ok (.invokestatic 81, 3) := by decide +kernel
theorem dX4_isLift_11 : decode cX4_isLift 11 = .ok (.ireturn, 1) := by decide +kernel
set_option maxRecDepth 20000 in
theorem ggX4_isCall_X4_in : GoodIn wsX4_isCall wsX4_in := goodIn_r _ [5] (by decide +kernel) (by decide +kernel)
set_option maxRecDepth 20000 in
theorem gX4_isCall_X4_in : GoodIn wsX4_isCall (va_wsS RX4 81 yX4_in wsX4_in) := goodIn_app (goodIn_of _ (by decide +kernel)) ggX4_isCall_X4_in
theorem dX4_isCall_0 : decode cX4_isCall 0 = .ok (.iload_n 1, 1) := by decide +kernel
theorem dX4_isCall_1 : decode cX4_isCall 1 = .ok (.iconst 0, 1) := by decide +kernel
theorem dX4_isCall_2 : decode cX4_isCall 2 = .ok (.aload_n 0, 1) := by decide +kernel
theorem dX4_isCall_3 : decode cX4_isCall 3 = .ok (.getfield 88, 3) := by decide +kernel
theorem dX4_isCall_6 : decode cX4_isCall 6 = .ok (.iconst 1, 1) := by decide +kernel
theorem dX4_isCall_7 : decode cX4_isCall 7 = .ok (.isub, 1) := by decide +kernel
theorem dX4_isCall_8 : decode cX4_isCall 8 = .ok (.invokestatic 81, 3) := by decide +kernel
theorem dX4_isCall_11 : decode cX4_isCall 11 = .ok (.ireturn, 1) := by decide +kernel
theorem dX4_far_0 : decode cX4_far 0 = .ok (.iload_n 0, 1) := by decide +kernel
theorem dX4_far_1 : decode cX4_far 1 = .ok (.iload_n 1, 1) := by decide +kernel
theorem dX4_far_2 : decode cX4_far 2 = .ok (.if_icmp .le 9, 3) := by decide +kernel
theorem dX4_far_5 : decode cX4_far 5 = .ok (.iload_n 0, 1) := by decide +kernel
theorem dX4_far_6 : decode cX4_far 6 = .ok (.iload_n 1, 1) := by decide +kernel
theorem dX4_far_7 : decode cX4_far 7 = .ok (.isub, 1) := by decide +kernel
theorem dX4_far_8 : decode cX4_far 8 = .ok (.goto 6, 3) := by decide +kernel
theorem dX4_far_11 : decode cX4_far 11 = .ok (.iload_n 1, 1) := by decide +kernel
theorem dX4_far_12 : decode cX4_far 12 = .ok (.iload_n 0, 1) := by decide +kernel
theorem dX4_far_13 : decode cX4_far 13 = .ok (.isub, 1) := by decide +kernel
theorem dX4_far_14 : decode cX4_far 14 = .ok (.ireturn, 1) := by decide +kernel
set_option maxRecDepth 20000 in
theorem ggX4_lift_X4_isLevel : GoodIn wsX4_lift wsX4_isLevel := goodIn_r _ [9, 10, 11, 12, 8, 13, 14, 15, 16, 17, 18, 19, 20, 21, 22, 23, 24, 25, 26, 27, 28, 29, 30, 31, 32, 33, 34, 35, 36, 37, 38, 39, 40, 41] (by decide +kernel) (by decide +kernel)
set_option maxRecDepth 20000 in
theorem gX4_lift_X4_isLevel : GoodIn wsX4_lift (wsV RX4 91 RX4 yX4_isLevel wsX4_isLevel) := goodIn_app (goodIn_of _ (by decide +kernel)) ggX4_lift_X4_isLevel
set_option maxRecDepth 20000 in
theorem ggX4_lift_X4_in : GoodIn wsX4_lift wsX4_in := goodIn_r _ [13] (by decide +kernel) (by decide +kernel)
set_option maxRecDepth 20000 in
theorem gX4_lift_X4_in : GoodIn wsX4_lift (va_wsS RX4 81 yX4_in wsX4_in) := goodIn_app (goodIn_of _ (by decide +kernel)) ggX4_lift_X4_in
theorem dX4_lift_0 : decode cX4_lift 0 = .ok (.aload_n 0, 1) := by decide +kernel
theorem dX4_lift_1 : decode cX4_lift 1 = .ok (.aload_n 0, 1) := by decide +kernel
theorem dX4_lift_2 : decode cX4_lift 2 = .ok (.iload_n 1, 1) := by decide +kernel
theorem dX4_lift_3 : decode cX4_lift 3 = .ok (.invokevirtual 91, 3) := by decide +kernel
theorem dX4_lift_6 : decode cX4_lift 6 = .ok (.ifCond .eq 13, 3) := by decide +kernel
theorem dX4_lift_9 : decode cX4_lift 9 = .ok (.iload_n 2, 1) := by decide +kernel
theorem dX4_lift_10 : decode cX4_lift 10 = .ok (.iconst 1, 1) := by decide +kernel
theorem dX4_lift_11 : decode cX4_lift 11 = .ok (.bipush 50, 2) := by decide +kernel
theorem dX4_lift_13 : decode cX4_lift 13 = .ok (.invokestatic 81, 3) := by decide +kernel
theorem dX4_lift_16 : decode cX4_lift 16 = .ok (.ifCond .ne 7, 3) := by decide +kernel
theorem dX4_lift_19 : decode cX4_lift 19 = .ok (.iconst 1, 1) := by decide +kernel
theorem dX4_lift_20 : decode cX4_lift 20 = .ok (.goto 16, 3) := by decide +kernel
theorem dX4_lift_23 : decode cX4_lift 23 = .ok (.aload_n 0, 1) := by decide +kernel
theorem dX4_lift_24 : decode cX4_lift 24 = .ok (.getfield 85, 3) := by decide +kernel
theorem dX4_lift_27 : decode cX4_lift 27 = .ok (.iconst 4, 1) := by decide +kernel
theorem dX4_lift_28 : decode cX4_lift 28 = .ok (.if_icmp .ne 7, 3) := by decide +kernel
theorem dX4_lift_31 : decode cX4_lift 31 = .ok (.iconst 2, 1) := by decide +kernel
theorem dX4_lift_32 : decode cX4_lift 32 = .ok (.goto 4, 3) := by decide +kernel
theorem dX4_lift_35 : decode cX4_lift 35 = .ok (.iconst 0, 1) := by decide +kernel
theorem dX4_lift_36 : decode cX4_lift 36 = .ok (.putfield 78, 3) := by decide +kernel
theorem dX4_lift_39 : decode cX4_lift 39 = .ok (.aload_n 0, 1) := by decide +kernel
theorem dX4_lift_40 : decode cX4_lift 40 = .ok (.getfield 78, 3) := by decide +kernel
theorem dX4_lift_43 : decode cX4_lift 43 = .ok (.ifCond .le 5, 3) := by decide +kernel
theorem dX4_lift_46 : decode cX4_lift 46 = .ok (.iconst 0, 1) := by decide +kernel
theorem dX4_lift_47 : decode cX4_lift 47 = .ok (.ireturn, 1) := by decide +kernel
theorem dX4_lift_48 : decode cX4_lift 48 = .ok (.aload_n 0, 1) := by decide +kernel
theorem dX4_lift_49 : decode cX4_lift 49 = .ok (.getfield 7, 3) := by decide +kernel
theorem dX4_lift_52 : decode cX4_lift 52 = .ok (.aload_n 0, 1) := by decide +kernel
theorem dX4_lift_53 : decode cX4_lift 53 = .ok (.getfield 85, 3) := by decide +kernel
theorem dX4_lift_56 : decode cX4_lift 56 = .ok (.iload_n 1, 1) := by decide +kernel
theorem dX4_lift_57 : decode cX4_lift 57 = .ok (.iastore, 1) := by decide +kernel
theorem dX4_lift_58 : decode cX4_lift 58 = .ok (.aload_n 0, 1) := by decide +kernel
theorem dX4_lift_59 : decode cX4_lift 59 = .ok (.getfield 13, 3) := by decide +kernel
theorem dX4_lift_62 : decode cX4_lift 62 = .ok (.aload_n 0, 1) := by decide +kernel
theorem dX4_lift_63 : decode cX4_lift 63 = .ok (.getfield 85, 3) := by decide +kernel
theorem dX4_lift_66 : decode cX4_lift 66 = .ok (.iload_n 2, 1) := by decide +kernel
theorem dX4_lift_67 : decode cX4_lift 67 = .ok (.iastore, 1) := by decide +kernel
theorem dX4_lift_68 : decode cX4_lift 68 = .ok (.aload_n 0, 1) := by decide +kernel
theorem dX4_lift_69 : decode cX4_lift 69 = .ok (.dup, 1) := by decide +kernel
theorem dX4_lift_70 : decode cX4_lift 70 = .ok (.getfield 85, 3) := by decide +kernel
theorem dX4_lift_73 : decode cX4_lift 73 = .ok (.iconst 1, 1) := by decide +kernel
theorem dX4_lift_74 : decode cX4_lift 74 = .ok (.iadd, 1) := by decide +kernel
theorem dX4_lift_75 : decode cX4_lift 75 = .ok (.putfield 85, 3) := by decide +kernel
theorem dX4_lift_78 : decode cX4_lift 78 = .ok (.aload_n 0, 1) := by decide +kernel
theorem dX4_lift_79 : decode cX4_lift 79 = .ok (.getfield 85, 3) := by decide +kernel
theorem dX4_lift_82 : decode cX4_lift 82 = .ok (.iconst 1, 1) := by decide +kernel
theorem dX4_lift_83 : decode cX4_lift 83 = .ok (.isub, 1) := by decide +kernel
theorem dX4_lift_84 : decode cX4_lift 84 = .ok (.ireturn, 1) := by decide +kernel
set_option maxRecDepth 20000 in
theorem ggX4_nearest_X4_far : GoodIn wsX4_nearest wsX4_far := goodIn_r _ [11] (by decide +kernel) (by decide +kernel)
set_option maxRecDepth 20000 in
theorem gX4_nearest_X4_far : GoodIn wsX4_nearest (va_wsS RX4 95 yX4_far wsX4_far) := goodIn_app (goodIn_of _ (by decide +kernel)) ggX4_nearest_X4_far
theorem dX4_nearest_0 : decode cX4_nearest 0 = .ok (.iconst (-1), 1) := by decide +kernel
theorem dX4_nearest_1 : decode cX4_nearest 1 = .ok (.istore_n 2, 1) := by decide +kernel
theorem dX4_nearest_2 : decode cX4_nearest 2 = .ok (.iconst 0, 1) := by decide +kernel
theorem dX4_nearest_3 : decode cX4_nearest 3 = .ok (.istore_n 3, 1) := by decide +kernel
theorem dX4_nearest_4 : decode cX4_nearest 4 = .ok (.iload_n 3, 1) := by decide +kernel
theorem dX4_nearest_5 : decode cX4_nearest 5 = .ok (.aload_n 0, 1) := by decide +kernel
theorem dX4_nearest_6 : decode cX4_nearest 6 = .ok (.getfield 85, 3) := by decide +kernel
theorem dX4_nearest_9 : decode cX4_nearest 9 = .ok (.if_icmp .ge 85, 3) := by decide +kernel
theorem dX4_nearest_12 : decode cX4_nearest 12 = .ok (.aload_n 0, 1) := by decide +kernel
theorem dX4_nearest_13 : decode cX4_nearest 13 = .ok (.getfield 26, 3) := by decide +kernel
theorem dX4_nearest_16 : decode cX4_nearest 16 = .ok (.iload_n 3, 1) := by decide +kernel
theorem dX4_nearest_17 : decode cX4_nearest 17 = .ok (.baload, 1) := by decide +kernel
theorem dX4_nearest_18 : decode cX4_nearest 18 = .ok (.ifCond .ne 70, 3) := by decide +kernel
theorem dX4_nearest_21 : decode cX4_nearest 21 = .ok (.aload_n 0, 1) := by decide +kernel
theorem dX4_nearest_22 : decode cX4_nearest 22 = .ok (.getfield 29, 3) := by decide +kernel
theorem dX4_nearest_25 : decode cX4_nearest 25 = .ok (.iload_n 3, 1) := by decide +kernel
theorem dX4_nearest_26 : decode cX4_nearest 26 = .ok (.baload, 1) := by decide +kernel
theorem dX4_nearest_27 : decode cX4_nearest 27 = .ok (.ifCond .ne 61, 3) := by decide +kernel
theorem dX4_nearest_30 : decode cX4_nearest 30 = .ok (.aload_n 0, 1) := by decide +kernel
theorem dX4_nearest_31 : decode cX4_nearest 31 = .ok (.getfield 13, 3) := by decide +kernel
theorem dX4_nearest_34 : decode cX4_nearest 34 = .ok (.iload_n 3, 1) := by decide +kernel
theorem dX4_nearest_35 : decode cX4_nearest 35 = .ok (.iaload, 1) := by decide +kernel
theorem dX4_nearest_36 : decode cX4_nearest 36 = .ok (.aload_n 0, 1) := by decide +kernel
theorem dX4_nearest_37 : decode cX4_nearest 37 = .ok (.getfield 41, 3) := by decide +kernel
theorem dX4_nearest_40 : decode cX4_nearest 40 = .ok (.iload_n 1, 1) := by decide +kernel
theorem dX4_nearest_41 : decode cX4_nearest 41 = .ok (.iaload, 1) := by decide +kernel
theorem dX4_nearest_42 : decode cX4_nearest 42 = .ok (.if_icmp .ge 6, 3) := by decide +kernel
theorem dX4_nearest_45 : decode cX4_nearest 45 = .ok (.goto 43, 3) := by decide +kernel
theorem dX4_nearest_48 : decode cX4_nearest 48 = .ok (.iload_n 2, 1) := by decide +kernel
theorem dX4_nearest_49 : decode cX4_nearest 49 = .ok (.iconst (-1), 1) := by decide +kernel
theorem dX4_nearest_50 : decode cX4_nearest 50 = .ok (.if_icmp .eq 36, 3) := by decide +kernel
theorem dX4_nearest_53 : decode cX4_nearest 53 = .ok (.aload_n 0, 1) := by decide +kernel
theorem dX4_nearest_54 : decode cX4_nearest 54 = .ok (.getfield 7, 3) := by decide +kernel
theorem dX4_nearest_57 : decode cX4_nearest 57 = .ok (.iload_n 3, 1) := by decide +kernel
theorem dX4_nearest_58 : decode cX4_nearest 58 = .ok (.iaload, 1) := by decide +kernel
theorem dX4_nearest_59 : decode cX4_nearest 59 = .ok (.aload_n 0, 1) := by decide +kernel
theorem dX4_nearest_60 : decode cX4_nearest 60 = .ok (.getfield 32, 3) := by decide +kernel
theorem dX4_nearest_63 : decode cX4_nearest 63 = .ok (.iload_n 1, 1) := by decide +kernel
theorem dX4_nearest_64 : decode cX4_nearest 64 = .ok (.iaload, 1) := by decide +kernel
theorem dX4_nearest_65 : decode cX4_nearest 65 = .ok (.invokestatic 95, 3) := by decide +kernel
theorem dX4_nearest_68 : decode cX4_nearest 68 = .ok (.aload_n 0, 1) := by decide +kernel
theorem dX4_nearest_69 : decode cX4_nearest 69 = .ok (.getfield 7, 3) := by decide +kernel
theorem dX4_nearest_72 : decode cX4_nearest 72 = .ok (.iload_n 2, 1) := by decide +kernel
theorem dX4_nearest_73 : decode cX4_nearest 73 = .ok (.iaload, 1) := by decide +kernel
theorem dX4_nearest_74 : decode cX4_nearest 74 = .ok (.aload_n 0, 1) := by decide +kernel
theorem dX4_nearest_75 : decode cX4_nearest 75 = .ok (.getfield 32, 3) := by decide +kernel
theorem dX4_nearest_78 : decode cX4_nearest 78 = .ok (.iload_n 1, 1) := by decide +kernel
theorem dX4_nearest_79 : decode cX4_nearest 79 = .ok (.iaload, 1) := by decide +kernel
theorem dX4_nearest_80 : decode cX4_nearest 80 = .ok (.invokestatic 95, 3) := by decide +kernel
theorem dX4_nearest_83 : decode cX4_nearest 83 = .ok (.if_icmp .ge 5, 3) := by decide +kernel
theorem dX4_nearest_86 : decode cX4_nearest 86 = .ok (.iload_n 3, 1) := by decide +kernel
theorem dX4_nearest_87 : decode cX4_nearest 87 = .ok (.istore_n 2, 1) := by decide +kernel
theorem dX4_nearest_88 : decode cX4_nearest 88 = .ok (.iinc 3 1, 3) := by decide +kernel
theorem dX4_nearest_91 : decode cX4_nearest 91 = .ok (.goto (-87), 3) := by decide +kernel
theorem dX4_nearest_94 : decode cX4_nearest 94 = .ok (.iload_n 2, 1) := by decide +kernel
theorem dX4_nearest_95 : decode cX4_nearest 95 = .ok (.ireturn, 1) := by decide +kernel
set_option maxRecDepth 20000 in
theorem ggX4_call_X4_isLevel : GoodIn wsX4_call wsX4_isLevel := goodIn_r _ [16, 17, 18, 19, 15, 20, 33, 34, 35, 36, 37, 38, 39, 40, 41, 42, 43, 44, 45, 46, 47, 48, 49, 50, 51, 52, 53, 54, 55, 56, 57, 58, 59, 60] (by decide +kernel) (by decide +kernel)
set_option maxRecDepth 20000 in
theorem gX4_call_X4_isLevel : GoodIn wsX4_call (wsV RX4 91 RX4 yX4_isLevel wsX4_isLevel) := goodIn_app (goodIn_of _ (by decide +kernel)) ggX4_call_X4_isLevel
set_option maxRecDepth 20000 in
theorem ggX4_call_X4_in : GoodIn wsX4_call wsX4_in := goodIn_r _ [20] (by decide +kernel) (by decide +kernel)
set_option maxRecDepth 20000 in
theorem gX4_call_X4_in : GoodIn wsX4_call (va_wsS RX4 81 yX4_in wsX4_in) := goodIn_app (goodIn_of _ (by decide +kernel)) ggX4_call_X4_in
set_option maxRecDepth 20000 in
theorem ggX4_call_X4_nearest : GoodIn wsX4_call wsX4_nearest := goodIn_r _ [24, 25, 26, 27, 28, 6, 29, 3, 30, 31, 15, 32, 33, 34, 35, 36, 37, 38, 39, 40, 41, 42, 43, 44, 45, 46, 47, 48, 49, 50, 51, 52, 53, 54, 55, 56, 57, 58, 59, 60] (by decide +kernel) (by decide +kernel)
set_option maxRecDepth 20000 in
theorem gX4_call_X4_nearest : GoodIn wsX4_call (wsV RX4 102 RX4 yX4_nearest wsX4_nearest) := goodIn_app (goodIn_of _ (by decide +kernel)) ggX4_call_X4_nearest
theorem dX4_call_0 : decode cX4_call 0 = .ok (.aload_n 0, 1) := by decide +kernel
theorem dX4_call_1 : decode cX4_call 1 = .ok (.aload_n 0, 1) := by decide +kernel
theorem dX4_call_2 : decode cX4_call 2 = .ok (.iload_n 1, 1) := by decide +kernel
theorem dX4_call_3 : decode cX4_call 3 = .ok (.invokevirtual 91, 3) := by decide +kernel
theorem dX4_call_6 : decode cX4_call 6 = .ok (.ifCond .eq 36, 3) := by decide +kernel
theorem dX4_call_9 : decode cX4_call 9 = .ok (.aload_n 0, 1) := by decide +kernel
theorem dX4_call_10 : decode cX4_call 10 = .ok (.iload_n 2, 1) := by decide +kernel
theorem dX4_call_11 : decode cX4_call 11 = .ok (.invokevirtual 91, 3) := by decide +kernel
theorem dX4_call_14 : decode cX4_call 14 = .ok (.ifCond .eq 28, 3) := by decide +kernel
theorem dX4_call_17 : decode cX4_call 17 = .ok (.iload_n 1, 1) := by decide +kernel
theorem dX4_call_18 : decode cX4_call 18 = .ok (.iload_n 2, 1) := by decide +kernel
theorem dX4_call_19 : decode cX4_call 19 = .ok (.if_icmp .eq 23, 3) := by decide +kernel
theorem dX4_call_22 : decode cX4_call 22 = .ok (.iload_n 3, 1) := by decide +kernel
theorem dX4_call_23 : decode cX4_call 23 = .ok (.iconst 1, 1) := by decide +kernel
theorem dX4_call_24 : decode cX4_call 24 = .ok (.iconst 3, 1) := by decide +kernel
theorem dX4_call_25 : decode cX4_call 25 = .ok (.invokestatic 81, 3) := by decide +kernel
theorem dX4_call_28 : decode cX4_call 28 = .ok (.ifCond .eq 14, 3) := by decide +kernel
theorem dX4_call_31 : decode cX4_call 31 = .ok (.iload 4, 2) := by decide +kernel
theorem dX4_call_33 : decode cX4_call 33 = .ok (.iconst 1, 1) := by decide +kernel
theorem dX4_call_34 : decode cX4_call 34 = .ok (.bipush 50, 2) := by decide +kernel
theorem dX4_call_36 : decode cX4_call 36 = .ok (.invokestatic 81, 3) := by decide +kernel
theorem dX4_call_39 : decode cX4_call 39 = .ok (.ifCond .ne 7, 3) := by decide +kernel
theorem dX4_call_42 : decode cX4_call 42 = .ok (.iconst 1, 1) := by decide +kernel
theorem dX4_call_43 : decode cX4_call 43 = .ok (.goto 17, 3) := by decide +kernel
theorem dX4_call_46 : decode cX4_call 46 = .ok (.aload_n 0, 1) := by decide +kernel
theorem dX4_call_47 : decode cX4_call 47 = .ok (.getfield 88, 3) := by decide +kernel
theorem dX4_call_50 : decode cX4_call 50 = .ok (.bipush 24, 2) := by decide +kernel
theorem dX4_call_52 : decode cX4_call 52 = .ok (.if_icmp .ne 7, 3) := by decide +kernel
theorem dX4_call_55 : decode cX4_call 55 = .ok (.iconst 2, 1) := by decide +kernel
theorem dX4_call_56 : decode cX4_call 56 = .ok (.goto 4, 3) := by decide +kernel
theorem dX4_call_59 : decode cX4_call 59 = .ok (.iconst 0, 1) := by decide +kernel
theorem dX4_call_60 : decode cX4_call 60 = .ok (.putfield 78, 3) := by decide +kernel
theorem dX4_call_63 : decode cX4_call 63 = .ok (.aload_n 0, 1) := by decide +kernel
theorem dX4_call_64 : decode cX4_call 64 = .ok (.getfield 78, 3) := by decide +kernel
theorem dX4_call_67 : decode cX4_call 67 = .ok (.ifCond .le 5, 3) := by decide +kernel
theorem dX4_call_70 : decode cX4_call 70 = .ok (.iconst 0, 1) := by decide +kernel
theorem dX4_call_71 : decode cX4_call 71 = .ok (.ireturn, 1) := by decide +kernel
theorem dX4_call_72 : decode cX4_call 72 = .ok (.aload_n 0, 1) := by decide +kernel
theorem dX4_call_73 : decode cX4_call 73 = .ok (.getfield 88, 3) := by decide +kernel
theorem dX4_call_76 : decode cX4_call 76 = .ok (.istore 5, 2) := by decide +kernel
theorem dX4_call_78 : decode cX4_call 78 = .ok (.aload_n 0, 1) := by decide +kernel
theorem dX4_call_79 : decode cX4_call 79 = .ok (.dup, 1) := by decide +kernel
theorem dX4_call_80 : decode cX4_call 80 = .ok (.getfield 88, 3) := by decide +kernel
theorem dX4_call_83 : decode cX4_call 83 = .ok (.iconst 1, 1) := by decide +kernel
theorem dX4_call_84 : decode cX4_call 84 = .ok (.iadd, 1) := by decide +kernel
theorem dX4_call_85 : decode cX4_call 85 = .ok (.putfield 88, 3) := by decide +kernel
theorem dX4_call_88 : decode cX4_call 88 = .ok (.aload_n 0, 1) := by decide +kernel
theorem dX4_call_89 : decode cX4_call 89 = .ok (.getfield 32, 3) := by decide +kernel
theorem dX4_call_92 : decode cX4_call 92 = .ok (.iload 5, 2) := by decide +kernel
theorem dX4_call_94 : decode cX4_call 94 = .ok (.iload_n 1, 1) := by decide +kernel
theorem dX4_call_95 : decode cX4_call 95 = .ok (.iastore, 1) := by decide +kernel
theorem dX4_call_96 : decode cX4_call 96 = .ok (.aload_n 0, 1) := by decide +kernel
theorem dX4_call_97 : decode cX4_call 97 = .ok (.getfield 35, 3) := by decide +kernel
theorem dX4_call_100 : decode cX4_call 100 = .ok (.iload 5, 2) := by decide +kernel
theorem dX4_call_102 : decode cX4_call 102 = .ok (.iload_n 2, 1) := by decide +kernel
theorem dX4_call_103 : decode cX4_call 103 = .ok (.iastore, 1) := by decide +kernel
theorem dX4_call_104 : decode cX4_call 104 = .ok (.aload_n 0, 1) := by decide +kernel
theorem dX4_call_105 : decode cX4_call 105 = .ok (.getfield 38, 3) := by decide +kernel
theorem dX4_call_108 : decode cX4_call 108 = .ok (.iload 5, 2) := by decide +kernel
theorem dX4_call_110 : decode cX4_call 110 = .ok (.iload_n 3, 1) := by decide +kernel
theorem dX4_call_111 : decode cX4_call 111 = .ok (.iastore, 1) := by decide +kernel
theorem dX4_call_112 : decode cX4_call 112 = .ok (.aload_n 0, 1) := by decide +kernel
theorem dX4_call_113 : decode cX4_call 113 = .ok (.getfield 41, 3) := by decide +kernel
theorem dX4_call_116 : decode cX4_call 116 = .ok (.iload 5, 2) := by decide +kernel
theorem dX4_call_118 : decode cX4_call 118 = .ok (.iload 4, 2) := by decide +kernel
theorem dX4_call_120 : decode cX4_call 120 = .ok (.iastore, 1) := by decide +kernel
theorem dX4_call_121 : decode cX4_call 121 = .ok (.aload_n 0, 1) := by decide +kernel
theorem dX4_call_122 : decode cX4_call 122 = .ok (.getfield 50, 3) := by decide +kernel
theorem dX4_call_125 : decode cX4_call 125 = .ok (.iload 5, 2) := by decide +kernel
theorem dX4_call_127 : decode cX4_call 127 = .ok (.aload_n 0, 1) := by decide +kernel
theorem dX4_call_128 : decode cX4_call 128 = .ok (.getfield 99, 3) := by decide +kernel
theorem dX4_call_131 : decode cX4_call 131 = .ok (.iastore, 1) := by decide +kernel
theorem dX4_call_132 : decode cX4_call 132 = .ok (.aload_n 0, 1) := by decide +kernel
theorem dX4_call_133 : decode cX4_call 133 = .ok (.getfield 53, 3) := by decide +kernel
theorem dX4_call_136 : decode cX4_call 136 = .ok (.iload 5, 2) := by decide +kernel
theorem dX4_call_138 : decode cX4_call 138 = .ok (.iconst (-1), 1) := by decide +kernel
theorem dX4_call_139 : decode cX4_call 139 = .ok (.iastore, 1) := by decide +kernel
theorem dX4_call_140 : decode cX4_call 140 = .ok (.aload_n 0, 1) := by decide +kernel
theorem dX4_call_141 : decode cX4_call 141 = .ok (.getfield 56, 3) := by decide +kernel
theorem dX4_call_144 : decode cX4_call 144 = .ok (.iload 5, 2) := by decide +kernel
theorem dX4_call_146 : decode cX4_call 146 = .ok (.iconst (-1), 1) := by decide +kernel
theorem dX4_call_147 : decode cX4_call 147 = .ok (.iastore, 1) := by decide +kernel
theorem dX4_call_148 : decode cX4_call 148 = .ok (.aload_n 0, 1) := by decide +kernel
theorem dX4_call_149 : decode cX4_call 149 = .ok (.getfield 47, 3) := by decide +kernel
theorem dX4_call_152 : decode cX4_call 152 = .ok (.iload 5, 2) := by decide +kernel
theorem dX4_call_154 : decode cX4_call 154 = .ok (.aload_n 0, 1) := by decide +kernel
theorem dX4_call_155 : decode cX4_call 155 = .ok (.iload 5, 2) := by decide +kernel
theorem dX4_call_157 : decode cX4_call 157 = .ok (.invokevirtual 102, 3) := by decide +kernel
theorem dX4_call_160 : decode cX4_call 160 = .ok (.iastore, 1) := by decide +kernel
theorem dX4_call_161 : decode cX4_call 161 = .ok (.iload 5, 2) := by decide +kernel
theorem dX4_call_163 : decode cX4_call 163 = .ok (.ireturn, 1) := by decide +kernel
theorem dX4_is_0 : decode cX4_is 0 = .ok (.aload_n 0, 1) := by decide +kernel
theorem dX4_is_1 : decode cX4_is 1 = .ok (.getfield 47, 3) := by decide +kernel
theorem dX4_is_4 : decode cX4_is 4 = .ok (.iload_n 1, 1) := by decide +kernel
theorem dX4_is_5 : decode cX4_is 5 = .ok (.iaload, 1) := by decide +kernel
theorem dX4_is_6 : decode cX4_is 6 = .ok (.iload_n 2, 1) := by decide +kernel
theorem dX4_is_7 : decode cX4_is 7 = .ok (.if_icmp .ne 17, 3) := by decide +kernel
theorem dX4_is_10 : decode cX4_is 10 = .ok (.aload_n 0, 1) := by decide +kernel
theorem dX4_is_11 : decode cX4_is 11 = .ok (.getfield 44, 3) := by decide +kernel
theorem dX4_is_14 : decode cX4_is 14 = .ok (.iload_n 1, 1) := by decide +kernel
theorem dX4_is_15 : decode cX4_is 15 = .ok (.iaload, 1) := by decide +kernel
theorem dX4_is_16 : decode cX4_is 16 = .ok (.iload_n 3, 1) := by decide +kernel
theorem dX4_is_17 : decode cX4_is 17 = .ok (.if_icmp .ne 7, 3) := by decide +kernel
theorem dX4_is_20 : decode cX4_is 20 = .ok (.iconst 1, 1) := by decide +kernel
theorem dX4_is_21 : decode cX4_is 21 = .ok (.goto 4, 3) := by decide +kernel
theorem dX4_is_24 : decode cX4_is 24 = .ok (.iconst 0, 1) := by decide +kernel
theorem dX4_is_25 : decode cX4_is 25 = .ok (.ireturn, 1) := by decide +kernel
set_option maxRecDepth 20000 in
theorem ggX4_aboard_X4_is : GoodIn wsX4_aboard wsX4_is := goodIn_r _ [7, 8, 9, 10, 11, 12, 13, 14, 15, 16, 17, 18, 19, 20, 21, 22, 23, 24, 25, 26, 27, 28, 29, 30, 31, 32, 33, 34, 35, 36, 37] (by decide +kernel) (by decide +kernel)
set_option maxRecDepth 20000 in
theorem gX4_aboard_X4_is : GoodIn wsX4_aboard (wsV RX4 106 RX4 yX4_is wsX4_is) := goodIn_app (goodIn_of _ (by decide +kernel)) ggX4_aboard_X4_is
theorem dX4_aboard_0 : decode cX4_aboard 0 = .ok (.iconst 0, 1) := by decide +kernel
theorem dX4_aboard_1 : decode cX4_aboard 1 = .ok (.istore_n 2, 1) := by decide +kernel
theorem dX4_aboard_2 : decode cX4_aboard 2 = .ok (.iconst 0, 1) := by decide +kernel
theorem dX4_aboard_3 : decode cX4_aboard 3 = .ok (.istore_n 3, 1) := by decide +kernel
theorem dX4_aboard_4 : decode cX4_aboard 4 = .ok (.iload_n 3, 1) := by decide +kernel
theorem dX4_aboard_5 : decode cX4_aboard 5 = .ok (.aload_n 0, 1) := by decide +kernel
theorem dX4_aboard_6 : decode cX4_aboard 6 = .ok (.getfield 88, 3) := by decide +kernel
theorem dX4_aboard_9 : decode cX4_aboard 9 = .ok (.if_icmp .ge 32, 3) := by decide +kernel
theorem dX4_aboard_12 : decode cX4_aboard 12 = .ok (.iload_n 2, 1) := by decide +kernel
theorem dX4_aboard_13 : decode cX4_aboard 13 = .ok (.aload_n 0, 1) := by decide +kernel
theorem dX4_aboard_14 : decode cX4_aboard 14 = .ok (.iload_n 3, 1) := by decide +kernel
theorem dX4_aboard_15 : decode cX4_aboard 15 = .ok (.iload_n 1, 1) := by decide +kernel
theorem dX4_aboard_16 : decode cX4_aboard 16 = .ok (.iconst 1, 1) := by decide +kernel
theorem dX4_aboard_17 : decode cX4_aboard 17 = .ok (.invokevirtual 106, 3) := by decide +kernel
theorem dX4_aboard_20 : decode cX4_aboard 20 = .ok (.ifCond .eq 12, 3) := by decide +kernel
theorem dX4_aboard_23 : decode cX4_aboard 23 = .ok (.aload_n 0, 1) := by decide +kernel
theorem dX4_aboard_24 : decode cX4_aboard 24 = .ok (.getfield 41, 3) := by decide +kernel
theorem dX4_aboard_27 : decode cX4_aboard 27 = .ok (.iload_n 3, 1) := by decide +kernel
theorem dX4_aboard_28 : decode cX4_aboard 28 = .ok (.iaload, 1) := by decide +kernel
theorem dX4_aboard_29 : decode cX4_aboard 29 = .ok (.goto 4, 3) := by decide +kernel
theorem dX4_aboard_32 : decode cX4_aboard 32 = .ok (.iconst 0, 1) := by decide +kernel
theorem dX4_aboard_33 : decode cX4_aboard 33 = .ok (.iadd, 1) := by decide +kernel
theorem dX4_aboard_34 : decode cX4_aboard 34 = .ok (.istore_n 2, 1) := by decide +kernel
theorem dX4_aboard_35 : decode cX4_aboard 35 = .ok (.iinc 3 1, 3) := by decide +kernel
theorem dX4_aboard_38 : decode cX4_aboard 38 = .ok (.goto (-34), 3) := by decide +kernel
theorem dX4_aboard_41 : decode cX4_aboard 41 = .ok (.iload_n 2, 1) := by decide +kernel
theorem dX4_aboard_42 : decode cX4_aboard 42 = .ok (.ireturn, 1) := by decide +kernel
theorem dX4_tell_0 : decode cX4_tell 0 = .ok (.aload_n 0, 1) := by decide +kernel
theorem dX4_tell_1 : decode cX4_tell 1 = .ok (.getfield 59, 3) := by decide +kernel
theorem dX4_tell_4 : decode cX4_tell 4 = .ok (.aload_n 0, 1) := by decide +kernel
theorem dX4_tell_5 : decode cX4_tell 5 = .ok (.getfield 109, 3) := by decide +kernel
theorem dX4_tell_8 : decode cX4_tell 8 = .ok (.aload_n 0, 1) := by decide +kernel
theorem dX4_tell_9 : decode cX4_tell 9 = .ok (.getfield 99, 3) := by decide +kernel
theorem dX4_tell_12 : decode cX4_tell 12 = .ok (.iastore, 1) := by decide +kernel
theorem dX4_tell_13 : decode cX4_tell 13 = .ok (.aload_n 0, 1) := by decide +kernel
theorem dX4_tell_14 : decode cX4_tell 14 = .ok (.getfield 62, 3) := by decide +kernel
theorem dX4_tell_17 : decode cX4_tell 17 = .ok (.aload_n 0, 1) := by decide +kernel
theorem dX4_tell_18 : decode cX4_tell 18 = .ok (.getfield 109, 3) := by decide +kernel
theorem dX4_tell_21 : decode cX4_tell 21 = .ok (.iload_n 1, 1) := by decide +kernel
theorem dX4_tell_22 : decode cX4_tell 22 = .ok (.iastore, 1) := by decide +kernel
theorem dX4_tell_23 : decode cX4_tell 23 = .ok (.aload_n 0, 1) := by decide +kernel
theorem dX4_tell_24 : decode cX4_tell 24 = .ok (.getfield 65, 3) := by decide +kernel
theorem dX4_tell_27 : decode cX4_tell 27 = .ok (.aload_n 0, 1) := by decide +kernel
theorem dX4_tell_28 : decode cX4_tell 28 = .ok (.getfield 109, 3) := by decide +kernel
theorem dX4_tell_31 : decode cX4_tell 31 = .ok (.iload_n 2, 1) := by decide +kernel
theorem dX4_tell_32 : decode cX4_tell 32 = .ok (.iastore, 1) := by decide +kernel
theorem dX4_tell_33 : decode cX4_tell 33 = .ok (.aload_n 0, 1) := by decide +kernel
theorem dX4_tell_34 : decode cX4_tell 34 = .ok (.dup, 1) := by decide +kernel
theorem dX4_tell_35 : decode cX4_tell 35 = .ok (.getfield 109, 3) := by decide +kernel
theorem dX4_tell_38 : decode cX4_tell 38 = .ok (.iconst 1, 1) := by decide +kernel
theorem dX4_tell_39 : decode cX4_tell 39 = .ok (.iadd, 1) := by decide +kernel
theorem dX4_tell_40 : decode cX4_tell 40 = .ok (.putfield 109, 3) := by decide +kernel
theorem dX4_tell_43 : decode cX4_tell 43 = .ok (.return_, 1) := by decide +kernel
set_option maxRecDepth 20000 in
theorem ggX4_stops_X4_is : GoodIn wsX4_stops wsX4_is := goodIn_r _ [11, 12, 13, 14, 15, 16, 17, 18, 19, 20, 21, 22, 23, 24, 25, 26, 27, 28, 29, 30, 31, 32, 33, 34, 35, 36, 37, 38, 39, 40, 41] (by decide +kernel) (by decide +kernel)
set_option maxRecDepth 20000 in
theorem gX4_stops_X4_is : GoodIn wsX4_stops (wsV RX4 106 RX4 yX4_is wsX4_is) := goodIn_app (goodIn_of _ (by decide +kernel)) ggX4_stops_X4_is
theorem dX4_stops_0 : decode cX4_stops 0 = .ok (.iconst 0, 1) := by decide +kernel
theorem dX4_stops_1 : decode cX4_stops 1 = .ok (.istore_n 2, 1) := by decide +kernel
theorem dX4_stops_2 : decode cX4_stops 2 = .ok (.iconst 0, 1) := by decide +kernel
theorem dX4_stops_3 : decode cX4_stops 3 = .ok (.istore_n 3, 1) := by decide +kernel
theorem dX4_stops_4 : decode cX4_stops 4 = .ok (.iload_n 3, 1) := by decide +kernel
theorem dX4_stops_5 : decode cX4_stops 5 = .ok (.aload_n 0, 1) := by decide +kernel
theorem dX4_stops_6 : decode cX4_stops 6 = .ok (.getfield 88, 3) := by decide +kernel
theorem dX4_stops_9 : decode cX4_stops 9 = .ok (.if_icmp .ge 59, 3) := by decide +kernel
theorem dX4_stops_12 : decode cX4_stops 12 = .ok (.aload_n 0, 1) := by decide +kernel
theorem dX4_stops_13 : decode cX4_stops 13 = .ok (.iload_n 3, 1) := by decide +kernel
theorem dX4_stops_14 : decode cX4_stops 14 = .ok (.iload_n 1, 1) := by decide +kernel
theorem dX4_stops_15 : decode cX4_stops 15 = .ok (.iconst 1, 1) := by decide +kernel
theorem dX4_stops_16 : decode cX4_stops 16 = .ok (.invokevirtual 106, 3) := by decide +kernel
theorem dX4_stops_19 : decode cX4_stops 19 = .ok (.ifCond .eq 20, 3) := by decide +kernel
theorem dX4_stops_22 : decode cX4_stops 22 = .ok (.aload_n 0, 1) := by decide +kernel
theorem dX4_stops_23 : decode cX4_stops 23 = .ok (.getfield 35, 3) := by decide +kernel
theorem dX4_stops_26 : decode cX4_stops 26 = .ok (.iload_n 3, 1) := by decide +kernel
theorem dX4_stops_27 : decode cX4_stops 27 = .ok (.iaload, 1) := by decide +kernel
theorem dX4_stops_28 : decode cX4_stops 28 = .ok (.aload_n 0, 1) := by decide +kernel
theorem dX4_stops_29 : decode cX4_stops 29 = .ok (.getfield 7, 3) := by decide +kernel
theorem dX4_stops_32 : decode cX4_stops 32 = .ok (.iload_n 1, 1) := by decide +kernel
theorem dX4_stops_33 : decode cX4_stops 33 = .ok (.iaload, 1) := by decide +kernel
theorem dX4_stops_34 : decode cX4_stops 34 = .ok (.if_icmp .ne 5, 3) := by decide +kernel
theorem dX4_stops_37 : decode cX4_stops 37 = .ok (.iconst 1, 1) := by decide +kernel
theorem dX4_stops_38 : decode cX4_stops 38 = .ok (.ireturn, 1) := by decide +kernel
theorem dX4_stops_39 : decode cX4_stops 39 = .ok (.iload_n 2, 1) := by decide +kernel
theorem dX4_stops_40 : decode cX4_stops 40 = .ok (.aload_n 0, 1) := by decide +kernel
theorem dX4_stops_41 : decode cX4_stops 41 = .ok (.iload_n 3, 1) := by decide +kernel
theorem dX4_stops_42 : decode cX4_stops 42 = .ok (.iload_n 1, 1) := by decide +kernel
theorem dX4_stops_43 : decode cX4_stops 43 = .ok (.iconst 1, 1) := by decide +kernel
theorem dX4_stops_44 : decode cX4_stops 44 = .ok (.invokevirtual 106, 3) := by decide +kernel
theorem dX4_stops_47 : decode cX4_stops 47 = .ok (.ifCond .eq 12, 3) := by decide +kernel
theorem dX4_stops_50 : decode cX4_stops 50 = .ok (.aload_n 0, 1) := by decide +kernel
theorem dX4_stops_51 : decode cX4_stops 51 = .ok (.getfield 41, 3) := by decide +kernel
theorem dX4_stops_54 : decode cX4_stops 54 = .ok (.iload_n 3, 1) := by decide +kernel
theorem dX4_stops_55 : decode cX4_stops 55 = .ok (.iaload, 1) := by decide +kernel
theorem dX4_stops_56 : decode cX4_stops 56 = .ok (.goto 4, 3) := by decide +kernel
theorem dX4_stops_59 : decode cX4_stops 59 = .ok (.iconst 0, 1) := by decide +kernel
theorem dX4_stops_60 : decode cX4_stops 60 = .ok (.iadd, 1) := by decide +kernel
theorem dX4_stops_61 : decode cX4_stops 61 = .ok (.istore_n 2, 1) := by decide +kernel
theorem dX4_stops_62 : decode cX4_stops 62 = .ok (.iinc 3 1, 3) := by decide +kernel
theorem dX4_stops_65 : decode cX4_stops 65 = .ok (.goto (-61), 3) := by decide +kernel
theorem dX4_stops_68 : decode cX4_stops 68 = .ok (.iconst 0, 1) := by decide +kernel
theorem dX4_stops_69 : decode cX4_stops 69 = .ok (.istore_n 3, 1) := by decide +kernel
theorem dX4_stops_70 : decode cX4_stops 70 = .ok (.iload_n 3, 1) := by decide +kernel
theorem dX4_stops_71 : decode cX4_stops 71 = .ok (.aload_n 0, 1) := by decide +kernel
theorem dX4_stops_72 : decode cX4_stops 72 = .ok (.getfield 88, 3) := by decide +kernel
theorem dX4_stops_75 : decode cX4_stops 75 = .ok (.if_icmp .ge 53, 3) := by decide +kernel
theorem dX4_stops_78 : decode cX4_stops 78 = .ok (.aload_n 0, 1) := by decide +kernel
theorem dX4_stops_79 : decode cX4_stops 79 = .ok (.iload_n 3, 1) := by decide +kernel
theorem dX4_stops_80 : decode cX4_stops 80 = .ok (.iload_n 1, 1) := by decide +kernel
theorem dX4_stops_81 : decode cX4_stops 81 = .ok (.iconst 0, 1) := by decide +kernel
theorem dX4_stops_82 : decode cX4_stops 82 = .ok (.invokevirtual 106, 3) := by decide +kernel
theorem dX4_stops_85 : decode cX4_stops 85 = .ok (.ifCond .eq 37, 3) := by decide +kernel
theorem dX4_stops_88 : decode cX4_stops 88 = .ok (.aload_n 0, 1) := by decide +kernel
theorem dX4_stops_89 : decode cX4_stops 89 = .ok (.getfield 32, 3) := by decide +kernel
theorem dX4_stops_92 : decode cX4_stops 92 = .ok (.iload_n 3, 1) := by decide +kernel
theorem dX4_stops_93 : decode cX4_stops 93 = .ok (.iaload, 1) := by decide +kernel
theorem dX4_stops_94 : decode cX4_stops 94 = .ok (.aload_n 0, 1) := by decide +kernel
theorem dX4_stops_95 : decode cX4_stops 95 = .ok (.getfield 7, 3) := by decide +kernel
theorem dX4_stops_98 : decode cX4_stops 98 = .ok (.iload_n 1, 1) := by decide +kernel
theorem dX4_stops_99 : decode cX4_stops 99 = .ok (.iaload, 1) := by decide +kernel
theorem dX4_stops_100 : decode cX4_stops 100 = .ok (.if_icmp .ne 22, 3) := by decide +kernel
theorem dX4_stops_103 : decode cX4_stops 103 = .ok (.iload_n 2, 1) := by decide +kernel
theorem dX4_stops_104 : decode cX4_stops 104 = .ok (.aload_n 0, 1) := by decide +kernel
theorem dX4_stops_105 : decode cX4_stops 105 = .ok (.getfield 41, 3) := by decide +kernel
theorem dX4_stops_108 : decode cX4_stops 108 = .ok (.iload_n 3, 1) := by decide +kernel
theorem dX4_stops_109 : decode cX4_stops 109 = .ok (.iaload, 1) := by decide +kernel
theorem dX4_stops_110 : decode cX4_stops 110 = .ok (.iadd, 1) := by decide +kernel
theorem dX4_stops_111 : decode cX4_stops 111 = .ok (.aload_n 0, 1) := by decide +kernel
theorem dX4_stops_112 : decode cX4_stops 112 = .ok (.getfield 13, 3) := by decide +kernel
theorem dX4_stops_115 : decode cX4_stops 115 = .ok (.iload_n 1, 1) := by decide +kernel
theorem dX4_stops_116 : decode cX4_stops 116 = .ok (.iaload, 1) := by decide +kernel
theorem dX4_stops_117 : decode cX4_stops 117 = .ok (.if_icmp .gt 5, 3) := by decide +kernel
theorem dX4_stops_120 : decode cX4_stops 120 = .ok (.iconst 1, 1) := by decide +kernel
theorem dX4_stops_121 : decode cX4_stops 121 = .ok (.ireturn, 1) := by decide +kernel
theorem dX4_stops_122 : decode cX4_stops 122 = .ok (.iinc 3 1, 3) := by decide +kernel
theorem dX4_stops_125 : decode cX4_stops 125 = .ok (.goto (-55), 3) := by decide +kernel
theorem dX4_stops_128 : decode cX4_stops 128 = .ok (.iconst 0, 1) := by decide +kernel
theorem dX4_stops_129 : decode cX4_stops 129 = .ok (.ireturn, 1) := by decide +kernel
set_option maxRecDepth 20000 in
theorem ggX4_exchange_X4_is : GoodIn wsX4_exchange wsX4_is := goodIn_r _ [17, 18, 4, 31, 32, 33, 34, 35, 36, 37, 38, 39, 40, 41, 42, 43, 44, 45, 46, 47, 48, 49, 50, 51, 52, 53, 54, 55, 56, 57, 58] (by decide +kernel) (by decide +kernel)
set_option maxRecDepth 20000 in
theorem gX4_exchange_X4_is : GoodIn wsX4_exchange (wsV RX4 106 RX4 yX4_is wsX4_is) := goodIn_app (goodIn_of _ (by decide +kernel)) ggX4_exchange_X4_is
set_option maxRecDepth 20000 in
theorem ggX4_exchange_X4_tell : GoodIn wsX4_exchange wsX4_tell := goodIn_r _ [22, 23, 24, 6, 25, 26, 31, 32, 33, 34, 35, 36, 37, 38, 39, 40, 41, 42, 43, 44, 45, 46, 47, 48, 49, 50, 51, 52, 53, 54, 55, 56, 57, 58] (by decide +kernel) (by decide +kernel)
set_option maxRecDepth 20000 in
theorem gX4_exchange_X4_tell : GoodIn wsX4_exchange (wsV RX4 112 RX4 yX4_tell wsX4_tell) := goodIn_app (goodIn_of _ (by decide +kernel)) ggX4_exchange_X4_tell
set_option maxRecDepth 20000 in
theorem ggX4_exchange_X4_aboard : GoodIn wsX4_exchange wsX4_aboard := goodIn_r _ [30, 1, 9, 13, 14, 15, 16, 17, 18, 4, 31, 32, 33, 34, 35, 36, 37, 38, 39, 40, 41, 42, 43, 44, 45, 46, 47, 48, 49, 50, 51, 52, 53, 54, 55, 56, 57, 58] (by decide +kernel) (by decide +kernel)
set_option maxRecDepth 20000 in
theorem gX4_exchange_X4_aboard : GoodIn wsX4_exchange (wsV RX4 116 RX4 yX4_aboard wsX4_aboard) := goodIn_app (goodIn_of _ (by decide +kernel)) ggX4_exchange_X4_aboard
theorem dX4_exchange_0 : decode cX4_exchange 0 = .ok (.iconst 0, 1) := by decide +kernel
theorem dX4_exchange_1 : decode cX4_exchange 1 = .ok (.istore_n 2, 1) := by decide +kernel
theorem dX4_exchange_2 : decode cX4_exchange 2 = .ok (.iload_n 2, 1) := by decide +kernel
theorem dX4_exchange_3 : decode cX4_exchange 3 = .ok (.aload_n 0, 1) := by decide +kernel
theorem dX4_exchange_4 : decode cX4_exchange 4 = .ok (.getfield 88, 3) := by decide +kernel
theorem dX4_exchange_7 : decode cX4_exchange 7 = .ok (.if_icmp .ge 60, 3) := by decide +kernel
theorem dX4_exchange_10 : decode cX4_exchange 10 = .ok (.aload_n 0, 1) := by decide +kernel
theorem dX4_exchange_11 : decode cX4_exchange 11 = .ok (.iload_n 2, 1) := by decide +kernel
theorem dX4_exchange_12 : decode cX4_exchange 12 = .ok (.iload_n 1, 1) := by decide +kernel
theorem dX4_exchange_13 : decode cX4_exchange 13 = .ok (.iconst 1, 1) := by decide +kernel
theorem dX4_exchange_14 : decode cX4_exchange 14 = .ok (.invokevirtual 106, 3) := by decide +kernel
theorem dX4_exchange_17 : decode cX4_exchange 17 = .ok (.ifCond .eq 44, 3) := by decide +kernel
theorem dX4_exchange_20 : decode cX4_exchange 20 = .ok (.aload_n 0, 1) := by decide +kernel
theorem dX4_exchange_21 : decode cX4_exchange 21 = .ok (.getfield 35, 3) := by decide +kernel
theorem dX4_exchange_24 : decode cX4_exchange 24 = .ok (.iload_n 2, 1) := by decide +kernel
theorem dX4_exchange_25 : decode cX4_exchange 25 = .ok (.iaload, 1) := by decide +kernel
theorem dX4_exchange_26 : decode cX4_exchange 26 = .ok (.aload_n 0, 1) := by decide +kernel
theorem dX4_exchange_27 : decode cX4_exchange 27 = .ok (.getfield 7, 3) := by decide +kernel
theorem dX4_exchange_30 : decode cX4_exchange 30 = .ok (.iload_n 1, 1) := by decide +kernel
theorem dX4_exchange_31 : decode cX4_exchange 31 = .ok (.iaload, 1) := by decide +kernel
theorem dX4_exchange_32 : decode cX4_exchange 32 = .ok (.if_icmp .eq 6, 3) := by decide +kernel
theorem dX4_exchange_35 : decode cX4_exchange 35 = .ok (.goto 26, 3) := by decide +kernel
theorem dX4_exchange_38 : decode cX4_exchange 38 = .ok (.aload_n 0, 1) := by decide +kernel
theorem dX4_exchange_39 : decode cX4_exchange 39 = .ok (.getfield 44, 3) := by decide +kernel
theorem dX4_exchange_42 : decode cX4_exchange 42 = .ok (.iload_n 2, 1) := by decide +kernel
theorem dX4_exchange_43 : decode cX4_exchange 43 = .ok (.iconst 2, 1) := by decide +kernel
theorem dX4_exchange_44 : decode cX4_exchange 44 = .ok (.iastore, 1) := by decide +kernel
theorem dX4_exchange_45 : decode cX4_exchange 45 = .ok (.aload_n 0, 1) := by decide +kernel
theorem dX4_exchange_46 : decode cX4_exchange 46 = .ok (.getfield 56, 3) := by decide +kernel
theorem dX4_exchange_49 : decode cX4_exchange 49 = .ok (.iload_n 2, 1) := by decide +kernel
theorem dX4_exchange_50 : decode cX4_exchange 50 = .ok (.aload_n 0, 1) := by decide +kernel
theorem dX4_exchange_51 : decode cX4_exchange 51 = .ok (.getfield 99, 3) := by decide +kernel
theorem dX4_exchange_54 : decode cX4_exchange 54 = .ok (.iastore, 1) := by decide +kernel
theorem dX4_exchange_55 : decode cX4_exchange 55 = .ok (.aload_n 0, 1) := by decide +kernel
theorem dX4_exchange_56 : decode cX4_exchange 56 = .ok (.iload_n 2, 1) := by decide +kernel
theorem dX4_exchange_57 : decode cX4_exchange 57 = .ok (.iconst 1, 1) := by decide +kernel
theorem dX4_exchange_58 : decode cX4_exchange 58 = .ok (.invokevirtual 112, 3) := by decide +kernel
theorem dX4_exchange_61 : decode cX4_exchange 61 = .ok (.iinc 2 1, 3) := by decide +kernel
theorem dX4_exchange_64 : decode cX4_exchange 64 = .ok (.goto (-62), 3) := by decide +kernel
theorem dX4_exchange_67 : decode cX4_exchange 67 = .ok (.iconst 1, 1) := by decide +kernel
theorem dX4_exchange_68 : decode cX4_exchange 68 = .ok (.istore_n 2, 1) := by decide +kernel
theorem dX4_exchange_69 : decode cX4_exchange 69 = .ok (.iload_n 2, 1) := by decide +kernel
theorem dX4_exchange_70 : decode cX4_exchange 70 = .ok (.iconst 4, 1) := by decide +kernel
theorem dX4_exchange_71 : decode cX4_exchange 71 = .ok (.if_icmp .ge 107, 3) := by decide +kernel
theorem dX4_exchange_74 : decode cX4_exchange 74 = .ok (.iconst 0, 1) := by decide +kernel
theorem dX4_exchange_75 : decode cX4_exchange 75 = .ok (.istore_n 3, 1) := by decide +kernel
theorem dX4_exchange_76 : decode cX4_exchange 76 = .ok (.iload_n 3, 1) := by decide +kernel
theorem dX4_exchange_77 : decode cX4_exchange 77 = .ok (.aload_n 0, 1) := by decide +kernel
theorem dX4_exchange_78 : decode cX4_exchange 78 = .ok (.getfield 88, 3) := by decide +kernel
theorem dX4_exchange_81 : decode cX4_exchange 81 = .ok (.if_icmp .ge 91, 3) := by decide +kernel
theorem dX4_exchange_84 : decode cX4_exchange 84 = .ok (.aload_n 0, 1) := by decide +kernel
theorem dX4_exchange_85 : decode cX4_exchange 85 = .ok (.iload_n 3, 1) := by decide +kernel
theorem dX4_exchange_86 : decode cX4_exchange 86 = .ok (.iload_n 1, 1) := by decide +kernel
theorem dX4_exchange_87 : decode cX4_exchange 87 = .ok (.iconst 0, 1) := by decide +kernel
theorem dX4_exchange_88 : decode cX4_exchange 88 = .ok (.invokevirtual 106, 3) := by decide +kernel
theorem dX4_exchange_91 : decode cX4_exchange 91 = .ok (.ifCond .eq 75, 3) := by decide +kernel
theorem dX4_exchange_94 : decode cX4_exchange 94 = .ok (.aload_n 0, 1) := by decide +kernel
theorem dX4_exchange_95 : decode cX4_exchange 95 = .ok (.getfield 32, 3) := by decide +kernel
theorem dX4_exchange_98 : decode cX4_exchange 98 = .ok (.iload_n 3, 1) := by decide +kernel
theorem dX4_exchange_99 : decode cX4_exchange 99 = .ok (.iaload, 1) := by decide +kernel
theorem dX4_exchange_100 : decode cX4_exchange 100 = .ok (.aload_n 0, 1) := by decide +kernel
theorem dX4_exchange_101 : decode cX4_exchange 101 = .ok (.getfield 7, 3) := by decide +kernel
theorem dX4_exchange_104 : decode cX4_exchange 104 = .ok (.iload_n 1, 1) := by decide +kernel
theorem dX4_exchange_105 : decode cX4_exchange 105 = .ok (.iaload, 1) := by decide +kernel
theorem dX4_exchange_106 : decode cX4_exchange 106 = .ok (.if_icmp .ne 60, 3) := by decide +kernel
theorem dX4_exchange_109 : decode cX4_exchange 109 = .ok (.aload_n 0, 1) := by decide +kernel
theorem dX4_exchange_110 : decode cX4_exchange 110 = .ok (.getfield 38, 3) := by decide +kernel
theorem dX4_exchange_113 : decode cX4_exchange 113 = .ok (.iload_n 3, 1) := by decide +kernel
theorem dX4_exchange_114 : decode cX4_exchange 114 = .ok (.iaload, 1) := by decide +kernel
theorem dX4_exchange_115 : decode cX4_exchange 115 = .ok (.iload_n 2, 1) := by decide +kernel
theorem dX4_exchange_116 : decode cX4_exchange 116 = .ok (.if_icmp .ne 50, 3) := by decide +kernel
theorem dX4_exchange_119 : decode cX4_exchange 119 = .ok (.aload_n 0, 1) := by decide +kernel
theorem dX4_exchange_120 : decode cX4_exchange 120 = .ok (.iload_n 1, 1) := by decide +kernel
theorem dX4_exchange_121 : decode cX4_exchange 121 = .ok (.invokevirtual 116, 3) := by decide +kernel
theorem dX4_exchange_124 : decode cX4_exchange 124 = .ok (.aload_n 0, 1) := by decide +kernel
theorem dX4_exchange_125 : decode cX4_exchange 125 = .ok (.getfield 41, 3) := by decide +kernel
theorem dX4_exchange_128 : decode cX4_exchange 128 = .ok (.iload_n 3, 1) := by decide +kernel
theorem dX4_exchange_129 : decode cX4_exchange 129 = .ok (.iaload, 1) := by decide +kernel
theorem dX4_exchange_130 : decode cX4_exchange 130 = .ok (.iadd, 1) := by decide +kernel
theorem dX4_exchange_131 : decode cX4_exchange 131 = .ok (.aload_n 0, 1) := by decide +kernel
theorem dX4_exchange_132 : decode cX4_exchange 132 = .ok (.getfield 13, 3) := by decide +kernel
theorem dX4_exchange_135 : decode cX4_exchange 135 = .ok (.iload_n 1, 1) := by decide +kernel
theorem dX4_exchange_136 : decode cX4_exchange 136 = .ok (.iaload, 1) := by decide +kernel
theorem dX4_exchange_137 : decode cX4_exchange 137 = .ok (.if_icmp .le 6, 3) := by decide +kernel
theorem dX4_exchange_140 : decode cX4_exchange 140 = .ok (.goto 26, 3) := by decide +kernel
theorem dX4_exchange_143 : decode cX4_exchange 143 = .ok (.aload_n 0, 1) := by decide +kernel
theorem dX4_exchange_144 : decode cX4_exchange 144 = .ok (.getfield 44, 3) := by decide +kernel
theorem dX4_exchange_147 : decode cX4_exchange 147 = .ok (.iload_n 3, 1) := by decide +kernel
theorem dX4_exchange_148 : decode cX4_exchange 148 = .ok (.iconst 1, 1) := by decide +kernel
theorem dX4_exchange_149 : decode cX4_exchange 149 = .ok (.iastore, 1) := by decide +kernel
theorem dX4_exchange_150 : decode cX4_exchange 150 = .ok (.aload_n 0, 1) := by decide +kernel
theorem dX4_exchange_151 : decode cX4_exchange 151 = .ok (.getfield 53, 3) := by decide +kernel
theorem dX4_exchange_154 : decode cX4_exchange 154 = .ok (.iload_n 3, 1) := by decide +kernel
theorem dX4_exchange_155 : decode cX4_exchange 155 = .ok (.aload_n 0, 1) := by decide +kernel
theorem dX4_exchange_156 : decode cX4_exchange 156 = .ok (.getfield 99, 3) := by decide +kernel
theorem dX4_exchange_159 : decode cX4_exchange 159 = .ok (.iastore, 1) := by decide +kernel
theorem dX4_exchange_160 : decode cX4_exchange 160 = .ok (.aload_n 0, 1) := by decide +kernel
theorem dX4_exchange_161 : decode cX4_exchange 161 = .ok (.iload_n 3, 1) := by decide +kernel
theorem dX4_exchange_162 : decode cX4_exchange 162 = .ok (.iconst 0, 1) := by decide +kernel
theorem dX4_exchange_163 : decode cX4_exchange 163 = .ok (.invokevirtual 112, 3) := by decide +kernel
theorem dX4_exchange_166 : decode cX4_exchange 166 = .ok (.iinc 3 1, 3) := by decide +kernel
theorem dX4_exchange_169 : decode cX4_exchange 169 = .ok (.goto (-93), 3) := by decide +kernel
theorem dX4_exchange_172 : decode cX4_exchange 172 = .ok (.iinc 2 1, 3) := by decide +kernel
theorem dX4_exchange_175 : decode cX4_exchange 175 = .ok (.goto (-106), 3) := by decide +kernel
theorem dX4_exchange_178 : decode cX4_exchange 178 = .ok (.aload_n 0, 1) := by decide +kernel
theorem dX4_exchange_179 : decode cX4_exchange 179 = .ok (.getfield 19, 3) := by decide +kernel
theorem dX4_exchange_182 : decode cX4_exchange 182 = .ok (.iload_n 1, 1) := by decide +kernel
theorem dX4_exchange_183 : decode cX4_exchange 183 = .ok (.iconst 3, 1) := by decide +kernel
theorem dX4_exchange_184 : decode cX4_exchange 184 = .ok (.iastore, 1) := by decide +kernel
theorem dX4_exchange_185 : decode cX4_exchange 185 = .ok (.return_, 1) := by decide +kernel
set_option maxRecDepth 20000 in
theorem ggX4_hasWork_X4_is : GoodIn wsX4_hasWork wsX4_is := goodIn_r _ [9, 10, 11, 12, 13, 14, 15, 16, 17, 18, 19, 20, 21, 22, 23, 24, 25, 26, 27, 28, 29, 30, 31, 32, 33, 34, 35, 36, 37, 38, 39] (by decide +kernel) (by decide +kernel)
set_option maxRecDepth 20000 in
theorem gX4_hasWork_X4_is : GoodIn wsX4_hasWork (wsV RX4 106 RX4 yX4_is wsX4_is) := goodIn_app (goodIn_of _ (by decide +kernel)) ggX4_hasWork_X4_is
theorem dX4_hasWork_0 : decode cX4_hasWork 0 = .ok (.iconst 0, 1) := by decide +kernel
theorem dX4_hasWork_1 : decode cX4_hasWork 1 = .ok (.istore_n 3, 1) := by decide +kernel
theorem dX4_hasWork_2 : decode cX4_hasWork 2 = .ok (.iload_n 3, 1) := by decide +kernel
theorem dX4_hasWork_3 : decode cX4_hasWork 3 = .ok (.aload_n 0, 1) := by decide +kernel
theorem dX4_hasWork_4 : decode cX4_hasWork 4 = .ok (.getfield 88, 3) := by decide +kernel
theorem dX4_hasWork_7 : decode cX4_hasWork 7 = .ok (.if_icmp .ge 86, 3) := by decide +kernel
theorem dX4_hasWork_10 : decode cX4_hasWork 10 = .ok (.aload_n 0, 1) := by decide +kernel
theorem dX4_hasWork_11 : decode cX4_hasWork 11 = .ok (.iload_n 3, 1) := by decide +kernel
theorem dX4_hasWork_12 : decode cX4_hasWork 12 = .ok (.iload_n 1, 1) := by decide +kernel
theorem dX4_hasWork_13 : decode cX4_hasWork 13 = .ok (.iconst 1, 1) := by decide +kernel
theorem dX4_hasWork_14 : decode cX4_hasWork 14 = .ok (.invokevirtual 106, 3) := by decide +kernel
theorem dX4_hasWork_17 : decode cX4_hasWork 17 = .ok (.ifCond .eq 12, 3) := by decide +kernel
theorem dX4_hasWork_20 : decode cX4_hasWork 20 = .ok (.aload_n 0, 1) := by decide +kernel
theorem dX4_hasWork_21 : decode cX4_hasWork 21 = .ok (.getfield 35, 3) := by decide +kernel
theorem dX4_hasWork_24 : decode cX4_hasWork 24 = .ok (.iload_n 3, 1) := by decide +kernel
theorem dX4_hasWork_25 : decode cX4_hasWork 25 = .ok (.iaload, 1) := by decide +kernel
theorem dX4_hasWork_26 : decode cX4_hasWork 26 = .ok (.goto 28, 3) := by decide +kernel
theorem dX4_hasWork_29 : decode cX4_hasWork 29 = .ok (.aload_n 0, 1) := by decide +kernel
theorem dX4_hasWork_30 : decode cX4_hasWork 30 = .ok (.iload_n 3, 1) := by decide +kernel
theorem dX4_hasWork_31 : decode cX4_hasWork 31 = .ok (.iload_n 1, 1) := by decide +kernel
theorem dX4_hasWork_32 : decode cX4_hasWork 32 = .ok (.iconst 0, 1) := by decide +kernel
theorem dX4_hasWork_33 : decode cX4_hasWork 33 = .ok (.invokevirtual 106, 3) := by decide +kernel
theorem dX4_hasWork_36 : decode cX4_hasWork 36 = .ok (.ifCond .eq 12, 3) := by decide +kernel
theorem dX4_hasWork_39 : decode cX4_hasWork 39 = .ok (.aload_n 0, 1) := by decide +kernel
theorem dX4_hasWork_40 : decode cX4_hasWork 40 = .ok (.getfield 32, 3) := by decide +kernel
theorem dX4_hasWork_43 : decode cX4_hasWork 43 = .ok (.iload_n 3, 1) := by decide +kernel
theorem dX4_hasWork_44 : decode cX4_hasWork 44 = .ok (.iaload, 1) := by decide +kernel
theorem dX4_hasWork_45 : decode cX4_hasWork 45 = .ok (.goto 9, 3) := by decide +kernel
theorem dX4_hasWork_48 : decode cX4_hasWork 48 = .ok (.aload_n 0, 1) := by decide +kernel
theorem dX4_hasWork_49 : decode cX4_hasWork 49 = .ok (.getfield 7, 3) := by decide +kernel
theorem dX4_hasWork_52 : decode cX4_hasWork 52 = .ok (.iload_n 1, 1) := by decide +kernel
theorem dX4_hasWork_53 : decode cX4_hasWork 53 = .ok (.iaload, 1) := by decide +kernel
theorem dX4_hasWork_54 : decode cX4_hasWork 54 = .ok (.istore 4, 2) := by decide +kernel
theorem dX4_hasWork_56 : decode cX4_hasWork 56 = .ok (.iload_n 2, 1) := by decide +kernel
theorem dX4_hasWork_57 : decode cX4_hasWork 57 = .ok (.ifCond .le 17, 3) := by decide +kernel
theorem dX4_hasWork_60 : decode cX4_hasWork 60 = .ok (.iload 4, 2) := by decide +kernel
theorem dX4_hasWork_62 : decode cX4_hasWork 62 = .ok (.aload_n 0, 1) := by decide +kernel
theorem dX4_hasWork_63 : decode cX4_hasWork 63 = .ok (.getfield 7, 3) := by decide +kernel
theorem dX4_hasWork_66 : decode cX4_hasWork 66 = .ok (.iload_n 1, 1) := by decide +kernel
theorem dX4_hasWork_67 : decode cX4_hasWork 67 = .ok (.iaload, 1) := by decide +kernel
theorem dX4_hasWork_68 : decode cX4_hasWork 68 = .ok (.if_icmp .le 19, 3) := by decide +kernel
theorem dX4_hasWork_71 : decode cX4_hasWork 71 = .ok (.goto 14, 3) := by decide +kernel
theorem dX4_hasWork_74 : decode cX4_hasWork 74 = .ok (.iload 4, 2) := by decide +kernel
theorem dX4_hasWork_76 : decode cX4_hasWork 76 = .ok (.aload_n 0, 1) := by decide +kernel
theorem dX4_hasWork_77 : decode cX4_hasWork 77 = .ok (.getfield 7, 3) := by decide +kernel
theorem dX4_hasWork_80 : decode cX4_hasWork 80 = .ok (.iload_n 1, 1) := by decide +kernel
theorem dX4_hasWork_81 : decode cX4_hasWork 81 = .ok (.iaload, 1) := by decide +kernel
theorem dX4_hasWork_82 : decode cX4_hasWork 82 = .ok (.if_icmp .ge 5, 3) := by decide +kernel
theorem dX4_hasWork_85 : decode cX4_hasWork 85 = .ok (.iconst 1, 1) := by decide +kernel
theorem dX4_hasWork_86 : decode cX4_hasWork 86 = .ok (.ireturn, 1) := by decide +kernel
theorem dX4_hasWork_87 : decode cX4_hasWork 87 = .ok (.iinc 3 1, 3) := by decide +kernel
theorem dX4_hasWork_90 : decode cX4_hasWork 90 = .ok (.goto (-88), 3) := by decide +kernel
theorem dX4_hasWork_93 : decode cX4_hasWork 93 = .ok (.iconst 0, 1) := by decide +kernel
theorem dX4_hasWork_94 : decode cX4_hasWork 94 = .ok (.ireturn, 1) := by decide +kernel
set_option maxRecDepth 20000 in
theorem ggX4_second_X4_stops : GoodIn wsX4_second wsX4_stops := goodIn_r _ [10, 11, 12, 4, 13, 14, 15, 16, 17, 18, 9, 19, 20, 21, 46, 47, 48, 49, 50, 51, 52, 53, 54, 55, 56, 57, 58, 59, 60, 61, 62, 63, 64, 65, 66, 67, 68, 69, 70, 71, 72, 73] (by decide +kernel) (by decide +kernel)
set_option maxRecDepth 20000 in
theorem gX4_second_X4_stops : GoodIn wsX4_second (wsV RX4 119 RX4 yX4_stops wsX4_stops) := goodIn_app (goodIn_of _ (by decide +kernel)) ggX4_second_X4_stops
set_option maxRecDepth 20000 in
theorem ggX4_second_X4_exchange : GoodIn wsX4_second wsX4_exchange := goodIn_r _ [25, 11, 12, 4, 21, 26, 27, 14, 28, 13, 15, 29, 1, 16, 17, 18, 9, 19, 20, 30, 31, 32, 33, 34, 35, 36, 37, 38, 39, 40, 41, 46, 47, 48, 49, 50, 51, 52, 53, 54, 55, 56, 57, 58, 59, 60, 61, 62, 63, 64, 65, 66, 67, 68, 69, 70, 71, 72, 73] (by decide +kernel) (by decide +kernel)
set_option maxRecDepth 20000 in
theorem gX4_second_X4_exchange : GoodIn wsX4_second (wsV RX4 122 RX4 yX4_exchange wsX4_exchange) := goodIn_app (goodIn_of _ (by decide +kernel)) ggX4_second_X4_exchange
set_option maxRecDepth 20000 in
theorem ggX4_second_X4_hasWork : GoodIn wsX4_second wsX4_hasWork := goodIn_r _ [45, 11, 12, 14, 4, 16, 17, 18, 9, 19, 20, 21, 46, 47, 48, 49, 50, 51, 52, 53, 54, 55, 56, 57, 58, 59, 60, 61, 62, 63, 64, 65, 66, 67, 68, 69, 70, 71, 72, 73] (by decide +kernel) (by decide +kernel)
set_option maxRecDepth 20000 in
theorem gX4_second_X4_hasWork : GoodIn wsX4_second (wsV RX4 126 RX4 yX4_hasWork wsX4_hasWork) := goodIn_app (goodIn_of _ (by decide +kernel)) ggX4_second_X4_hasWork
theorem dX4_second_0 : decode cX4_second 0 = .ok (.aload_n 0, 1) := by decide +kernel
theorem dX4_second_1 : decode cX4_second 1 = .ok (.getfield 19, 3) := by decide +kernel
theorem dX4_second_4 : decode cX4_second 4 = .ok (.iload_n 1, 1) := by decide +kernel
theorem dX4_second_5 : decode cX4_second 5 = .ok (.iaload, 1) := by decide +kernel
theorem dX4_second_6 : decode cX4_second 6 = .ok (.ifCond .le 37, 3) := by decide +kernel
theorem dX4_second_9 : decode cX4_second 9 = .ok (.aload_n 0, 1) := by decide +kernel
theorem dX4_second_10 : decode cX4_second 10 = .ok (.getfield 19, 3) := by decide +kernel
theorem dX4_second_13 : decode cX4_second 13 = .ok (.iload_n 1, 1) := by decide +kernel
theorem dX4_second_14 : decode cX4_second 14 = .ok (.dup2, 1) := by decide +kernel
theorem dX4_second_15 : decode cX4_second 15 = .ok (.iaload, 1) := by decide +kernel
theorem dX4_second_16 : decode cX4_second 16 = .ok (.aload_n 0, 1) := by decide +kernel
theorem dX4_second_17 : decode cX4_second 17 = .ok (.getfield 22, 3) := by decide +kernel
theorem dX4_second_20 : decode cX4_second 20 = .ok (.iload_n 1, 1) := by decide +kernel
theorem dX4_second_21 : decode cX4_second 21 = .ok (.baload, 1) := by decide +kernel
theorem dX4_second_22 : decode cX4_second 22 = .ok (.ifCond .eq 17, 3) := by decide +kernel
theorem dX4_second_25 : decode cX4_second 25 = .ok (.aload_n 0, 1) := by decide +kernel
theorem dX4_second_26 : decode cX4_second 26 = .ok (.getfield 19, 3) := by decide +kernel
theorem dX4_second_29 : decode cX4_second 29 = .ok (.iload_n 1, 1) := by decide +kernel
theorem dX4_second_30 : decode cX4_second 30 = .ok (.iaload, 1) := by decide +kernel
theorem dX4_second_31 : decode cX4_second 31 = .ok (.iconst 1, 1) := by decide +kernel
theorem dX4_second_32 : decode cX4_second 32 = .ok (.if_icmp .ne 7, 3) := by decide +kernel
theorem dX4_second_35 : decode cX4_second 35 = .ok (.iconst 0, 1) := by decide +kernel
theorem dX4_second_36 : decode cX4_second 36 = .ok (.goto 4, 3) := by decide +kernel
theorem dX4_second_39 : decode cX4_second 39 = .ok (.iconst 1, 1) := by decide +kernel
theorem dX4_second_40 : decode cX4_second 40 = .ok (.isub, 1) := by decide +kernel
theorem dX4_second_41 : decode cX4_second 41 = .ok (.iastore, 1) := by decide +kernel
theorem dX4_second_42 : decode cX4_second 42 = .ok (.return_, 1) := by decide +kernel
theorem dX4_second_43 : decode cX4_second 43 = .ok (.aload_n 0, 1) := by decide +kernel
theorem dX4_second_44 : decode cX4_second 44 = .ok (.iload_n 1, 1) := by decide +kernel
theorem dX4_second_45 : decode cX4_second 45 = .ok (.invokevirtual 119, 3) := by decide +kernel
theorem dX4_second_48 : decode cX4_second 48 = .ok (.ifCond .eq 9, 3) := by decide +kernel
theorem dX4_second_51 : decode cX4_second 51 = .ok (.aload_n 0, 1) := by decide +kernel
theorem dX4_second_52 : decode cX4_second 52 = .ok (.iload_n 1, 1) := by decide +kernel
theorem dX4_second_53 : decode cX4_second 53 = .ok (.invokevirtual 122, 3) := by decide +kernel
theorem dX4_second_56 : decode cX4_second 56 = .ok (.return_, 1) := by decide +kernel
theorem dX4_second_57 : decode cX4_second 57 = .ok (.aload_n 0, 1) := by decide +kernel
theorem dX4_second_58 : decode cX4_second 58 = .ok (.iload_n 1, 1) := by decide +kernel
theorem dX4_second_59 : decode cX4_second 59 = .ok (.iconst 1, 1) := by decide +kernel
theorem dX4_second_60 : decode cX4_second 60 = .ok (.invokevirtual 126, 3) := by decide +kernel
theorem dX4_second_63 : decode cX4_second 63 = .ok (.istore_n 2, 1) := by decide +kernel
theorem dX4_second_64 : decode cX4_second 64 = .ok (.aload_n 0, 1) := by decide +kernel
theorem dX4_second_65 : decode cX4_second 65 = .ok (.iload_n 1, 1) := by decide +kernel
theorem dX4_second_66 : decode cX4_second 66 = .ok (.iconst (-1), 1) := by decide +kernel
theorem dX4_second_67 : decode cX4_second 67 = .ok (.invokevirtual 126, 3) := by decide +kernel
theorem dX4_second_70 : decode cX4_second 70 = .ok (.istore_n 3, 1) := by decide +kernel
theorem dX4_second_71 : decode cX4_second 71 = .ok (.iload_n 2, 1) := by decide +kernel
theorem dX4_second_72 : decode cX4_second 72 = .ok (.ifCond .ne 15, 3) := by decide +kernel
theorem dX4_second_75 : decode cX4_second 75 = .ok (.iload_n 3, 1) := by decide +kernel
theorem dX4_second_76 : decode cX4_second 76 = .ok (.ifCond .ne 11, 3) := by decide +kernel
theorem dX4_second_79 : decode cX4_second 79 = .ok (.aload_n 0, 1) := by decide +kernel
theorem dX4_second_80 : decode cX4_second 80 = .ok (.getfield 16, 3) := by decide +kernel
theorem dX4_second_83 : decode cX4_second 83 = .ok (.iload_n 1, 1) := by decide +kernel
theorem dX4_second_84 : decode cX4_second 84 = .ok (.iconst 0, 1) := by decide +kernel
theorem dX4_second_85 : decode cX4_second 85 = .ok (.iastore, 1) := by decide +kernel
theorem dX4_second_86 : decode cX4_second 86 = .ok (.return_, 1) := by decide +kernel
theorem dX4_second_87 : decode cX4_second 87 = .ok (.aload_n 0, 1) := by decide +kernel
theorem dX4_second_88 : decode cX4_second 88 = .ok (.getfield 16, 3) := by decide +kernel
theorem dX4_second_91 : decode cX4_second 91 = .ok (.iload_n 1, 1) := by decide +kernel
theorem dX4_second_92 : decode cX4_second 92 = .ok (.iaload, 1) := by decide +kernel
theorem dX4_second_93 : decode cX4_second 93 = .ok (.iconst 1, 1) := by decide +kernel
theorem dX4_second_94 : decode cX4_second 94 = .ok (.if_icmp .ne 7, 3) := by decide +kernel
theorem dX4_second_97 : decode cX4_second 97 = .ok (.iload_n 2, 1) := by decide +kernel
theorem dX4_second_98 : decode cX4_second 98 = .ok (.ifCond .ne 32, 3) := by decide +kernel
theorem dX4_second_101 : decode cX4_second 101 = .ok (.aload_n 0, 1) := by decide +kernel
theorem dX4_second_102 : decode cX4_second 102 = .ok (.getfield 16, 3) := by decide +kernel
theorem dX4_second_105 : decode cX4_second 105 = .ok (.iload_n 1, 1) := by decide +kernel
theorem dX4_second_106 : decode cX4_second 106 = .ok (.aload_n 0, 1) := by decide +kernel
theorem dX4_second_107 : decode cX4_second 107 = .ok (.getfield 16, 3) := by decide +kernel
theorem dX4_second_110 : decode cX4_second 110 = .ok (.iload_n 1, 1) := by decide +kernel
theorem dX4_second_111 : decode cX4_second 111 = .ok (.iaload, 1) := by decide +kernel
theorem dX4_second_112 : decode cX4_second 112 = .ok (.iconst (-1), 1) := by decide +kernel
theorem dX4_second_113 : decode cX4_second 113 = .ok (.if_icmp .ne 7, 3) := by decide +kernel
theorem dX4_second_116 : decode cX4_second 116 = .ok (.iload_n 3, 1) := by decide +kernel
theorem dX4_second_117 : decode cX4_second 117 = .ok (.ifCond .ne 7, 3) := by decide +kernel
theorem dX4_second_120 : decode cX4_second 120 = .ok (.iload_n 2, 1) := by decide +kernel
theorem dX4_second_121 : decode cX4_second 121 = .ok (.ifCond .ne 7, 3) := by decide +kernel
theorem dX4_second_124 : decode cX4_second 124 = .ok (.iconst (-1), 1) := by decide +kernel
theorem dX4_second_125 : decode cX4_second 125 = .ok (.goto 4, 3) := by decide +kernel
theorem dX4_second_128 : decode cX4_second 128 = .ok (.iconst 1, 1) := by decide +kernel
theorem dX4_second_129 : decode cX4_second 129 = .ok (.iastore, 1) := by decide +kernel
theorem dX4_second_130 : decode cX4_second 130 = .ok (.aload_n 0, 1) := by decide +kernel
theorem dX4_second_131 : decode cX4_second 131 = .ok (.getfield 7, 3) := by decide +kernel
theorem dX4_second_134 : decode cX4_second 134 = .ok (.iload_n 1, 1) := by decide +kernel
theorem dX4_second_135 : decode cX4_second 135 = .ok (.dup2, 1) := by decide +kernel
theorem dX4_second_136 : decode cX4_second 136 = .ok (.iaload, 1) := by decide +kernel
theorem dX4_second_137 : decode cX4_second 137 = .ok (.aload_n 0, 1) := by decide +kernel
theorem dX4_second_138 : decode cX4_second 138 = .ok (.getfield 16, 3) := by decide +kernel
theorem dX4_second_141 : decode cX4_second 141 = .ok (.iload_n 1, 1) := by decide +kernel
theorem dX4_second_142 : decode cX4_second 142 = .ok (.iaload, 1) := by decide +kernel
theorem dX4_second_143 : decode cX4_second 143 = .ok (.iadd, 1) := by decide +kernel
theorem dX4_second_144 : decode cX4_second 144 = .ok (.iastore, 1) := by decide +kernel
theorem dX4_second_145 : decode cX4_second 145 = .ok (.aload_n 0, 1) := by decide +kernel
theorem dX4_second_146 : decode cX4_second 146 = .ok (.dup, 1) := by decide +kernel
theorem dX4_second_147 : decode cX4_second 147 = .ok (.getfield 130, 3) := by decide +kernel
theorem dX4_second_150 : decode cX4_second 150 = .ok (.iconst 1, 1) := by decide +kernel
theorem dX4_second_151 : decode cX4_second 151 = .ok (.iadd, 1) := by decide +kernel
theorem dX4_second_152 : decode cX4_second 152 = .ok (.putfield 130, 3) := by decide +kernel
theorem dX4_second_155 : decode cX4_second 155 = .ok (.return_, 1) := by decide +kernel
set_option maxRecDepth 20000 in
theorem ggX4_step_X4_in : GoodIn wsX4_step wsX4_in := goodIn_r _ [9] (by decide +kernel) (by decide +kernel)
set_option maxRecDepth 20000 in
theorem gX4_step_X4_in : GoodIn wsX4_step (va_wsS RX4 81 yX4_in wsX4_in) := goodIn_app (goodIn_of _ (by decide +kernel)) ggX4_step_X4_in
set_option maxRecDepth 20000 in
theorem ggX4_step_X4_second : GoodIn wsX4_step wsX4_second := goodIn_r _ [13, 14, 15, 16, 17, 18, 19, 20, 21, 8, 22, 23, 24, 25, 26, 27, 28, 29, 30, 31, 32, 33, 34, 35, 36, 37, 38, 3, 39, 40, 41, 42, 43, 44, 45, 2, 46, 47, 48, 49, 50, 51, 52, 53, 54, 55, 56, 57, 58, 59, 60, 61, 62, 63, 64, 65, 66, 67, 68, 69, 70, 71, 72, 73, 74, 75, 76, 77, 78, 79, 80, 81, 82, 83] (by decide +kernel) (by decide +kernel)
set_option maxRecDepth 20000 in
theorem gX4_step_X4_second : GoodIn wsX4_step (wsV RX4 133 RX4 yX4_second wsX4_second) := goodIn_app (goodIn_of _ (by decide +kernel)) ggX4_step_X4_second
theorem dX4_step_0 : decode cX4_step 0 = .ok (.aload_n 0, 1) := by decide +kernel
theorem dX4_step_1 : decode cX4_step 1 = .ok (.iload_n 1, 1) := by decide +kernel
theorem dX4_step_2 : decode cX4_step 2 = .ok (.iconst 0, 1) := by decide +kernel
theorem dX4_step_3 : decode cX4_step 3 = .ok (.sipush 200, 3) := by decide +kernel
theorem dX4_step_6 : decode cX4_step 6 = .ok (.invokestatic 81, 3) := by decide +kernel
theorem dX4_step_9 : decode cX4_step 9 = .ok (.ifCond .eq 7, 3) := by decide +kernel
theorem dX4_step_12 : decode cX4_step 12 = .ok (.iconst 0, 1) := by decide +kernel
theorem dX4_step_13 : decode cX4_step 13 = .ok (.goto 4, 3) := by decide +kernel
theorem dX4_step_16 : decode cX4_step 16 = .ok (.iconst 1, 1) := by decide +kernel
theorem dX4_step_17 : decode cX4_step 17 = .ok (.putfield 78, 3) := by decide +kernel
theorem dX4_step_20 : decode cX4_step 20 = .ok (.aload_n 0, 1) := by decide +kernel
theorem dX4_step_21 : decode cX4_step 21 = .ok (.getfield 78, 3) := by decide +kernel
theorem dX4_step_24 : decode cX4_step 24 = .ok (.ifCond .le 5, 3) := by decide +kernel
theorem dX4_step_27 : decode cX4_step 27 = .ok (.iconst 0, 1) := by decide +kernel
theorem dX4_step_28 : decode cX4_step 28 = .ok (.ireturn, 1) := by decide +kernel
theorem dX4_step_29 : decode cX4_step 29 = .ok (.aload_n 0, 1) := by decide +kernel
theorem dX4_step_30 : decode cX4_step 30 = .ok (.getfield 109, 3) := by decide +kernel
theorem dX4_step_33 : decode cX4_step 33 = .ok (.istore_n 2, 1) := by decide +kernel
theorem dX4_step_34 : decode cX4_step 34 = .ok (.iconst 0, 1) := by decide +kernel
theorem dX4_step_35 : decode cX4_step 35 = .ok (.istore_n 3, 1) := by decide +kernel
theorem dX4_step_36 : decode cX4_step 36 = .ok (.iload_n 3, 1) := by decide +kernel
theorem dX4_step_37 : decode cX4_step 37 = .ok (.iload_n 1, 1) := by decide +kernel
theorem dX4_step_38 : decode cX4_step 38 = .ok (.if_icmp .ge 53, 3) := by decide +kernel
theorem dX4_step_41 : decode cX4_step 41 = .ok (.aload_n 0, 1) := by decide +kernel
theorem dX4_step_42 : decode cX4_step 42 = .ok (.dup, 1) := by decide +kernel
theorem dX4_step_43 : decode cX4_step 43 = .ok (.getfield 99, 3) := by decide +kernel
theorem dX4_step_46 : decode cX4_step 46 = .ok (.iconst 1, 1) := by decide +kernel
theorem dX4_step_47 : decode cX4_step 47 = .ok (.iadd, 1) := by decide +kernel
theorem dX4_step_48 : decode cX4_step 48 = .ok (.putfield 99, 3) := by decide +kernel
theorem dX4_step_51 : decode cX4_step 51 = .ok (.iconst 0, 1) := by decide +kernel
theorem dX4_step_52 : decode cX4_step 52 = .ok (.istore 4, 2) := by decide +kernel
theorem dX4_step_54 : decode cX4_step 54 = .ok (.iload 4, 2) := by decide +kernel
theorem dX4_step_56 : decode cX4_step 56 = .ok (.aload_n 0, 1) := by decide +kernel
theorem dX4_step_57 : decode cX4_step 57 = .ok (.getfield 85, 3) := by decide +kernel
theorem dX4_step_60 : decode cX4_step 60 = .ok (.if_icmp .ge 25, 3) := by decide +kernel
theorem dX4_step_63 : decode cX4_step 63 = .ok (.aload_n 0, 1) := by decide +kernel
theorem dX4_step_64 : decode cX4_step 64 = .ok (.getfield 26, 3) := by decide +kernel
theorem dX4_step_67 : decode cX4_step 67 = .ok (.iload 4, 2) := by decide +kernel
theorem dX4_step_69 : decode cX4_step 69 = .ok (.baload, 1) := by decide +kernel
theorem dX4_step_70 : decode cX4_step 70 = .ok (.ifCond .ne 9, 3) := by decide +kernel
theorem dX4_step_73 : decode cX4_step 73 = .ok (.aload_n 0, 1) := by decide +kernel
theorem dX4_step_74 : decode cX4_step 74 = .ok (.iload 4, 2) := by decide +kernel
theorem dX4_step_76 : decode cX4_step 76 = .ok (.invokevirtual 133, 3) := by decide +kernel
theorem dX4_step_79 : decode cX4_step 79 = .ok (.iinc 4 1, 3) := by decide +kernel
theorem dX4_step_82 : decode cX4_step 82 = .ok (.goto (-28), 3) := by decide +kernel
theorem dX4_step_85 : decode cX4_step 85 = .ok (.iinc 3 1, 3) := by decide +kernel
theorem dX4_step_88 : decode cX4_step 88 = .ok (.goto (-52), 3) := by decide +kernel
theorem dX4_step_91 : decode cX4_step 91 = .ok (.aload_n 0, 1) := by decide +kernel
theorem dX4_step_92 : decode cX4_step 92 = .ok (.getfield 109, 3) := by decide +kernel
theorem dX4_step_95 : decode cX4_step 95 = .ok (.iload_n 2, 1) := by decide +kernel
theorem dX4_step_96 : decode cX4_step 96 = .ok (.isub, 1) := by decide +kernel
theorem dX4_step_97 : decode cX4_step 97 = .ok (.ireturn, 1) := by decide +kernel
set_option maxRecDepth 20000 in
theorem ggX4_event_X4_in : GoodIn wsX4_event wsX4_in := goodIn_r _ [10] (by decide +kernel) (by decide +kernel)
set_option maxRecDepth 20000 in
theorem gX4_event_X4_in : GoodIn wsX4_event (va_wsS RX4 81 yX4_in wsX4_in) := goodIn_app (goodIn_of _ (by decide +kernel)) ggX4_event_X4_in
theorem dX4_event_0 : decode cX4_event 0 = .ok (.aload_n 0, 1) := by decide +kernel
theorem dX4_event_1 : decode cX4_event 1 = .ok (.iload_n 1, 1) := by decide +kernel
theorem dX4_event_2 : decode cX4_event 2 = .ok (.iconst 0, 1) := by decide +kernel
theorem dX4_event_3 : decode cX4_event 3 = .ok (.aload_n 0, 1) := by decide +kernel
theorem dX4_event_4 : decode cX4_event 4 = .ok (.getfield 109, 3) := by decide +kernel
theorem dX4_event_7 : decode cX4_event 7 = .ok (.iconst 1, 1) := by decide +kernel
theorem dX4_event_8 : decode cX4_event 8 = .ok (.isub, 1) := by decide +kernel
theorem dX4_event_9 : decode cX4_event 9 = .ok (.invokestatic 81, 3) := by decide +kernel
theorem dX4_event_12 : decode cX4_event 12 = .ok (.ifCond .ne 7, 3) := by decide +kernel
theorem dX4_event_15 : decode cX4_event 15 = .ok (.iconst 1, 1) := by decide +kernel
theorem dX4_event_16 : decode cX4_event 16 = .ok (.goto 17, 3) := by decide +kernel
theorem dX4_event_19 : decode cX4_event 19 = .ok (.iload_n 2, 1) := by decide +kernel
theorem dX4_event_20 : decode cX4_event 20 = .ok (.iconst 0, 1) := by decide +kernel
theorem dX4_event_21 : decode cX4_event 21 = .ok (.iconst 3, 1) := by decide +kernel
theorem dX4_event_22 : decode cX4_event 22 = .ok (.invokestatic 81, 3) := by decide +kernel
theorem dX4_event_25 : decode cX4_event 25 = .ok (.ifCond .ne 7, 3) := by decide +kernel
theorem dX4_event_28 : decode cX4_event 28 = .ok (.iconst 2, 1) := by decide +kernel
theorem dX4_event_29 : decode cX4_event 29 = .ok (.goto 4, 3) := by decide +kernel
theorem dX4_event_32 : decode cX4_event 32 = .ok (.iconst 0, 1) := by decide +kernel
theorem dX4_event_33 : decode cX4_event 33 = .ok (.putfield 78, 3) := by decide +kernel
theorem dX4_event_36 : decode cX4_event 36 = .ok (.aload_n 0, 1) := by decide +kernel
theorem dX4_event_37 : decode cX4_event 37 = .ok (.getfield 78, 3) := by decide +kernel
theorem dX4_event_40 : decode cX4_event 40 = .ok (.ifCond .le 5, 3) := by decide +kernel
theorem dX4_event_43 : decode cX4_event 43 = .ok (.iconst 0, 1) := by decide +kernel
theorem dX4_event_44 : decode cX4_event 44 = .ok (.ireturn, 1) := by decide +kernel
theorem dX4_event_45 : decode cX4_event 45 = .ok (.iload_n 2, 1) := by decide +kernel
theorem dX4_event_46 : decode cX4_event 46 = .ok (.ifCond .ne 12, 3) := by decide +kernel
theorem dX4_event_49 : decode cX4_event 49 = .ok (.aload_n 0, 1) := by decide +kernel
theorem dX4_event_50 : decode cX4_event 50 = .ok (.getfield 59, 3) := by decide +kernel
theorem dX4_event_53 : decode cX4_event 53 = .ok (.iload_n 1, 1) := by decide +kernel
theorem dX4_event_54 : decode cX4_event 54 = .ok (.iaload, 1) := by decide +kernel
theorem dX4_event_55 : decode cX4_event 55 = .ok (.goto 42, 3) := by decide +kernel
theorem dX4_event_58 : decode cX4_event 58 = .ok (.iload_n 2, 1) := by decide +kernel
theorem dX4_event_59 : decode cX4_event 59 = .ok (.iconst 1, 1) := by decide +kernel
theorem dX4_event_60 : decode cX4_event 60 = .ok (.if_icmp .ne 17, 3) := by decide +kernel
theorem dX4_event_63 : decode cX4_event 63 = .ok (.aload_n 0, 1) := by decide +kernel
theorem dX4_event_64 : decode cX4_event 64 = .ok (.getfield 47, 3) := by decide +kernel
theorem dX4_event_67 : decode cX4_event 67 = .ok (.aload_n 0, 1) := by decide +kernel
theorem dX4_event_68 : decode cX4_event 68 = .ok (.getfield 62, 3) := by decide +kernel
theorem dX4_event_71 : decode cX4_event 71 = .ok (.iload_n 1, 1) := by decide +kernel
theorem dX4_event_72 : decode cX4_event 72 = .ok (.iaload, 1) := by decide +kernel
theorem dX4_event_73 : decode cX4_event 73 = .ok (.iaload, 1) := by decide +kernel
theorem dX4_event_74 : decode cX4_event 74 = .ok (.goto 23, 3) := by decide +kernel
theorem dX4_event_77 : decode cX4_event 77 = .ok (.iload_n 2, 1) := by decide +kernel
theorem dX4_event_78 : decode cX4_event 78 = .ok (.iconst 2, 1) := by decide +kernel
theorem dX4_event_79 : decode cX4_event 79 = .ok (.if_icmp .ne 12, 3) := by decide +kernel
theorem dX4_event_82 : decode cX4_event 82 = .ok (.aload_n 0, 1) := by decide +kernel
theorem dX4_event_83 : decode cX4_event 83 = .ok (.getfield 62, 3) := by decide +kernel
theorem dX4_event_86 : decode cX4_event 86 = .ok (.iload_n 1, 1) := by decide +kernel
theorem dX4_event_87 : decode cX4_event 87 = .ok (.iaload, 1) := by decide +kernel
theorem dX4_event_88 : decode cX4_event 88 = .ok (.goto 9, 3) := by decide +kernel
theorem dX4_event_91 : decode cX4_event 91 = .ok (.aload_n 0, 1) := by decide +kernel
theorem dX4_event_92 : decode cX4_event 92 = .ok (.getfield 65, 3) := by decide +kernel
theorem dX4_event_95 : decode cX4_event 95 = .ok (.iload_n 1, 1) := by decide +kernel
theorem dX4_event_96 : decode cX4_event 96 = .ok (.iaload, 1) := by decide +kernel
theorem dX4_event_97 : decode cX4_event 97 = .ok (.ireturn, 1) := by decide +kernel
set_option maxRecDepth 20000 in
theorem ggX4_level_X4_in : GoodIn wsX4_level wsX4_in := goodIn_r _ [7] (by decide +kernel) (by decide +kernel)
set_option maxRecDepth 20000 in
theorem gX4_level_X4_in : GoodIn wsX4_level (va_wsS RX4 81 yX4_in wsX4_in) := goodIn_app (goodIn_of _ (by decide +kernel)) ggX4_level_X4_in
theorem dX4_level_0 : decode cX4_level 0 = .ok (.aload_n 0, 1) := by decide +kernel
theorem dX4_level_1 : decode cX4_level 1 = .ok (.iload_n 1, 1) := by decide +kernel
theorem dX4_level_2 : decode cX4_level 2 = .ok (.iconst 0, 1) := by decide +kernel
theorem dX4_level_3 : decode cX4_level 3 = .ok (.iconst 3, 1) := by decide +kernel
theorem dX4_level_4 : decode cX4_level 4 = .ok (.invokestatic 81, 3) := by decide +kernel
theorem dX4_level_7 : decode cX4_level 7 = .ok (.ifCond .ne 7, 3) := by decide +kernel
theorem dX4_level_10 : decode cX4_level 10 = .ok (.iconst 2, 1) := by decide +kernel
theorem dX4_level_11 : decode cX4_level 11 = .ok (.goto 16, 3) := by decide +kernel
theorem dX4_level_14 : decode cX4_level 14 = .ok (.iload_n 1, 1) := by decide +kernel
theorem dX4_level_15 : decode cX4_level 15 = .ok (.aload_n 0, 1) := by decide +kernel
theorem dX4_level_16 : decode cX4_level 16 = .ok (.getfield 85, 3) := by decide +kernel
theorem dX4_level_19 : decode cX4_level 19 = .ok (.if_icmp .lt 7, 3) := by decide +kernel
theorem dX4_level_22 : decode cX4_level 22 = .ok (.iconst 1, 1) := by decide +kernel
theorem dX4_level_23 : decode cX4_level 23 = .ok (.goto 4, 3) := by decide +kernel
theorem dX4_level_26 : decode cX4_level 26 = .ok (.iconst 0, 1) := by decide +kernel
theorem dX4_level_27 : decode cX4_level 27 = .ok (.putfield 78, 3) := by decide +kernel
theorem dX4_level_30 : decode cX4_level 30 = .ok (.aload_n 0, 1) := by decide +kernel
theorem dX4_level_31 : decode cX4_level 31 = .ok (.getfield 78, 3) := by decide +kernel
theorem dX4_level_34 : decode cX4_level 34 = .ok (.ifCond .le 7, 3) := by decide +kernel
theorem dX4_level_37 : decode cX4_level 37 = .ok (.iconst 0, 1) := by decide +kernel
theorem dX4_level_38 : decode cX4_level 38 = .ok (.goto 9, 3) := by decide +kernel
theorem dX4_level_41 : decode cX4_level 41 = .ok (.aload_n 0, 1) := by decide +kernel
theorem dX4_level_42 : decode cX4_level 42 = .ok (.getfield 7, 3) := by decide +kernel
theorem dX4_level_45 : decode cX4_level 45 = .ok (.iload_n 1, 1) := by decide +kernel
theorem dX4_level_46 : decode cX4_level 46 = .ok (.iaload, 1) := by decide +kernel
theorem dX4_level_47 : decode cX4_level 47 = .ok (.ireturn, 1) := by decide +kernel
set_option maxRecDepth 20000 in
theorem ggX4_many_X4_is : GoodIn wsX4_many wsX4_is := goodIn_r _ [6, 7, 8, 9, 10, 11, 12, 13, 14, 15, 16, 17, 18, 19, 20, 21, 22, 23, 24, 25, 26, 27, 28, 29, 30, 31, 32, 33, 34, 35, 36] (by decide +kernel) (by decide +kernel)
set_option maxRecDepth 20000 in
theorem gX4_many_X4_is : GoodIn wsX4_many (wsV RX4 106 RX4 yX4_is wsX4_is) := goodIn_app (goodIn_of _ (by decide +kernel)) ggX4_many_X4_is
theorem dX4_many_0 : decode cX4_many 0 = .ok (.iconst 0, 1) := by decide +kernel
theorem dX4_many_1 : decode cX4_many 1 = .ok (.istore_n 3, 1) := by decide +kernel
theorem dX4_many_2 : decode cX4_many 2 = .ok (.iconst 0, 1) := by decide +kernel
theorem dX4_many_3 : decode cX4_many 3 = .ok (.istore 4, 2) := by decide +kernel
theorem dX4_many_5 : decode cX4_many 5 = .ok (.iload 4, 2) := by decide +kernel
theorem dX4_many_7 : decode cX4_many 7 = .ok (.aload_n 0, 1) := by decide +kernel
theorem dX4_many_8 : decode cX4_many 8 = .ok (.getfield 88, 3) := by decide +kernel
theorem dX4_many_11 : decode cX4_many 11 = .ok (.if_icmp .ge 28, 3) := by decide +kernel
theorem dX4_many_14 : decode cX4_many 14 = .ok (.iload_n 3, 1) := by decide +kernel
theorem dX4_many_15 : decode cX4_many 15 = .ok (.aload_n 0, 1) := by decide +kernel
theorem dX4_many_16 : decode cX4_many 16 = .ok (.iload 4, 2) := by decide +kernel
theorem dX4_many_18 : decode cX4_many 18 = .ok (.iload_n 1, 1) := by decide +kernel
theorem dX4_many_19 : decode cX4_many 19 = .ok (.iload_n 2, 1) := by decide +kernel
theorem dX4_many_20 : decode cX4_many 20 = .ok (.invokevirtual 106, 3) := by decide +kernel
theorem dX4_many_23 : decode cX4_many 23 = .ok (.ifCond .eq 7, 3) := by decide +kernel
theorem dX4_many_26 : decode cX4_many 26 = .ok (.iconst 1, 1) := by decide +kernel
theorem dX4_many_27 : decode cX4_many 27 = .ok (.goto 4, 3) := by decide +kernel
theorem dX4_many_30 : decode cX4_many 30 = .ok (.iconst 0, 1) := by decide +kernel
theorem dX4_many_31 : decode cX4_many 31 = .ok (.iadd, 1) := by decide +kernel
theorem dX4_many_32 : decode cX4_many 32 = .ok (.istore_n 3, 1) := by decide +kernel
theorem dX4_many_33 : decode cX4_many 33 = .ok (.iinc 4 1, 3) := by decide +kernel
theorem dX4_many_36 : decode cX4_many 36 = .ok (.goto (-31), 3) := by decide +kernel
theorem dX4_many_39 : decode cX4_many 39 = .ok (.iload_n 3, 1) := by decide +kernel
theorem dX4_many_40 : decode cX4_many 40 = .ok (.ireturn, 1) := by decide +kernel
set_option maxRecDepth 20000 in
theorem ggX4_told_X4_isLift : GoodIn wsX4_told wsX4_isLift := goodIn_r _ [11, 12, 13, 14, 10, 15, 32, 33, 34, 35, 36, 37, 38, 39, 40, 41, 42, 43, 44, 45, 46, 47, 48, 49, 50, 51, 52, 53, 54, 55, 56, 57, 58, 59] (by decide +kernel) (by decide +kernel)
set_option maxRecDepth 20000 in
theorem gX4_told_X4_isLift : GoodIn wsX4_told (wsV RX4 136 RX4 yX4_isLift wsX4_isLift) := goodIn_app (goodIn_of _ (by decide +kernel)) ggX4_told_X4_isLift
set_option maxRecDepth 20000 in
theorem ggX4_told_X4_in : GoodIn wsX4_told wsX4_in := goodIn_r _ [15] (by decide +kernel) (by decide +kernel)
set_option maxRecDepth 20000 in
theorem gX4_told_X4_in : GoodIn wsX4_told (va_wsS RX4 81 yX4_in wsX4_in) := goodIn_app (goodIn_of _ (by decide +kernel)) ggX4_told_X4_in
set_option maxRecDepth 20000 in
theorem ggX4_told_X4_aboard : GoodIn wsX4_told wsX4_aboard := goodIn_r _ [19, 20, 21, 22, 23, 24, 10, 25, 26, 27, 32, 33, 34, 35, 36, 37, 38, 39, 40, 41, 42, 43, 44, 45, 46, 47, 48, 49, 50, 51, 52, 53, 54, 55, 56, 57, 58, 59] (by decide +kernel) (by decide +kernel)
set_option maxRecDepth 20000 in
theorem gX4_told_X4_aboard : GoodIn wsX4_told (wsV RX4 116 RX4 yX4_aboard wsX4_aboard) := goodIn_app (goodIn_of _ (by decide +kernel)) ggX4_told_X4_aboard
set_option maxRecDepth 20000 in
theorem ggX4_told_X4_many : GoodIn wsX4_told wsX4_many := goodIn_r _ [31, 20, 22, 23, 24, 10, 25, 26, 27, 32, 33, 34, 35, 36, 37, 38, 39, 40, 41, 42, 43, 44, 45, 46, 47, 48, 49, 50, 51, 52, 53, 54, 55, 56, 57, 58, 59] (by decide +kernel) (by decide +kernel)
set_option maxRecDepth 20000 in
theorem gX4_told_X4_many : GoodIn wsX4_told (wsV RX4 139 RX4 yX4_many wsX4_many) := goodIn_app (goodIn_of _ (by decide +kernel)) ggX4_told_X4_many
theorem dX4_told_0 : decode cX4_told 0 = .ok (.aload_n 0, 1) := by decide +kernel
theorem dX4_told_1 : decode cX4_told 1 = .ok (.aload_n 0, 1) := by decide +kernel
theorem dX4_told_2 : decode cX4_told 2 = .ok (.iload_n 1, 1) := by decide +kernel
theorem dX4_told_3 : decode cX4_told 3 = .ok (.invokevirtual 136, 3) := by decide +kernel
theorem dX4_told_6 : decode cX4_told 6 = .ok (.ifCond .ne 7, 3) := by decide +kernel
theorem dX4_told_9 : decode cX4_told 9 = .ok (.iconst 1, 1) := by decide +kernel
theorem dX4_told_10 : decode cX4_told 10 = .ok (.goto 18, 3) := by decide +kernel
theorem dX4_told_13 : decode cX4_told 13 = .ok (.iload_n 2, 1) := by decide +kernel
theorem dX4_told_14 : decode cX4_told 14 = .ok (.iconst 0, 1) := by decide +kernel
theorem dX4_told_15 : decode cX4_told 15 = .ok (.bipush 7, 2) := by decide +kernel
theorem dX4_told_17 : decode cX4_told 17 = .ok (.invokestatic 81, 3) := by decide +kernel
theorem dX4_told_20 : decode cX4_told 20 = .ok (.ifCond .ne 7, 3) := by decide +kernel
theorem dX4_told_23 : decode cX4_told 23 = .ok (.iconst 2, 1) := by decide +kernel
theorem dX4_told_24 : decode cX4_told 24 = .ok (.goto 4, 3) := by decide +kernel
theorem dX4_told_27 : decode cX4_told 27 = .ok (.iconst 0, 1) := by decide +kernel
theorem dX4_told_28 : decode cX4_told 28 = .ok (.putfield 78, 3) := by decide +kernel
theorem dX4_told_31 : decode cX4_told 31 = .ok (.aload_n 0, 1) := by decide +kernel
theorem dX4_told_32 : decode cX4_told 32 = .ok (.getfield 78, 3) := by decide +kernel
theorem dX4_told_35 : decode cX4_told 35 = .ok (.ifCond .le 5, 3) := by decide +kernel
theorem dX4_told_38 : decode cX4_told 38 = .ok (.iconst 0, 1) := by decide +kernel
theorem dX4_told_39 : decode cX4_told 39 = .ok (.ireturn, 1) := by decide +kernel
theorem dX4_told_40 : decode cX4_told 40 = .ok (.iload_n 2, 1) := by decide +kernel
theorem dX4_told_41 : decode cX4_told 41 = .ok (.ifCond .ne 9, 3) := by decide +kernel
theorem dX4_told_44 : decode cX4_told 44 = .ok (.aload_n 0, 1) := by decide +kernel
theorem dX4_told_45 : decode cX4_told 45 = .ok (.iload_n 1, 1) := by decide +kernel
theorem dX4_told_46 : decode cX4_told 46 = .ok (.invokevirtual 116, 3) := by decide +kernel
theorem dX4_told_49 : decode cX4_told 49 = .ok (.ireturn, 1) := by decide +kernel
theorem dX4_told_50 : decode cX4_told 50 = .ok (.iload_n 2, 1) := by decide +kernel
theorem dX4_told_51 : decode cX4_told 51 = .ok (.iconst 1, 1) := by decide +kernel
theorem dX4_told_52 : decode cX4_told 52 = .ok (.if_icmp .ne 10, 3) := by decide +kernel
theorem dX4_told_55 : decode cX4_told 55 = .ok (.aload_n 0, 1) := by decide +kernel
theorem dX4_told_56 : decode cX4_told 56 = .ok (.getfield 16, 3) := by decide +kernel
theorem dX4_told_59 : decode cX4_told 59 = .ok (.iload_n 1, 1) := by decide +kernel
theorem dX4_told_60 : decode cX4_told 60 = .ok (.iaload, 1) := by decide +kernel
theorem dX4_told_61 : decode cX4_told 61 = .ok (.ireturn, 1) := by decide +kernel
theorem dX4_told_62 : decode cX4_told 62 = .ok (.iload_n 2, 1) := by decide +kernel
theorem dX4_told_63 : decode cX4_told 63 = .ok (.iconst 2, 1) := by decide +kernel
theorem dX4_told_64 : decode cX4_told 64 = .ok (.if_icmp .ne 10, 3) := by decide +kernel
theorem dX4_told_67 : decode cX4_told 67 = .ok (.aload_n 0, 1) := by decide +kernel
theorem dX4_told_68 : decode cX4_told 68 = .ok (.getfield 19, 3) := by decide +kernel
theorem dX4_told_71 : decode cX4_told 71 = .ok (.iload_n 1, 1) := by decide +kernel
theorem dX4_told_72 : decode cX4_told 72 = .ok (.iaload, 1) := by decide +kernel
theorem dX4_told_73 : decode cX4_told 73 = .ok (.ireturn, 1) := by decide +kernel
theorem dX4_told_74 : decode cX4_told 74 = .ok (.iload_n 2, 1) := by decide +kernel
theorem dX4_told_75 : decode cX4_told 75 = .ok (.iconst 3, 1) := by decide +kernel
theorem dX4_told_76 : decode cX4_told 76 = .ok (.if_icmp .ne 10, 3) := by decide +kernel
theorem dX4_told_79 : decode cX4_told 79 = .ok (.aload_n 0, 1) := by decide +kernel
theorem dX4_told_80 : decode cX4_told 80 = .ok (.iload_n 1, 1) := by decide +kernel
theorem dX4_told_81 : decode cX4_told 81 = .ok (.iconst 1, 1) := by decide +kernel
theorem dX4_told_82 : decode cX4_told 82 = .ok (.invokevirtual 139, 3) := by decide +kernel
theorem dX4_told_85 : decode cX4_told 85 = .ok (.ireturn, 1) := by decide +kernel
theorem dX4_told_86 : decode cX4_told 86 = .ok (.iload_n 2, 1) := by decide +kernel
theorem dX4_told_87 : decode cX4_told 87 = .ok (.iconst 4, 1) := by decide +kernel
theorem dX4_told_88 : decode cX4_told 88 = .ok (.if_icmp .ne 10, 3) := by decide +kernel
theorem dX4_told_91 : decode cX4_told 91 = .ok (.aload_n 0, 1) := by decide +kernel
theorem dX4_told_92 : decode cX4_told 92 = .ok (.iload_n 1, 1) := by decide +kernel
theorem dX4_told_93 : decode cX4_told 93 = .ok (.iconst 0, 1) := by decide +kernel
theorem dX4_told_94 : decode cX4_told 94 = .ok (.invokevirtual 139, 3) := by decide +kernel
theorem dX4_told_97 : decode cX4_told 97 = .ok (.ireturn, 1) := by decide +kernel
theorem dX4_told_98 : decode cX4_told 98 = .ok (.iload_n 2, 1) := by decide +kernel
theorem dX4_told_99 : decode cX4_told 99 = .ok (.iconst 5, 1) := by decide +kernel
theorem dX4_told_100 : decode cX4_told 100 = .ok (.if_icmp .ne 15, 3) := by decide +kernel
theorem dX4_told_103 : decode cX4_told 103 = .ok (.aload_n 0, 1) := by decide +kernel
theorem dX4_told_104 : decode cX4_told 104 = .ok (.getfield 26, 3) := by decide +kernel
theorem dX4_told_107 : decode cX4_told 107 = .ok (.iload_n 1, 1) := by decide +kernel
theorem dX4_told_108 : decode cX4_told 108 = .ok (.baload, 1) := by decide +kernel
theorem dX4_told_109 : decode cX4_told 109 = .ok (.ifCond .eq 37, 3) := by decide +kernel
theorem dX4_told_112 : decode cX4_told 112 = .ok (.goto 30, 3) := by decide +kernel
theorem dX4_told_115 : decode cX4_told 115 = .ok (.iload_n 2, 1) := by decide +kernel
theorem dX4_told_116 : decode cX4_told 116 = .ok (.bipush 6, 2) := by decide +kernel
theorem dX4_told_118 : decode cX4_told 118 = .ok (.if_icmp .ne 15, 3) := by decide +kernel
theorem dX4_told_121 : decode cX4_told 121 = .ok (.aload_n 0, 1) := by decide +kernel
theorem dX4_told_122 : decode cX4_told 122 = .ok (.getfield 29, 3) := by decide +kernel
theorem dX4_told_125 : decode cX4_told 125 = .ok (.iload_n 1, 1) := by decide +kernel
theorem dX4_told_126 : decode cX4_told 126 = .ok (.baload, 1) := by decide +kernel
theorem dX4_told_127 : decode cX4_told 127 = .ok (.ifCond .eq 19, 3) := by decide +kernel
theorem dX4_told_130 : decode cX4_told 130 = .ok (.goto 12, 3) := by decide +kernel
theorem dX4_told_133 : decode cX4_told 133 = .ok (.aload_n 0, 1) := by decide +kernel
theorem dX4_told_134 : decode cX4_told 134 = .ok (.getfield 22, 3) := by decide +kernel
theorem dX4_told_137 : decode cX4_told 137 = .ok (.iload_n 1, 1) := by decide +kernel
theorem dX4_told_138 : decode cX4_told 138 = .ok (.baload, 1) := by decide +kernel
theorem dX4_told_139 : decode cX4_told 139 = .ok (.ifCond .eq 7, 3) := by decide +kernel
theorem dX4_told_142 : decode cX4_told 142 = .ok (.iconst 1, 1) := by decide +kernel
theorem dX4_told_143 : decode cX4_told 143 = .ok (.goto 4, 3) := by decide +kernel
theorem dX4_told_146 : decode cX4_told 146 = .ok (.iconst 0, 1) := by decide +kernel
theorem dX4_told_147 : decode cX4_told 147 = .ok (.ireturn, 1) := by decide +kernel
set_option maxRecDepth 20000 in
theorem ggX4_door_X4_isLift : GoodIn wsX4_door wsX4_isLift := goodIn_r _ [8, 9, 10, 11, 7, 12, 13, 14, 15, 16, 17, 18, 19, 20, 21, 22, 23, 24, 25, 26, 27, 28, 29, 30, 31, 32, 33, 34, 35, 36, 37, 38, 39, 40] (by decide +kernel) (by decide +kernel)
set_option maxRecDepth 20000 in
theorem gX4_door_X4_isLift : GoodIn wsX4_door (wsV RX4 136 RX4 yX4_isLift wsX4_isLift) := goodIn_app (goodIn_of _ (by decide +kernel)) ggX4_door_X4_isLift
theorem dX4_door_0 : decode cX4_door 0 = .ok (.aload_n 0, 1) := by decide +kernel
theorem dX4_door_1 : decode cX4_door 1 = .ok (.aload_n 0, 1) := by decide +kernel
theorem dX4_door_2 : decode cX4_door 2 = .ok (.iload_n 1, 1) := by decide +kernel
theorem dX4_door_3 : decode cX4_door 3 = .ok (.invokevirtual 136, 3) := by decide +kernel
theorem dX4_door_6 : decode cX4_door 6 = .ok (.ifCond .ne 7, 3) := by decide +kernel
theorem dX4_door_9 : decode cX4_door 9 = .ok (.iconst 1, 1) := by decide +kernel
theorem dX4_door_10 : decode cX4_door 10 = .ok (.goto 4, 3) := by decide +kernel
theorem dX4_door_13 : decode cX4_door 13 = .ok (.iconst 0, 1) := by decide +kernel
theorem dX4_door_14 : decode cX4_door 14 = .ok (.putfield 78, 3) := by decide +kernel
theorem dX4_door_17 : decode cX4_door 17 = .ok (.aload_n 0, 1) := by decide +kernel
theorem dX4_door_18 : decode cX4_door 18 = .ok (.getfield 78, 3) := by decide +kernel
theorem dX4_door_21 : decode cX4_door 21 = .ok (.ifCond .ne 35, 3) := by decide +kernel
theorem dX4_door_24 : decode cX4_door 24 = .ok (.aload_n 0, 1) := by decide +kernel
theorem dX4_door_25 : decode cX4_door 25 = .ok (.aload_n 0, 1) := by decide +kernel
theorem dX4_door_26 : decode cX4_door 26 = .ok (.getfield 22, 3) := by decide +kernel
theorem dX4_door_29 : decode cX4_door 29 = .ok (.iload_n 1, 1) := by decide +kernel
theorem dX4_door_30 : decode cX4_door 30 = .ok (.baload, 1) := by decide +kernel
theorem dX4_door_31 : decode cX4_door 31 = .ok (.iload_n 2, 1) := by decide +kernel
theorem dX4_door_32 : decode cX4_door 32 = .ok (.if_icmp .eq 16, 3) := by decide +kernel
theorem dX4_door_35 : decode cX4_door 35 = .ok (.iload_n 2, 1) := by decide +kernel
theorem dX4_door_36 : decode cX4_door 36 = .ok (.ifCond .eq 16, 3) := by decide +kernel
theorem dX4_door_39 : decode cX4_door 39 = .ok (.aload_n 0, 1) := by decide +kernel
theorem dX4_door_40 : decode cX4_door 40 = .ok (.getfield 19, 3) := by decide +kernel
theorem dX4_door_43 : decode cX4_door 43 = .ok (.iload_n 1, 1) := by decide +kernel
theorem dX4_door_44 : decode cX4_door 44 = .ok (.iaload, 1) := by decide +kernel
theorem dX4_door_45 : decode cX4_door 45 = .ok (.ifCond .ne 7, 3) := by decide +kernel
theorem dX4_door_48 : decode cX4_door 48 = .ok (.iconst 2, 1) := by decide +kernel
theorem dX4_door_49 : decode cX4_door 49 = .ok (.goto 4, 3) := by decide +kernel
theorem dX4_door_52 : decode cX4_door 52 = .ok (.iconst 0, 1) := by decide +kernel
theorem dX4_door_53 : decode cX4_door 53 = .ok (.putfield 78, 3) := by decide +kernel
theorem dX4_door_56 : decode cX4_door 56 = .ok (.aload_n 0, 1) := by decide +kernel
theorem dX4_door_57 : decode cX4_door 57 = .ok (.getfield 78, 3) := by decide +kernel
theorem dX4_door_60 : decode cX4_door 60 = .ok (.ifCond .ne 10, 3) := by decide +kernel
theorem dX4_door_63 : decode cX4_door 63 = .ok (.aload_n 0, 1) := by decide +kernel
theorem dX4_door_64 : decode cX4_door 64 = .ok (.getfield 22, 3) := by decide +kernel
theorem dX4_door_67 : decode cX4_door 67 = .ok (.iload_n 1, 1) := by decide +kernel
theorem dX4_door_68 : decode cX4_door 68 = .ok (.iload_n 2, 1) := by decide +kernel
theorem dX4_door_69 : decode cX4_door 69 = .ok (.bastore, 1) := by decide +kernel
theorem dX4_door_70 : decode cX4_door 70 = .ok (.return_, 1) := by decide +kernel
set_option maxRecDepth 20000 in
theorem ggX4_stuck_X4_isLift : GoodIn wsX4_stuck wsX4_isLift := goodIn_r _ [9, 10, 11, 12, 8, 13, 35, 36, 37, 38, 39, 40, 41, 42, 43, 44, 45, 46, 47, 48, 49, 50, 51, 52, 53, 54, 55, 56, 57, 58, 59, 60, 61, 62] (by decide +kernel) (by decide +kernel)
set_option maxRecDepth 20000 in
theorem gX4_stuck_X4_isLift : GoodIn wsX4_stuck (wsV RX4 136 RX4 yX4_isLift wsX4_isLift) := goodIn_app (goodIn_of _ (by decide +kernel)) ggX4_stuck_X4_isLift
set_option maxRecDepth 20000 in
theorem ggX4_stuck_X4_is : GoodIn wsX4_stuck wsX4_is := goodIn_r _ [17, 4, 18, 35, 36, 37, 38, 39, 40, 41, 42, 43, 44, 45, 46, 47, 48, 49, 50, 51, 52, 53, 54, 55, 56, 57, 58, 59, 60, 61, 62] (by decide +kernel) (by decide +kernel)
set_option maxRecDepth 20000 in
theorem gX4_stuck_X4_is : GoodIn wsX4_stuck (wsV RX4 106 RX4 yX4_is wsX4_is) := goodIn_app (goodIn_of _ (by decide +kernel)) ggX4_stuck_X4_is
set_option maxRecDepth 20000 in
theorem ggX4_stuck_X4_nearest : GoodIn wsX4_stuck wsX4_nearest := goodIn_r _ [22, 10, 2, 23, 24, 25, 26, 27, 28, 29, 8, 30, 35, 36, 37, 38, 39, 40, 41, 42, 43, 44, 45, 46, 47, 48, 49, 50, 51, 52, 53, 54, 55, 56, 57, 58, 59, 60, 61, 62] (by decide +kernel) (by decide +kernel)
set_option maxRecDepth 20000 in
theorem gX4_stuck_X4_nearest : GoodIn wsX4_stuck (wsV RX4 102 RX4 yX4_nearest wsX4_nearest) := goodIn_app (goodIn_of _ (by decide +kernel)) ggX4_stuck_X4_nearest
set_option maxRecDepth 20000 in
theorem ggX4_stuck_X4_many : GoodIn wsX4_stuck wsX4_many := goodIn_r _ [34, 3, 14, 15, 16, 8, 17, 4, 18, 35, 36, 37, 38, 39, 40, 41, 42, 43, 44, 45, 46, 47, 48, 49, 50, 51, 52, 53, 54, 55, 56, 57, 58, 59, 60, 61, 62] (by decide +kernel) (by decide +kernel)
set_option maxRecDepth 20000 in
theorem gX4_stuck_X4_many : GoodIn wsX4_stuck (wsV RX4 139 RX4 yX4_many wsX4_many) := goodIn_app (goodIn_of _ (by decide +kernel)) ggX4_stuck_X4_many
theorem dX4_stuck_0 : decode cX4_stuck 0 = .ok (.aload_n 0, 1) := by decide +kernel
theorem dX4_stuck_1 : decode cX4_stuck 1 = .ok (.aload_n 0, 1) := by decide +kernel
theorem dX4_stuck_2 : decode cX4_stuck 2 = .ok (.iload_n 1, 1) := by decide +kernel
theorem dX4_stuck_3 : decode cX4_stuck 3 = .ok (.invokevirtual 136, 3) := by decide +kernel
theorem dX4_stuck_6 : decode cX4_stuck 6 = .ok (.ifCond .ne 7, 3) := by decide +kernel
theorem dX4_stuck_9 : decode cX4_stuck 9 = .ok (.iconst 1, 1) := by decide +kernel
theorem dX4_stuck_10 : decode cX4_stuck 10 = .ok (.goto 4, 3) := by decide +kernel
theorem dX4_stuck_13 : decode cX4_stuck 13 = .ok (.iconst 0, 1) := by decide +kernel
theorem dX4_stuck_14 : decode cX4_stuck 14 = .ok (.putfield 78, 3) := by decide +kernel
theorem dX4_stuck_17 : decode cX4_stuck 17 = .ok (.aload_n 0, 1) := by decide +kernel
theorem dX4_stuck_18 : decode cX4_stuck 18 = .ok (.getfield 78, 3) := by decide +kernel
theorem dX4_stuck_21 : decode cX4_stuck 21 = .ok (.ifCond .ne 22, 3) := by decide +kernel
theorem dX4_stuck_24 : decode cX4_stuck 24 = .ok (.aload_n 0, 1) := by decide +kernel
theorem dX4_stuck_25 : decode cX4_stuck 25 = .ok (.aload_n 0, 1) := by decide +kernel
theorem dX4_stuck_26 : decode cX4_stuck 26 = .ok (.getfield 26, 3) := by decide +kernel
theorem dX4_stuck_29 : decode cX4_stuck 29 = .ok (.iload_n 1, 1) := by decide +kernel
theorem dX4_stuck_30 : decode cX4_stuck 30 = .ok (.baload, 1) := by decide +kernel
theorem dX4_stuck_31 : decode cX4_stuck 31 = .ok (.iload_n 2, 1) := by decide +kernel
theorem dX4_stuck_32 : decode cX4_stuck 32 = .ok (.if_icmp .ne 7, 3) := by decide +kernel
theorem dX4_stuck_35 : decode cX4_stuck 35 = .ok (.iconst 2, 1) := by decide +kernel
theorem dX4_stuck_36 : decode cX4_stuck 36 = .ok (.goto 4, 3) := by decide +kernel
theorem dX4_stuck_39 : decode cX4_stuck 39 = .ok (.iconst 0, 1) := by decide +kernel
theorem dX4_stuck_40 : decode cX4_stuck 40 = .ok (.putfield 78, 3) := by decide +kernel
theorem dX4_stuck_43 : decode cX4_stuck 43 = .ok (.aload_n 0, 1) := by decide +kernel
theorem dX4_stuck_44 : decode cX4_stuck 44 = .ok (.getfield 78, 3) := by decide +kernel
theorem dX4_stuck_47 : decode cX4_stuck 47 = .ok (.ifCond .le 5, 3) := by decide +kernel
theorem dX4_stuck_50 : decode cX4_stuck 50 = .ok (.iconst 0, 1) := by decide +kernel
theorem dX4_stuck_51 : decode cX4_stuck 51 = .ok (.ireturn, 1) := by decide +kernel
theorem dX4_stuck_52 : decode cX4_stuck 52 = .ok (.aload_n 0, 1) := by decide +kernel
theorem dX4_stuck_53 : decode cX4_stuck 53 = .ok (.getfield 26, 3) := by decide +kernel
theorem dX4_stuck_56 : decode cX4_stuck 56 = .ok (.iload_n 1, 1) := by decide +kernel
theorem dX4_stuck_57 : decode cX4_stuck 57 = .ok (.iload_n 2, 1) := by decide +kernel
theorem dX4_stuck_58 : decode cX4_stuck 58 = .ok (.bastore, 1) := by decide +kernel
theorem dX4_stuck_59 : decode cX4_stuck 59 = .ok (.iconst 0, 1) := by decide +kernel
theorem dX4_stuck_60 : decode cX4_stuck 60 = .ok (.istore_n 3, 1) := by decide +kernel
theorem dX4_stuck_61 : decode cX4_stuck 61 = .ok (.iload_n 3, 1) := by decide +kernel
theorem dX4_stuck_62 : decode cX4_stuck 62 = .ok (.aload_n 0, 1) := by decide +kernel
theorem dX4_stuck_63 : decode cX4_stuck 63 = .ok (.getfield 88, 3) := by decide +kernel
theorem dX4_stuck_66 : decode cX4_stuck 66 = .ok (.if_icmp .ge 34, 3) := by decide +kernel
theorem dX4_stuck_69 : decode cX4_stuck 69 = .ok (.iload_n 2, 1) := by decide +kernel
theorem dX4_stuck_70 : decode cX4_stuck 70 = .ok (.ifCond .eq 30, 3) := by decide +kernel
theorem dX4_stuck_73 : decode cX4_stuck 73 = .ok (.aload_n 0, 1) := by decide +kernel
theorem dX4_stuck_74 : decode cX4_stuck 74 = .ok (.iload_n 3, 1) := by decide +kernel
theorem dX4_stuck_75 : decode cX4_stuck 75 = .ok (.iload_n 1, 1) := by decide +kernel
theorem dX4_stuck_76 : decode cX4_stuck 76 = .ok (.iconst 0, 1) := by decide +kernel
theorem dX4_stuck_77 : decode cX4_stuck 77 = .ok (.invokevirtual 106, 3) := by decide +kernel
theorem dX4_stuck_80 : decode cX4_stuck 80 = .ok (.ifCond .eq 14, 3) := by decide +kernel
theorem dX4_stuck_83 : decode cX4_stuck 83 = .ok (.aload_n 0, 1) := by decide +kernel
theorem dX4_stuck_84 : decode cX4_stuck 84 = .ok (.getfield 47, 3) := by decide +kernel
theorem dX4_stuck_87 : decode cX4_stuck 87 = .ok (.iload_n 3, 1) := by decide +kernel
theorem dX4_stuck_88 : decode cX4_stuck 88 = .ok (.aload_n 0, 1) := by decide +kernel
theorem dX4_stuck_89 : decode cX4_stuck 89 = .ok (.iload_n 3, 1) := by decide +kernel
theorem dX4_stuck_90 : decode cX4_stuck 90 = .ok (.invokevirtual 102, 3) := by decide +kernel
theorem dX4_stuck_93 : decode cX4_stuck 93 = .ok (.iastore, 1) := by decide +kernel
theorem dX4_stuck_94 : decode cX4_stuck 94 = .ok (.iinc 3 1, 3) := by decide +kernel
theorem dX4_stuck_97 : decode cX4_stuck 97 = .ok (.goto (-36), 3) := by decide +kernel
theorem dX4_stuck_100 : decode cX4_stuck 100 = .ok (.aload_n 0, 1) := by decide +kernel
theorem dX4_stuck_101 : decode cX4_stuck 101 = .ok (.iload_n 1, 1) := by decide +kernel
theorem dX4_stuck_102 : decode cX4_stuck 102 = .ok (.iconst 1, 1) := by decide +kernel
theorem dX4_stuck_103 : decode cX4_stuck 103 = .ok (.invokevirtual 139, 3) := by decide +kernel
theorem dX4_stuck_106 : decode cX4_stuck 106 = .ok (.ireturn, 1) := by decide +kernel
set_option maxRecDepth 20000 in
theorem ggX4_reserved_X4_isLift : GoodIn wsX4_reserved wsX4_isLift := goodIn_r _ [7, 8, 9, 10, 6, 11, 23, 24, 25, 26, 27, 28, 29, 30, 31, 32, 33, 34, 35, 36, 37, 38, 39, 40, 41, 42, 43, 44, 45, 46, 47, 48, 49, 50] (by decide +kernel) (by decide +kernel)
set_option maxRecDepth 20000 in
theorem gX4_reserved_X4_isLift : GoodIn wsX4_reserved (wsV RX4 136 RX4 yX4_isLift wsX4_isLift) := goodIn_app (goodIn_of _ (by decide +kernel)) ggX4_reserved_X4_isLift
set_option maxRecDepth 20000 in
theorem ggX4_reserved_X4_many : GoodIn wsX4_reserved wsX4_many := goodIn_r _ [15, 16, 17, 18, 19, 6, 20, 21, 22, 23, 24, 25, 26, 27, 28, 29, 30, 31, 32, 33, 34, 35, 36, 37, 38, 39, 40, 41, 42, 43, 44, 45, 46, 47, 48, 49, 50] (by decide +kernel) (by decide +kernel)
set_option maxRecDepth 20000 in
theorem gX4_reserved_X4_many : GoodIn wsX4_reserved (wsV RX4 139 RX4 yX4_many wsX4_many) := goodIn_app (goodIn_of _ (by decide +kernel)) ggX4_reserved_X4_many
theorem dX4_reserved_0 : decode cX4_reserved 0 = .ok (.aload_n 0, 1) := by decide +kernel
theorem dX4_reserved_1 : decode cX4_reserved 1 = .ok (.aload_n 0, 1) := by decide +kernel
theorem dX4_reserved_2 : decode cX4_reserved 2 = .ok (.iload_n 1, 1) := by decide +kernel
theorem dX4_reserved_3 : decode cX4_reserved 3 = .ok (.invokevirtual 136, 3) := by decide +kernel
theorem dX4_reserved_6 : decode cX4_reserved 6 = .ok (.ifCond .ne 7, 3) := by decide +kernel
theorem dX4_reserved_9 : decode cX4_reserved 9 = .ok (.iconst 1, 1) := by decide +kernel
theorem dX4_reserved_10 : decode cX4_reserved 10 = .ok (.goto 4, 3) := by decide +kernel
theorem dX4_reserved_13 : decode cX4_reserved 13 = .ok (.iconst 0, 1) := by decide +kernel
theorem dX4_reserved_14 : decode cX4_reserved 14 = .ok (.putfield 78, 3) := by decide +kernel
theorem dX4_reserved_17 : decode cX4_reserved 17 = .ok (.aload_n 0, 1) := by decide +kernel
theorem dX4_reserved_18 : decode cX4_reserved 18 = .ok (.getfield 78, 3) := by decide +kernel
theorem dX4_reserved_21 : decode cX4_reserved 21 = .ok (.ifCond .ne 22, 3) := by decide +kernel
theorem dX4_reserved_24 : decode cX4_reserved 24 = .ok (.aload_n 0, 1) := by decide +kernel
theorem dX4_reserved_25 : decode cX4_reserved 25 = .ok (.aload_n 0, 1) := by decide +kernel
theorem dX4_reserved_26 : decode cX4_reserved 26 = .ok (.getfield 29, 3) := by decide +kernel
theorem dX4_reserved_29 : decode cX4_reserved 29 = .ok (.iload_n 1, 1) := by decide +kernel
theorem dX4_reserved_30 : decode cX4_reserved 30 = .ok (.baload, 1) := by decide +kernel
theorem dX4_reserved_31 : decode cX4_reserved 31 = .ok (.iload_n 2, 1) := by decide +kernel
theorem dX4_reserved_32 : decode cX4_reserved 32 = .ok (.if_icmp .ne 7, 3) := by decide +kernel
theorem dX4_reserved_35 : decode cX4_reserved 35 = .ok (.iconst 2, 1) := by decide +kernel
theorem dX4_reserved_36 : decode cX4_reserved 36 = .ok (.goto 4, 3) := by decide +kernel
theorem dX4_reserved_39 : decode cX4_reserved 39 = .ok (.iconst 0, 1) := by decide +kernel
theorem dX4_reserved_40 : decode cX4_reserved 40 = .ok (.putfield 78, 3) := by decide +kernel
theorem dX4_reserved_43 : decode cX4_reserved 43 = .ok (.aload_n 0, 1) := by decide +kernel
theorem dX4_reserved_44 : decode cX4_reserved 44 = .ok (.getfield 78, 3) := by decide +kernel
theorem dX4_reserved_47 : decode cX4_reserved 47 = .ok (.ifCond .le 5, 3) := by decide +kernel
theorem dX4_reserved_50 : decode cX4_reserved 50 = .ok (.iconst 0, 1) := by decide +kernel
theorem dX4_reserved_51 : decode cX4_reserved 51 = .ok (.ireturn, 1) := by decide +kernel
theorem dX4_reserved_52 : decode cX4_reserved 52 = .ok (.aload_n 0, 1) := by decide +kernel
theorem dX4_reserved_53 : decode cX4_reserved 53 = .ok (.getfield 29, 3) := by decide +kernel
theorem dX4_reserved_56 : decode cX4_reserved 56 = .ok (.iload_n 1, 1) := by decide +kernel
theorem dX4_reserved_57 : decode cX4_reserved 57 = .ok (.iload_n 2, 1) := by decide +kernel
theorem dX4_reserved_58 : decode cX4_reserved 58 = .ok (.bastore, 1) := by decide +kernel
theorem dX4_reserved_59 : decode cX4_reserved 59 = .ok (.aload_n 0, 1) := by decide +kernel
theorem dX4_reserved_60 : decode cX4_reserved 60 = .ok (.iload_n 1, 1) := by decide +kernel
theorem dX4_reserved_61 : decode cX4_reserved 61 = .ok (.iconst 1, 1) := by decide +kernel
theorem dX4_reserved_62 : decode cX4_reserved 62 = .ok (.invokevirtual 139, 3) := by decide +kernel
theorem dX4_reserved_65 : decode cX4_reserved 65 = .ok (.aload_n 0, 1) := by decide +kernel
theorem dX4_reserved_66 : decode cX4_reserved 66 = .ok (.iload_n 1, 1) := by decide +kernel
theorem dX4_reserved_67 : decode cX4_reserved 67 = .ok (.iconst 0, 1) := by decide +kernel
theorem dX4_reserved_68 : decode cX4_reserved 68 = .ok (.invokevirtual 139, 3) := by decide +kernel
theorem dX4_reserved_71 : decode cX4_reserved 71 = .ok (.iadd, 1) := by decide +kernel
theorem dX4_reserved_72 : decode cX4_reserved 72 = .ok (.ireturn, 1) := by decide +kernel
set_option maxRecDepth 20000 in
theorem ggX4_freed_X4_is : GoodIn wsX4_freed wsX4_is := goodIn_r _ [8, 3, 9, 24, 25, 26, 27, 28, 29, 30, 31, 32, 33, 34, 35, 36, 37, 38, 39, 40, 41, 42, 43, 44, 45, 46, 47, 48, 49, 50, 51] (by decide +kernel) (by decide +kernel)
set_option maxRecDepth 20000 in
theorem gX4_freed_X4_is : GoodIn wsX4_freed (wsV RX4 106 RX4 yX4_is wsX4_is) := goodIn_app (goodIn_of _ (by decide +kernel)) ggX4_freed_X4_is
set_option maxRecDepth 20000 in
theorem ggX4_freed_X4_nearest : GoodIn wsX4_freed wsX4_nearest := goodIn_r _ [13, 14, 15, 16, 17, 18, 19, 20, 21, 22, 7, 23, 24, 25, 26, 27, 28, 29, 30, 31, 32, 33, 34, 35, 36, 37, 38, 39, 40, 41, 42, 43, 44, 45, 46, 47, 48, 49, 50, 51] (by decide +kernel) (by decide +kernel)
set_option maxRecDepth 20000 in
theorem gX4_freed_X4_nearest : GoodIn wsX4_freed (wsV RX4 102 RX4 yX4_nearest wsX4_nearest) := goodIn_app (goodIn_of _ (by decide +kernel)) ggX4_freed_X4_nearest
theorem dX4_freed_0 : decode cX4_freed 0 = .ok (.aload_n 0, 1) := by decide +kernel
theorem dX4_freed_1 : decode cX4_freed 1 = .ok (.iconst 0, 1) := by decide +kernel
theorem dX4_freed_2 : decode cX4_freed 2 = .ok (.putfield 78, 3) := by decide +kernel
theorem dX4_freed_5 : decode cX4_freed 5 = .ok (.iconst 0, 1) := by decide +kernel
theorem dX4_freed_6 : decode cX4_freed 6 = .ok (.istore_n 1, 1) := by decide +kernel
theorem dX4_freed_7 : decode cX4_freed 7 = .ok (.iconst 0, 1) := by decide +kernel
theorem dX4_freed_8 : decode cX4_freed 8 = .ok (.istore_n 2, 1) := by decide +kernel
theorem dX4_freed_9 : decode cX4_freed 9 = .ok (.iload_n 2, 1) := by decide +kernel
theorem dX4_freed_10 : decode cX4_freed 10 = .ok (.aload_n 0, 1) := by decide +kernel
theorem dX4_freed_11 : decode cX4_freed 11 = .ok (.getfield 88, 3) := by decide +kernel
theorem dX4_freed_14 : decode cX4_freed 14 = .ok (.if_icmp .ge 51, 3) := by decide +kernel
theorem dX4_freed_17 : decode cX4_freed 17 = .ok (.aload_n 0, 1) := by decide +kernel
theorem dX4_freed_18 : decode cX4_freed 18 = .ok (.iload_n 2, 1) := by decide +kernel
theorem dX4_freed_19 : decode cX4_freed 19 = .ok (.iconst (-1), 1) := by decide +kernel
theorem dX4_freed_20 : decode cX4_freed 20 = .ok (.iconst 0, 1) := by decide +kernel
theorem dX4_freed_21 : decode cX4_freed 21 = .ok (.invokevirtual 106, 3) := by decide +kernel
theorem dX4_freed_24 : decode cX4_freed 24 = .ok (.ifCond .ne 6, 3) := by decide +kernel
theorem dX4_freed_27 : decode cX4_freed 27 = .ok (.goto 32, 3) := by decide +kernel
theorem dX4_freed_30 : decode cX4_freed 30 = .ok (.aload_n 0, 1) := by decide +kernel
theorem dX4_freed_31 : decode cX4_freed 31 = .ok (.getfield 47, 3) := by decide +kernel
theorem dX4_freed_34 : decode cX4_freed 34 = .ok (.iload_n 2, 1) := by decide +kernel
theorem dX4_freed_35 : decode cX4_freed 35 = .ok (.aload_n 0, 1) := by decide +kernel
theorem dX4_freed_36 : decode cX4_freed 36 = .ok (.iload_n 2, 1) := by decide +kernel
theorem dX4_freed_37 : decode cX4_freed 37 = .ok (.invokevirtual 102, 3) := by decide +kernel
theorem dX4_freed_40 : decode cX4_freed 40 = .ok (.iastore, 1) := by decide +kernel
theorem dX4_freed_41 : decode cX4_freed 41 = .ok (.iload_n 1, 1) := by decide +kernel
theorem dX4_freed_42 : decode cX4_freed 42 = .ok (.aload_n 0, 1) := by decide +kernel
theorem dX4_freed_43 : decode cX4_freed 43 = .ok (.getfield 47, 3) := by decide +kernel
theorem dX4_freed_46 : decode cX4_freed 46 = .ok (.iload_n 2, 1) := by decide +kernel
theorem dX4_freed_47 : decode cX4_freed 47 = .ok (.iaload, 1) := by decide +kernel
theorem dX4_freed_48 : decode cX4_freed 48 = .ok (.iconst (-1), 1) := by decide +kernel
theorem dX4_freed_49 : decode cX4_freed 49 = .ok (.if_icmp .ne 7, 3) := by decide +kernel
theorem dX4_freed_52 : decode cX4_freed 52 = .ok (.iconst 0, 1) := by decide +kernel
theorem dX4_freed_53 : decode cX4_freed 53 = .ok (.goto 4, 3) := by decide +kernel
theorem dX4_freed_56 : decode cX4_freed 56 = .ok (.iconst 1, 1) := by decide +kernel
theorem dX4_freed_57 : decode cX4_freed 57 = .ok (.iadd, 1) := by decide +kernel
theorem dX4_freed_58 : decode cX4_freed 58 = .ok (.istore_n 1, 1) := by decide +kernel
theorem dX4_freed_59 : decode cX4_freed 59 = .ok (.iinc 2 1, 3) := by decide +kernel
theorem dX4_freed_62 : decode cX4_freed 62 = .ok (.goto (-53), 3) := by decide +kernel
theorem dX4_freed_65 : decode cX4_freed 65 = .ok (.iload_n 1, 1) := by decide +kernel
theorem dX4_freed_66 : decode cX4_freed 66 = .ok (.ireturn, 1) := by decide +kernel
set_option maxRecDepth 20000 in
theorem ggX4_served_X4_isCall : GoodIn wsX4_served wsX4_isCall := goodIn_r _ [7, 8, 9, 10, 6, 11, 12, 13, 14, 15, 16, 17, 18, 19, 20, 21, 22, 23, 24, 25, 26, 27, 28, 29, 30, 31, 32, 33, 34, 35, 36, 37, 38, 39] (by decide +kernel) (by decide +kernel)
set_option maxRecDepth 20000 in
theorem gX4_served_X4_isCall : GoodIn wsX4_served (wsV RX4 142 RX4 yX4_isCall wsX4_isCall) := goodIn_app (goodIn_of _ (by decide +kernel)) ggX4_served_X4_isCall
theorem dX4_served_0 : decode cX4_served 0 = .ok (.aload_n 0, 1) := by decide +kernel
theorem dX4_served_1 : decode cX4_served 1 = .ok (.aload_n 0, 1) := by decide +kernel
theorem dX4_served_2 : decode cX4_served 2 = .ok (.iload_n 1, 1) := by decide +kernel
theorem dX4_served_3 : decode cX4_served 3 = .ok (.invokevirtual 142, 3) := by decide +kernel
theorem dX4_served_6 : decode cX4_served 6 = .ok (.ifCond .eq 7, 3) := by decide +kernel
theorem dX4_served_9 : decode cX4_served 9 = .ok (.iconst 0, 1) := by decide +kernel
theorem dX4_served_10 : decode cX4_served 10 = .ok (.goto 4, 3) := by decide +kernel
theorem dX4_served_13 : decode cX4_served 13 = .ok (.iconst 1, 1) := by decide +kernel
theorem dX4_served_14 : decode cX4_served 14 = .ok (.putfield 78, 3) := by decide +kernel
theorem dX4_served_17 : decode cX4_served 17 = .ok (.aload_n 0, 1) := by decide +kernel
theorem dX4_served_18 : decode cX4_served 18 = .ok (.getfield 78, 3) := by decide +kernel
theorem dX4_served_21 : decode cX4_served 21 = .ok (.ifCond .le 7, 3) := by decide +kernel
theorem dX4_served_24 : decode cX4_served 24 = .ok (.iconst 0, 1) := by decide +kernel
theorem dX4_served_25 : decode cX4_served 25 = .ok (.goto 9, 3) := by decide +kernel
theorem dX4_served_28 : decode cX4_served 28 = .ok (.aload_n 0, 1) := by decide +kernel
theorem dX4_served_29 : decode cX4_served 29 = .ok (.getfield 56, 3) := by decide +kernel
theorem dX4_served_32 : decode cX4_served 32 = .ok (.iload_n 1, 1) := by decide +kernel
theorem dX4_served_33 : decode cX4_served 33 = .ok (.iaload, 1) := by decide +kernel
theorem dX4_served_34 : decode cX4_served 34 = .ok (.ireturn, 1) := by decide +kernel
set_option maxRecDepth 20000 in
theorem ggX4_waits_X4_isCall : GoodIn wsX4_waits wsX4_isCall := goodIn_r _ [9, 10, 11, 12, 8, 13, 14, 15, 16, 17, 18, 19, 20, 21, 22, 23, 24, 25, 26, 27, 28, 29, 30, 31, 32, 33, 34, 35, 36, 37, 38, 39, 40, 41] (by decide +kernel) (by decide +kernel)
set_option maxRecDepth 20000 in
theorem gX4_waits_X4_isCall : GoodIn wsX4_waits (wsV RX4 142 RX4 yX4_isCall wsX4_isCall) := goodIn_app (goodIn_of _ (by decide +kernel)) ggX4_waits_X4_isCall
theorem dX4_waits_0 : decode cX4_waits 0 = .ok (.aload_n 0, 1) := by decide +kernel
theorem dX4_waits_1 : decode cX4_waits 1 = .ok (.aload_n 0, 1) := by decide +kernel
theorem dX4_waits_2 : decode cX4_waits 2 = .ok (.iload_n 1, 1) := by decide +kernel
theorem dX4_waits_3 : decode cX4_waits 3 = .ok (.invokevirtual 142, 3) := by decide +kernel
theorem dX4_waits_6 : decode cX4_waits 6 = .ok (.ifCond .eq 7, 3) := by decide +kernel
theorem dX4_waits_9 : decode cX4_waits 9 = .ok (.iconst 0, 1) := by decide +kernel
theorem dX4_waits_10 : decode cX4_waits 10 = .ok (.goto 4, 3) := by decide +kernel
theorem dX4_waits_13 : decode cX4_waits 13 = .ok (.iconst 1, 1) := by decide +kernel
theorem dX4_waits_14 : decode cX4_waits 14 = .ok (.putfield 78, 3) := by decide +kernel
theorem dX4_waits_17 : decode cX4_waits 17 = .ok (.aload_n 0, 1) := by decide +kernel
theorem dX4_waits_18 : decode cX4_waits 18 = .ok (.getfield 78, 3) := by decide +kernel
theorem dX4_waits_21 : decode cX4_waits 21 = .ok (.ifCond .le 5, 3) := by decide +kernel
theorem dX4_waits_24 : decode cX4_waits 24 = .ok (.iconst 0, 1) := by decide +kernel
theorem dX4_waits_25 : decode cX4_waits 25 = .ok (.ireturn, 1) := by decide +kernel
theorem dX4_waits_26 : decode cX4_waits 26 = .ok (.aload_n 0, 1) := by decide +kernel
theorem dX4_waits_27 : decode cX4_waits 27 = .ok (.getfield 53, 3) := by decide +kernel
theorem dX4_waits_30 : decode cX4_waits 30 = .ok (.iload_n 1, 1) := by decide +kernel
theorem dX4_waits_31 : decode cX4_waits 31 = .ok (.iaload, 1) := by decide +kernel
theorem dX4_waits_32 : decode cX4_waits 32 = .ok (.iconst (-1), 1) := by decide +kernel
theorem dX4_waits_33 : decode cX4_waits 33 = .ok (.if_icmp .ne 10, 3) := by decide +kernel
theorem dX4_waits_36 : decode cX4_waits 36 = .ok (.aload_n 0, 1) := by decide +kernel
theorem dX4_waits_37 : decode cX4_waits 37 = .ok (.getfield 99, 3) := by decide +kernel
theorem dX4_waits_40 : decode cX4_waits 40 = .ok (.goto 9, 3) := by decide +kernel
theorem dX4_waits_43 : decode cX4_waits 43 = .ok (.aload_n 0, 1) := by decide +kernel
theorem dX4_waits_44 : decode cX4_waits 44 = .ok (.getfield 53, 3) := by decide +kernel
theorem dX4_waits_47 : decode cX4_waits 47 = .ok (.iload_n 1, 1) := by decide +kernel
theorem dX4_waits_48 : decode cX4_waits 48 = .ok (.iaload, 1) := by decide +kernel
theorem dX4_waits_49 : decode cX4_waits 49 = .ok (.aload_n 0, 1) := by decide +kernel
theorem dX4_waits_50 : decode cX4_waits 50 = .ok (.getfield 50, 3) := by decide +kernel
theorem dX4_waits_53 : decode cX4_waits 53 = .ok (.iload_n 1, 1) := by decide +kernel
theorem dX4_waits_54 : decode cX4_waits 54 = .ok (.iaload, 1) := by decide +kernel
theorem dX4_waits_55 : decode cX4_waits 55 = .ok (.isub, 1) := by decide +kernel
theorem dX4_waits_56 : decode cX4_waits 56 = .ok (.ireturn, 1) := by decide +kernel
theorem dX4_lower_0 : decode cX4_lower 0 = .ok (.iload_n 3, 1) := by decide +kernel
theorem dX4_lower_1 : decode cX4_lower 1 = .ok (.aload_n 0, 1) := by decide +kernel
theorem dX4_lower_2 : decode cX4_lower 2 = .ok (.getfield 68, 3) := by decide +kernel
theorem dX4_lower_5 : decode cX4_lower 5 = .ok (.bipush 20, 2) := by decide +kernel
theorem dX4_lower_7 : decode cX4_lower 7 = .ok (.iload_n 1, 1) := by decide +kernel
theorem dX4_lower_8 : decode cX4_lower 8 = .ok (.imul, 1) := by decide +kernel
theorem dX4_lower_9 : decode cX4_lower 9 = .ok (.iload_n 2, 1) := by decide +kernel
theorem dX4_lower_10 : decode cX4_lower 10 = .ok (.iadd, 1) := by decide +kernel
theorem dX4_lower_11 : decode cX4_lower 11 = .ok (.iaload, 1) := by decide +kernel
theorem dX4_lower_12 : decode cX4_lower 12 = .ok (.if_icmp .ge 15, 3) := by decide +kernel
theorem dX4_lower_15 : decode cX4_lower 15 = .ok (.aload_n 0, 1) := by decide +kernel
theorem dX4_lower_16 : decode cX4_lower 16 = .ok (.getfield 68, 3) := by decide +kernel
theorem dX4_lower_19 : decode cX4_lower 19 = .ok (.bipush 20, 2) := by decide +kernel
theorem dX4_lower_21 : decode cX4_lower 21 = .ok (.iload_n 1, 1) := by decide +kernel
theorem dX4_lower_22 : decode cX4_lower 22 = .ok (.imul, 1) := by decide +kernel
theorem dX4_lower_23 : decode cX4_lower 23 = .ok (.iload_n 2, 1) := by decide +kernel
theorem dX4_lower_24 : decode cX4_lower 24 = .ok (.iadd, 1) := by decide +kernel
theorem dX4_lower_25 : decode cX4_lower 25 = .ok (.iload_n 3, 1) := by decide +kernel
theorem dX4_lower_26 : decode cX4_lower 26 = .ok (.iastore, 1) := by decide +kernel
theorem dX4_lower_27 : decode cX4_lower 27 = .ok (.return_, 1) := by decide +kernel
set_option maxRecDepth 20000 in
theorem ggX4_least_X4_isLift : GoodIn wsX4_least wsX4_isLift := goodIn_r _ [13, 14, 15, 16, 12, 17, 40, 41, 42, 43, 44, 45, 46, 47, 48, 49, 50, 51, 52, 53, 54, 55, 56, 57, 58, 59, 60, 61, 62, 63, 64, 65, 66, 67] (by decide +kernel) (by decide +kernel)
set_option maxRecDepth 20000 in
theorem gX4_least_X4_isLift : GoodIn wsX4_least (wsV RX4 136 RX4 yX4_isLift wsX4_isLift) := goodIn_app (goodIn_of _ (by decide +kernel)) ggX4_least_X4_isLift
set_option maxRecDepth 20000 in
theorem ggX4_least_X4_many : GoodIn wsX4_least wsX4_many := goodIn_r _ [21, 2, 22, 23, 24, 12, 25, 26, 4, 40, 41, 42, 43, 44, 45, 46, 47, 48, 49, 50, 51, 52, 53, 54, 55, 56, 57, 58, 59, 60, 61, 62, 63, 64, 65, 66, 67] (by decide +kernel) (by decide +kernel)
set_option maxRecDepth 20000 in
theorem gX4_least_X4_many : GoodIn wsX4_least (wsV RX4 139 RX4 yX4_many wsX4_many) := goodIn_app (goodIn_of _ (by decide +kernel)) ggX4_least_X4_many
set_option maxRecDepth 20000 in
theorem ggX4_least_X4_is : GoodIn wsX4_least wsX4_is := goodIn_r _ [25, 26, 4, 40, 41, 42, 43, 44, 45, 46, 47, 48, 49, 50, 51, 52, 53, 54, 55, 56, 57, 58, 59, 60, 61, 62, 63, 64, 65, 66, 67] (by decide +kernel) (by decide +kernel)
set_option maxRecDepth 20000 in
theorem gX4_least_X4_is : GoodIn wsX4_least (wsV RX4 106 RX4 yX4_is wsX4_is) := goodIn_app (goodIn_of _ (by decide +kernel)) ggX4_least_X4_is
set_option maxRecDepth 20000 in
theorem ggX4_least_X4_goOn : GoodIn wsX4_least wsX4_goOn := goodIn_r _ [30, 31, 3, 32, 5, 33, 34, 12, 35, 36, 37, 38, 39, 40, 41, 42, 43, 44, 45, 46, 47, 48, 49, 50, 51, 52, 53, 54, 55, 56, 57, 58, 59, 60, 61, 62, 63, 64, 65, 66, 67] (by decide +kernel) (by decide +kernel)
set_option maxRecDepth 20000 in
theorem gX4_least_X4_goOn : GoodIn wsX4_least (wsV RX4 146 RX4 yX4_goOn wsX4_goOn) := goodIn_app (goodIn_of _ (by decide +kernel)) ggX4_least_X4_goOn
theorem dX4_least_0 : decode cX4_least 0 = .ok (.aload_n 0, 1) := by decide +kernel
theorem dX4_least_1 : decode cX4_least 1 = .ok (.aload_n 0, 1) := by decide +kernel
theorem dX4_least_2 : decode cX4_least 2 = .ok (.iload_n 1, 1) := by decide +kernel
theorem dX4_least_3 : decode cX4_least 3 = .ok (.invokevirtual 136, 3) := by decide +kernel
theorem dX4_least_6 : decode cX4_least 6 = .ok (.ifCond .eq 7, 3) := by decide +kernel
theorem dX4_least_9 : decode cX4_least 9 = .ok (.iconst 0, 1) := by decide +kernel
theorem dX4_least_10 : decode cX4_least 10 = .ok (.goto 4, 3) := by decide +kernel
theorem dX4_least_13 : decode cX4_least 13 = .ok (.iconst 1, 1) := by decide +kernel
theorem dX4_least_14 : decode cX4_least 14 = .ok (.putfield 78, 3) := by decide +kernel
theorem dX4_least_17 : decode cX4_least 17 = .ok (.aload_n 0, 1) := by decide +kernel
theorem dX4_least_18 : decode cX4_least 18 = .ok (.getfield 78, 3) := by decide +kernel
theorem dX4_least_21 : decode cX4_least 21 = .ok (.ifCond .le 5, 3) := by decide +kernel
theorem dX4_least_24 : decode cX4_least 24 = .ok (.iconst 0, 1) := by decide +kernel
theorem dX4_least_25 : decode cX4_least 25 = .ok (.ireturn, 1) := by decide +kernel
theorem dX4_least_26 : decode cX4_least 26 = .ok (.aload_n 0, 1) := by decide +kernel
theorem dX4_least_27 : decode cX4_least 27 = .ok (.iload_n 1, 1) := by decide +kernel
theorem dX4_least_28 : decode cX4_least 28 = .ok (.iconst 1, 1) := by decide +kernel
theorem dX4_least_29 : decode cX4_least 29 = .ok (.invokevirtual 139, 3) := by decide +kernel
theorem dX4_least_32 : decode cX4_least 32 = .ok (.aload_n 0, 1) := by decide +kernel
theorem dX4_least_33 : decode cX4_least 33 = .ok (.iload_n 1, 1) := by decide +kernel
theorem dX4_least_34 : decode cX4_least 34 = .ok (.iconst 0, 1) := by decide +kernel
theorem dX4_least_35 : decode cX4_least 35 = .ok (.invokevirtual 139, 3) := by decide +kernel
theorem dX4_least_38 : decode cX4_least 38 = .ok (.iadd, 1) := by decide +kernel
theorem dX4_least_39 : decode cX4_least 39 = .ok (.istore_n 2, 1) := by decide +kernel
theorem dX4_least_40 : decode cX4_least 40 = .ok (.iload_n 2, 1) := by decide +kernel
theorem dX4_least_41 : decode cX4_least 41 = .ok (.iconst 4, 1) := by decide +kernel
theorem dX4_least_42 : decode cX4_least 42 = .ok (.if_icmp .le 5, 3) := by decide +kernel
theorem dX4_least_45 : decode cX4_least 45 = .ok (.iconst (-1), 1) := by decide +kernel
theorem dX4_least_46 : decode cX4_least 46 = .ok (.ireturn, 1) := by decide +kernel
theorem dX4_least_47 : decode cX4_least 47 = .ok (.iconst 0, 1) := by decide +kernel
theorem dX4_least_48 : decode cX4_least 48 = .ok (.istore_n 3, 1) := by decide +kernel
theorem dX4_least_49 : decode cX4_least 49 = .ok (.iconst 0, 1) := by decide +kernel
theorem dX4_least_50 : decode cX4_least 50 = .ok (.istore 4, 2) := by decide +kernel
theorem dX4_least_52 : decode cX4_least 52 = .ok (.iconst 1, 1) := by decide +kernel
theorem dX4_least_53 : decode cX4_least 53 = .ok (.istore 5, 2) := by decide +kernel
theorem dX4_least_55 : decode cX4_least 55 = .ok (.iconst 0, 1) := by decide +kernel
theorem dX4_least_56 : decode cX4_least 56 = .ok (.istore 6, 2) := by decide +kernel
theorem dX4_least_58 : decode cX4_least 58 = .ok (.iload 6, 2) := by decide +kernel
theorem dX4_least_60 : decode cX4_least 60 = .ok (.aload_n 0, 1) := by decide +kernel
theorem dX4_least_61 : decode cX4_least 61 = .ok (.getfield 88, 3) := by decide +kernel
theorem dX4_least_64 : decode cX4_least 64 = .ok (.if_icmp .ge 66, 3) := by decide +kernel
theorem dX4_least_67 : decode cX4_least 67 = .ok (.aload_n 0, 1) := by decide +kernel
theorem dX4_least_68 : decode cX4_least 68 = .ok (.iload 6, 2) := by decide +kernel
theorem dX4_least_70 : decode cX4_least 70 = .ok (.iload_n 1, 1) := by decide +kernel
theorem dX4_least_71 : decode cX4_least 71 = .ok (.iconst 1, 1) := by decide +kernel
theorem dX4_least_72 : decode cX4_least 72 = .ok (.invokevirtual 106, 3) := by decide +kernel
theorem dX4_least_75 : decode cX4_least 75 = .ok (.ifCond .ne 17, 3) := by decide +kernel
theorem dX4_least_78 : decode cX4_least 78 = .ok (.aload_n 0, 1) := by decide +kernel
theorem dX4_least_79 : decode cX4_least 79 = .ok (.iload 6, 2) := by decide +kernel
theorem dX4_least_81 : decode cX4_least 81 = .ok (.iload_n 1, 1) := by decide +kernel
theorem dX4_least_82 : decode cX4_least 82 = .ok (.iconst 0, 1) := by decide +kernel
theorem dX4_least_83 : decode cX4_least 83 = .ok (.invokevirtual 106, 3) := by decide +kernel
theorem dX4_least_86 : decode cX4_least 86 = .ok (.ifCond .ne 6, 3) := by decide +kernel
theorem dX4_least_89 : decode cX4_least 89 = .ok (.goto 35, 3) := by decide +kernel
theorem dX4_least_92 : decode cX4_least 92 = .ok (.aload_n 0, 1) := by decide +kernel
theorem dX4_least_93 : decode cX4_least 93 = .ok (.getfield 71, 3) := by decide +kernel
theorem dX4_least_96 : decode cX4_least 96 = .ok (.iload_n 3, 1) := by decide +kernel
theorem dX4_least_97 : decode cX4_least 97 = .ok (.iload 6, 2) := by decide +kernel
theorem dX4_least_99 : decode cX4_least 99 = .ok (.iastore, 1) := by decide +kernel
theorem dX4_least_100 : decode cX4_least 100 = .ok (.iload 4, 2) := by decide +kernel
theorem dX4_least_102 : decode cX4_least 102 = .ok (.aload_n 0, 1) := by decide +kernel
theorem dX4_least_103 : decode cX4_least 103 = .ok (.getfield 44, 3) := by decide +kernel
theorem dX4_least_106 : decode cX4_least 106 = .ok (.iload 6, 2) := by decide +kernel
theorem dX4_least_108 : decode cX4_least 108 = .ok (.iaload, 1) := by decide +kernel
theorem dX4_least_109 : decode cX4_least 109 = .ok (.iload 5, 2) := by decide +kernel
theorem dX4_least_111 : decode cX4_least 111 = .ok (.imul, 1) := by decide +kernel
theorem dX4_least_112 : decode cX4_least 112 = .ok (.iadd, 1) := by decide +kernel
theorem dX4_least_113 : decode cX4_least 113 = .ok (.istore 4, 2) := by decide +kernel
theorem dX4_least_115 : decode cX4_least 115 = .ok (.iload 5, 2) := by decide +kernel
theorem dX4_least_117 : decode cX4_least 117 = .ok (.iconst 3, 1) := by decide +kernel
theorem dX4_least_118 : decode cX4_least 118 = .ok (.imul, 1) := by decide +kernel
theorem dX4_least_119 : decode cX4_least 119 = .ok (.istore 5, 2) := by decide +kernel
theorem dX4_least_121 : decode cX4_least 121 = .ok (.iinc 3 1, 3) := by decide +kernel
theorem dX4_least_124 : decode cX4_least 124 = .ok (.iinc 6 1, 3) := by decide +kernel
theorem dX4_least_127 : decode cX4_least 127 = .ok (.goto (-69), 3) := by decide +kernel
theorem dX4_least_130 : decode cX4_least 130 = .ok (.iconst 0, 1) := by decide +kernel
theorem dX4_least_131 : decode cX4_least 131 = .ok (.istore 6, 2) := by decide +kernel
theorem dX4_least_133 : decode cX4_least 133 = .ok (.iload 6, 2) := by decide +kernel
theorem dX4_least_135 : decode cX4_least 135 = .ok (.bipush 20, 2) := by decide +kernel
theorem dX4_least_137 : decode cX4_least 137 = .ok (.iload 5, 2) := by decide +kernel
theorem dX4_least_139 : decode cX4_least 139 = .ok (.imul, 1) := by decide +kernel
theorem dX4_least_140 : decode cX4_least 140 = .ok (.if_icmp .ge 18, 3) := by decide +kernel
theorem dX4_least_143 : decode cX4_least 143 = .ok (.aload_n 0, 1) := by decide +kernel
theorem dX4_least_144 : decode cX4_least 144 = .ok (.getfield 68, 3) := by decide +kernel
theorem dX4_least_147 : decode cX4_least 147 = .ok (.iload 6, 2) := by decide +kernel
theorem dX4_least_149 : decode cX4_least 149 = .ok (.ldc 145, 2) := by decide +kernel
theorem dX4_least_151 : decode cX4_least 151 = .ok (.iastore, 1) := by decide +kernel
theorem dX4_least_152 : decode cX4_least 152 = .ok (.iinc 6 1, 3) := by decide +kernel
theorem dX4_least_155 : decode cX4_least 155 = .ok (.goto (-22), 3) := by decide +kernel
theorem dX4_least_158 : decode cX4_least 158 = .ok (.aload_n 0, 1) := by decide +kernel
theorem dX4_least_159 : decode cX4_least 159 = .ok (.getfield 68, 3) := by decide +kernel
theorem dX4_least_162 : decode cX4_least 162 = .ok (.bipush 20, 2) := by decide +kernel
theorem dX4_least_164 : decode cX4_least 164 = .ok (.iload 4, 2) := by decide +kernel
theorem dX4_least_166 : decode cX4_least 166 = .ok (.imul, 1) := by decide +kernel
theorem dX4_least_167 : decode cX4_least 167 = .ok (.aload_n 0, 1) := by decide +kernel
theorem dX4_least_168 : decode cX4_least 168 = .ok (.getfield 7, 3) := by decide +kernel
theorem dX4_least_171 : decode cX4_least 171 = .ok (.iload_n 1, 1) := by decide +kernel
theorem dX4_least_172 : decode cX4_least 172 = .ok (.iaload, 1) := by decide +kernel
theorem dX4_least_173 : decode cX4_least 173 = .ok (.iadd, 1) := by decide +kernel
theorem dX4_least_174 : decode cX4_least 174 = .ok (.iconst 0, 1) := by decide +kernel
theorem dX4_least_175 : decode cX4_least 175 = .ok (.iastore, 1) := by decide +kernel
theorem dX4_least_176 : decode cX4_least 176 = .ok (.iload 4, 2) := by decide +kernel
theorem dX4_least_178 : decode cX4_least 178 = .ok (.istore 6, 2) := by decide +kernel
theorem dX4_least_180 : decode cX4_least 180 = .ok (.iload 6, 2) := by decide +kernel
theorem dX4_least_182 : decode cX4_least 182 = .ok (.iload 5, 2) := by decide +kernel
theorem dX4_least_184 : decode cX4_least 184 = .ok (.if_icmp .ge 54, 3) := by decide +kernel
theorem dX4_least_187 : decode cX4_least 187 = .ok (.iconst 0, 1) := by decide +kernel
theorem dX4_least_188 : decode cX4_least 188 = .ok (.istore 7, 2) := by decide +kernel
theorem dX4_least_190 : decode cX4_least 190 = .ok (.iload 7, 2) := by decide +kernel
theorem dX4_least_192 : decode cX4_least 192 = .ok (.aload_n 0, 1) := by decide +kernel
theorem dX4_least_193 : decode cX4_least 193 = .ok (.getfield 74, 3) := by decide +kernel
theorem dX4_least_196 : decode cX4_least 196 = .ok (.if_icmp .ge 36, 3) := by decide +kernel
theorem dX4_least_199 : decode cX4_least 199 = .ok (.aload_n 0, 1) := by decide +kernel
theorem dX4_least_200 : decode cX4_least 200 = .ok (.getfield 68, 3) := by decide +kernel
theorem dX4_least_203 : decode cX4_least 203 = .ok (.bipush 20, 2) := by decide +kernel
theorem dX4_least_205 : decode cX4_least 205 = .ok (.iload 6, 2) := by decide +kernel
theorem dX4_least_207 : decode cX4_least 207 = .ok (.imul, 1) := by decide +kernel
theorem dX4_least_208 : decode cX4_least 208 = .ok (.iload 7, 2) := by decide +kernel
theorem dX4_least_210 : decode cX4_least 210 = .ok (.iadd, 1) := by decide +kernel
theorem dX4_least_211 : decode cX4_least 211 = .ok (.iaload, 1) := by decide +kernel
theorem dX4_least_212 : decode cX4_least 212 = .ok (.ldc 145, 2) := by decide +kernel
theorem dX4_least_214 : decode cX4_least 214 = .ok (.if_icmp .ge 12, 3) := by decide +kernel
theorem dX4_least_217 : decode cX4_least 217 = .ok (.aload_n 0, 1) := by decide +kernel
theorem dX4_least_218 : decode cX4_least 218 = .ok (.iload 6, 2) := by decide +kernel
theorem dX4_least_220 : decode cX4_least 220 = .ok (.iload 7, 2) := by decide +kernel
theorem dX4_least_222 : decode cX4_least 222 = .ok (.iload_n 2, 1) := by decide +kernel
theorem dX4_least_223 : decode cX4_least 223 = .ok (.invokevirtual 146, 3) := by decide +kernel
theorem dX4_least_226 : decode cX4_least 226 = .ok (.iinc 7 1, 3) := by decide +kernel
theorem dX4_least_229 : decode cX4_least 229 = .ok (.goto (-39), 3) := by decide +kernel
theorem dX4_least_232 : decode cX4_least 232 = .ok (.iinc 6 1, 3) := by decide +kernel
theorem dX4_least_235 : decode cX4_least 235 = .ok (.goto (-55), 3) := by decide +kernel
theorem dX4_least_238 : decode cX4_least 238 = .ok (.ldc 145, 2) := by decide +kernel
theorem dX4_least_240 : decode cX4_least 240 = .ok (.istore 6, 2) := by decide +kernel
theorem dX4_least_242 : decode cX4_least 242 = .ok (.iconst 0, 1) := by decide +kernel
theorem dX4_least_243 : decode cX4_least 243 = .ok (.istore 7, 2) := by decide +kernel
theorem dX4_least_245 : decode cX4_least 245 = .ok (.iload 7, 2) := by decide +kernel
theorem dX4_least_247 : decode cX4_least 247 = .ok (.aload_n 0, 1) := by decide +kernel
theorem dX4_least_248 : decode cX4_least 248 = .ok (.getfield 74, 3) := by decide +kernel
theorem dX4_least_251 : decode cX4_least 251 = .ok (.if_icmp .ge 51, 3) := by decide +kernel
theorem dX4_least_254 : decode cX4_least 254 = .ok (.aload_n 0, 1) := by decide +kernel
theorem dX4_least_255 : decode cX4_least 255 = .ok (.getfield 68, 3) := by decide +kernel
theorem dX4_least_258 : decode cX4_least 258 = .ok (.bipush 20, 2) := by decide +kernel
theorem dX4_least_260 : decode cX4_least 260 = .ok (.iload 5, 2) := by decide +kernel
theorem dX4_least_262 : decode cX4_least 262 = .ok (.iconst 1, 1) := by decide +kernel
theorem dX4_least_263 : decode cX4_least 263 = .ok (.isub, 1) := by decide +kernel
theorem dX4_least_264 : decode cX4_least 264 = .ok (.imul, 1) := by decide +kernel
theorem dX4_least_265 : decode cX4_least 265 = .ok (.iload 7, 2) := by decide +kernel
theorem dX4_least_267 : decode cX4_least 267 = .ok (.iadd, 1) := by decide +kernel
theorem dX4_least_268 : decode cX4_least 268 = .ok (.iaload, 1) := by decide +kernel
theorem dX4_least_269 : decode cX4_least 269 = .ok (.iload 6, 2) := by decide +kernel
theorem dX4_least_271 : decode cX4_least 271 = .ok (.if_icmp .ge 21, 3) := by decide +kernel
theorem dX4_least_274 : decode cX4_least 274 = .ok (.aload_n 0, 1) := by decide +kernel
theorem dX4_least_275 : decode cX4_least 275 = .ok (.getfield 68, 3) := by decide +kernel
theorem dX4_least_278 : decode cX4_least 278 = .ok (.bipush 20, 2) := by decide +kernel
theorem dX4_least_280 : decode cX4_least 280 = .ok (.iload 5, 2) := by decide +kernel
theorem dX4_least_282 : decode cX4_least 282 = .ok (.iconst 1, 1) := by decide +kernel
theorem dX4_least_283 : decode cX4_least 283 = .ok (.isub, 1) := by decide +kernel
theorem dX4_least_284 : decode cX4_least 284 = .ok (.imul, 1) := by decide +kernel
theorem dX4_least_285 : decode cX4_least 285 = .ok (.iload 7, 2) := by decide +kernel
theorem dX4_least_287 : decode cX4_least 287 = .ok (.iadd, 1) := by decide +kernel
theorem dX4_least_288 : decode cX4_least 288 = .ok (.iaload, 1) := by decide +kernel
theorem dX4_least_289 : decode cX4_least 289 = .ok (.goto 5, 3) := by decide +kernel
theorem dX4_least_292 : decode cX4_least 292 = .ok (.iload 6, 2) := by decide +kernel
theorem dX4_least_294 : decode cX4_least 294 = .ok (.istore 6, 2) := by decide +kernel
theorem dX4_least_296 : decode cX4_least 296 = .ok (.iinc 7 1, 3) := by decide +kernel
theorem dX4_least_299 : decode cX4_least 299 = .ok (.goto (-54), 3) := by decide +kernel
theorem dX4_least_302 : decode cX4_least 302 = .ok (.iload 6, 2) := by decide +kernel
theorem dX4_least_304 : decode cX4_least 304 = .ok (.ireturn, 1) := by decide +kernel
set_option maxRecDepth 20000 in
theorem ggX4_goOn_X4_far : GoodIn wsX4_goOn wsX4_far := goodIn_r _ [8] (by decide +kernel) (by decide +kernel)
set_option maxRecDepth 20000 in
theorem gX4_goOn_X4_far : GoodIn wsX4_goOn (va_wsS RX4 95 yX4_far wsX4_far) := goodIn_app (goodIn_of _ (by decide +kernel)) ggX4_goOn_X4_far
set_option maxRecDepth 20000 in
theorem ggX4_goOn_X4_lower : GoodIn wsX4_goOn wsX4_lower := goodIn_r _ [12, 4, 13, 14, 15, 16, 17, 18, 19, 20, 21, 22, 23, 24, 25, 26, 27, 28, 29, 30, 31, 32, 33, 34, 35, 36, 37, 38, 39, 40] (by decide +kernel) (by decide +kernel)
set_option maxRecDepth 20000 in
theorem gX4_goOn_X4_lower : GoodIn wsX4_goOn (wsV RX4 150 RX4 yX4_lower wsX4_lower) := goodIn_app (goodIn_of _ (by decide +kernel)) ggX4_goOn_X4_lower
theorem dX4_goOn_0 : decode cX4_goOn 0 = .ok (.iconst 1, 1) := by decide +kernel
theorem dX4_goOn_1 : decode cX4_goOn 1 = .ok (.istore 4, 2) := by decide +kernel
theorem dX4_goOn_3 : decode cX4_goOn 3 = .ok (.iconst 0, 1) := by decide +kernel
theorem dX4_goOn_4 : decode cX4_goOn 4 = .ok (.istore 5, 2) := by decide +kernel
theorem dX4_goOn_6 : decode cX4_goOn 6 = .ok (.iload 5, 2) := by decide +kernel
theorem dX4_goOn_8 : decode cX4_goOn 8 = .ok (.iload_n 3, 1) := by decide +kernel
theorem dX4_goOn_9 : decode cX4_goOn 9 = .ok (.if_icmp .ge 91, 3) := by decide +kernel
theorem dX4_goOn_12 : decode cX4_goOn 12 = .ok (.iload_n 1, 1) := by decide +kernel
theorem dX4_goOn_13 : decode cX4_goOn 13 = .ok (.iload 4, 2) := by decide +kernel
theorem dX4_goOn_15 : decode cX4_goOn 15 = .ok (.idiv, 1) := by decide +kernel
theorem dX4_goOn_16 : decode cX4_goOn 16 = .ok (.iconst 3, 1) := by decide +kernel
theorem dX4_goOn_17 : decode cX4_goOn 17 = .ok (.irem, 1) := by decide +kernel
theorem dX4_goOn_18 : decode cX4_goOn 18 = .ok (.istore 6, 2) := by decide +kernel
theorem dX4_goOn_20 : decode cX4_goOn 20 = .ok (.iload 6, 2) := by decide +kernel
theorem dX4_goOn_22 : decode cX4_goOn 22 = .ok (.ifCond .ne 18, 3) := by decide +kernel
theorem dX4_goOn_25 : decode cX4_goOn 25 = .ok (.aload_n 0, 1) := by decide +kernel
theorem dX4_goOn_26 : decode cX4_goOn 26 = .ok (.getfield 32, 3) := by decide +kernel
theorem dX4_goOn_29 : decode cX4_goOn 29 = .ok (.aload_n 0, 1) := by decide +kernel
theorem dX4_goOn_30 : decode cX4_goOn 30 = .ok (.getfield 71, 3) := by decide +kernel
theorem dX4_goOn_33 : decode cX4_goOn 33 = .ok (.iload 5, 2) := by decide +kernel
theorem dX4_goOn_35 : decode cX4_goOn 35 = .ok (.iaload, 1) := by decide +kernel
theorem dX4_goOn_36 : decode cX4_goOn 36 = .ok (.iaload, 1) := by decide +kernel
theorem dX4_goOn_37 : decode cX4_goOn 37 = .ok (.goto 15, 3) := by decide +kernel
theorem dX4_goOn_40 : decode cX4_goOn 40 = .ok (.aload_n 0, 1) := by decide +kernel
theorem dX4_goOn_41 : decode cX4_goOn 41 = .ok (.getfield 35, 3) := by decide +kernel
theorem dX4_goOn_44 : decode cX4_goOn 44 = .ok (.aload_n 0, 1) := by decide +kernel
theorem dX4_goOn_45 : decode cX4_goOn 45 = .ok (.getfield 71, 3) := by decide +kernel
theorem dX4_goOn_48 : decode cX4_goOn 48 = .ok (.iload 5, 2) := by decide +kernel
theorem dX4_goOn_50 : decode cX4_goOn 50 = .ok (.iaload, 1) := by decide +kernel
theorem dX4_goOn_51 : decode cX4_goOn 51 = .ok (.iaload, 1) := by decide +kernel
theorem dX4_goOn_52 : decode cX4_goOn 52 = .ok (.istore 7, 2) := by decide +kernel
theorem dX4_goOn_54 : decode cX4_goOn 54 = .ok (.iload 6, 2) := by decide +kernel
theorem dX4_goOn_56 : decode cX4_goOn 56 = .ok (.iconst 2, 1) := by decide +kernel
theorem dX4_goOn_57 : decode cX4_goOn 57 = .ok (.if_icmp .ge 31, 3) := by decide +kernel
theorem dX4_goOn_60 : decode cX4_goOn 60 = .ok (.aload_n 0, 1) := by decide +kernel
theorem dX4_goOn_61 : decode cX4_goOn 61 = .ok (.iload_n 1, 1) := by decide +kernel
theorem dX4_goOn_62 : decode cX4_goOn 62 = .ok (.iload 4, 2) := by decide +kernel
theorem dX4_goOn_64 : decode cX4_goOn 64 = .ok (.iadd, 1) := by decide +kernel
theorem dX4_goOn_65 : decode cX4_goOn 65 = .ok (.iload 7, 2) := by decide +kernel
theorem dX4_goOn_67 : decode cX4_goOn 67 = .ok (.aload_n 0, 1) := by decide +kernel
theorem dX4_goOn_68 : decode cX4_goOn 68 = .ok (.getfield 68, 3) := by decide +kernel
theorem dX4_goOn_71 : decode cX4_goOn 71 = .ok (.bipush 20, 2) := by decide +kernel
theorem dX4_goOn_73 : decode cX4_goOn 73 = .ok (.iload_n 1, 1) := by decide +kernel
theorem dX4_goOn_74 : decode cX4_goOn 74 = .ok (.imul, 1) := by decide +kernel
theorem dX4_goOn_75 : decode cX4_goOn 75 = .ok (.iload_n 2, 1) := by decide +kernel
theorem dX4_goOn_76 : decode cX4_goOn 76 = .ok (.iadd, 1) := by decide +kernel
theorem dX4_goOn_77 : decode cX4_goOn 77 = .ok (.iaload, 1) := by decide +kernel
theorem dX4_goOn_78 : decode cX4_goOn 78 = .ok (.iload_n 2, 1) := by decide +kernel
theorem dX4_goOn_79 : decode cX4_goOn 79 = .ok (.iload 7, 2) := by decide +kernel
theorem dX4_goOn_81 : decode cX4_goOn 81 = .ok (.invokestatic 95, 3) := by decide +kernel
theorem dX4_goOn_84 : decode cX4_goOn 84 = .ok (.iadd, 1) := by decide +kernel
theorem dX4_goOn_85 : decode cX4_goOn 85 = .ok (.invokevirtual 150, 3) := by decide +kernel
theorem dX4_goOn_88 : decode cX4_goOn 88 = .ok (.iload 4, 2) := by decide +kernel
theorem dX4_goOn_90 : decode cX4_goOn 90 = .ok (.iconst 3, 1) := by decide +kernel
theorem dX4_goOn_91 : decode cX4_goOn 91 = .ok (.imul, 1) := by decide +kernel
theorem dX4_goOn_92 : decode cX4_goOn 92 = .ok (.istore 4, 2) := by decide +kernel
theorem dX4_goOn_94 : decode cX4_goOn 94 = .ok (.iinc 5 1, 3) := by decide +kernel
theorem dX4_goOn_97 : decode cX4_goOn 97 = .ok (.goto (-91), 3) := by decide +kernel
theorem dX4_goOn_100 : decode cX4_goOn 100 = .ok (.return_, 1) := by decide +kernel
set_option maxRecDepth 20000 in
theorem ggX4_joins_X4_isCall : GoodIn wsX4_joins wsX4_isCall := goodIn_r _ [9, 10, 11, 12, 8, 13, 14, 15, 16, 17, 18, 19, 20, 21, 22, 23, 24, 25, 26, 27, 28, 29, 30, 31, 32, 33, 34, 35, 36, 37, 38, 39, 40, 41] (by decide +kernel) (by decide +kernel)
set_option maxRecDepth 20000 in
theorem gX4_joins_X4_isCall : GoodIn wsX4_joins (wsV RX4 142 RX4 yX4_isCall wsX4_isCall) := goodIn_app (goodIn_of _ (by decide +kernel)) ggX4_joins_X4_isCall
theorem dX4_joins_0 : decode cX4_joins 0 = .ok (.aload_n 0, 1) := by decide +kernel
theorem dX4_joins_1 : decode cX4_joins 1 = .ok (.aload_n 0, 1) := by decide +kernel
theorem dX4_joins_2 : decode cX4_joins 2 = .ok (.iload_n 1, 1) := by decide +kernel
theorem dX4_joins_3 : decode cX4_joins 3 = .ok (.invokevirtual 142, 3) := by decide +kernel
theorem dX4_joins_6 : decode cX4_joins 6 = .ok (.ifCond .eq 11, 3) := by decide +kernel
theorem dX4_joins_9 : decode cX4_joins 9 = .ok (.aload_n 0, 1) := by decide +kernel
theorem dX4_joins_10 : decode cX4_joins 10 = .ok (.iload_n 2, 1) := by decide +kernel
theorem dX4_joins_11 : decode cX4_joins 11 = .ok (.invokevirtual 142, 3) := by decide +kernel
theorem dX4_joins_14 : decode cX4_joins 14 = .ok (.ifCond .ne 7, 3) := by decide +kernel
theorem dX4_joins_17 : decode cX4_joins 17 = .ok (.iconst 1, 1) := by decide +kernel
theorem dX4_joins_18 : decode cX4_joins 18 = .ok (.goto 4, 3) := by decide +kernel
theorem dX4_joins_21 : decode cX4_joins 21 = .ok (.iconst 0, 1) := by decide +kernel
theorem dX4_joins_22 : decode cX4_joins 22 = .ok (.putfield 78, 3) := by decide +kernel
theorem dX4_joins_25 : decode cX4_joins 25 = .ok (.aload_n 0, 1) := by decide +kernel
theorem dX4_joins_26 : decode cX4_joins 26 = .ok (.getfield 78, 3) := by decide +kernel
theorem dX4_joins_29 : decode cX4_joins 29 = .ok (.ifCond .ne 30, 3) := by decide +kernel
theorem dX4_joins_32 : decode cX4_joins 32 = .ok (.aload_n 0, 1) := by decide +kernel
theorem dX4_joins_33 : decode cX4_joins 33 = .ok (.aload_n 0, 1) := by decide +kernel
theorem dX4_joins_34 : decode cX4_joins 34 = .ok (.getfield 44, 3) := by decide +kernel
theorem dX4_joins_37 : decode cX4_joins 37 = .ok (.iload_n 1, 1) := by decide +kernel
theorem dX4_joins_38 : decode cX4_joins 38 = .ok (.iaload, 1) := by decide +kernel
theorem dX4_joins_39 : decode cX4_joins 39 = .ok (.ifCond .ne 12, 3) := by decide +kernel
theorem dX4_joins_42 : decode cX4_joins 42 = .ok (.aload_n 0, 1) := by decide +kernel
theorem dX4_joins_43 : decode cX4_joins 43 = .ok (.getfield 44, 3) := by decide +kernel
theorem dX4_joins_46 : decode cX4_joins 46 = .ok (.iload_n 2, 1) := by decide +kernel
theorem dX4_joins_47 : decode cX4_joins 47 = .ok (.iaload, 1) := by decide +kernel
theorem dX4_joins_48 : decode cX4_joins 48 = .ok (.ifCond .eq 7, 3) := by decide +kernel
theorem dX4_joins_51 : decode cX4_joins 51 = .ok (.iconst 2, 1) := by decide +kernel
theorem dX4_joins_52 : decode cX4_joins 52 = .ok (.goto 4, 3) := by decide +kernel
theorem dX4_joins_55 : decode cX4_joins 55 = .ok (.iconst 0, 1) := by decide +kernel
theorem dX4_joins_56 : decode cX4_joins 56 = .ok (.putfield 78, 3) := by decide +kernel
theorem dX4_joins_59 : decode cX4_joins 59 = .ok (.aload_n 0, 1) := by decide +kernel
theorem dX4_joins_60 : decode cX4_joins 60 = .ok (.getfield 78, 3) := by decide +kernel
theorem dX4_joins_63 : decode cX4_joins 63 = .ok (.ifCond .ne 37, 3) := by decide +kernel
theorem dX4_joins_66 : decode cX4_joins 66 = .ok (.aload_n 0, 1) := by decide +kernel
theorem dX4_joins_67 : decode cX4_joins 67 = .ok (.getfield 32, 3) := by decide +kernel
theorem dX4_joins_70 : decode cX4_joins 70 = .ok (.iload_n 1, 1) := by decide +kernel
theorem dX4_joins_71 : decode cX4_joins 71 = .ok (.iaload, 1) := by decide +kernel
theorem dX4_joins_72 : decode cX4_joins 72 = .ok (.aload_n 0, 1) := by decide +kernel
theorem dX4_joins_73 : decode cX4_joins 73 = .ok (.getfield 32, 3) := by decide +kernel
theorem dX4_joins_76 : decode cX4_joins 76 = .ok (.iload_n 2, 1) := by decide +kernel
theorem dX4_joins_77 : decode cX4_joins 77 = .ok (.iaload, 1) := by decide +kernel
theorem dX4_joins_78 : decode cX4_joins 78 = .ok (.if_icmp .ne 22, 3) := by decide +kernel
theorem dX4_joins_81 : decode cX4_joins 81 = .ok (.aload_n 0, 1) := by decide +kernel
theorem dX4_joins_82 : decode cX4_joins 82 = .ok (.getfield 35, 3) := by decide +kernel
theorem dX4_joins_85 : decode cX4_joins 85 = .ok (.iload_n 1, 1) := by decide +kernel
theorem dX4_joins_86 : decode cX4_joins 86 = .ok (.iaload, 1) := by decide +kernel
theorem dX4_joins_87 : decode cX4_joins 87 = .ok (.aload_n 0, 1) := by decide +kernel
theorem dX4_joins_88 : decode cX4_joins 88 = .ok (.getfield 35, 3) := by decide +kernel
theorem dX4_joins_91 : decode cX4_joins 91 = .ok (.iload_n 2, 1) := by decide +kernel
theorem dX4_joins_92 : decode cX4_joins 92 = .ok (.iaload, 1) := by decide +kernel
theorem dX4_joins_93 : decode cX4_joins 93 = .ok (.if_icmp .ne 7, 3) := by decide +kernel
theorem dX4_joins_96 : decode cX4_joins 96 = .ok (.iconst 1, 1) := by decide +kernel
theorem dX4_joins_97 : decode cX4_joins 97 = .ok (.goto 4, 3) := by decide +kernel
theorem dX4_joins_100 : decode cX4_joins 100 = .ok (.iconst 0, 1) := by decide +kernel
theorem dX4_joins_101 : decode cX4_joins 101 = .ok (.ireturn, 1) := by decide +kernel
set_option maxRecDepth 20000 in
theorem ggX4_known_X4_isCall : GoodIn wsX4_known wsX4_isCall := goodIn_r _ [12, 13, 14, 15, 11, 16, 17, 18, 19, 20, 21, 22, 23, 24, 25, 26, 27, 28, 29, 30, 31, 32, 33, 34, 35, 36, 37, 38, 39, 40, 41, 42, 43, 44] (by decide +kernel) (by decide +kernel)
set_option maxRecDepth 20000 in
theorem gX4_known_X4_isCall : GoodIn wsX4_known (wsV RX4 142 RX4 yX4_isCall wsX4_isCall) := goodIn_app (goodIn_of _ (by decide +kernel)) ggX4_known_X4_isCall
set_option maxRecDepth 20000 in
theorem ggX4_known_X4_in : GoodIn wsX4_known wsX4_in := goodIn_r _ [16] (by decide +kernel) (by decide +kernel)
set_option maxRecDepth 20000 in
theorem gX4_known_X4_in : GoodIn wsX4_known (va_wsS RX4 81 yX4_in wsX4_in) := goodIn_app (goodIn_of _ (by decide +kernel)) ggX4_known_X4_in
theorem dX4_known_0 : decode cX4_known 0 = .ok (.aload_n 0, 1) := by decide +kernel
theorem dX4_known_1 : decode cX4_known 1 = .ok (.aload_n 0, 1) := by decide +kernel
theorem dX4_known_2 : decode cX4_known 2 = .ok (.iload_n 1, 1) := by decide +kernel
theorem dX4_known_3 : decode cX4_known 3 = .ok (.invokevirtual 142, 3) := by decide +kernel
theorem dX4_known_6 : decode cX4_known 6 = .ok (.ifCond .ne 7, 3) := by decide +kernel
theorem dX4_known_9 : decode cX4_known 9 = .ok (.iconst 1, 1) := by decide +kernel
theorem dX4_known_10 : decode cX4_known 10 = .ok (.goto 17, 3) := by decide +kernel
theorem dX4_known_13 : decode cX4_known 13 = .ok (.iload_n 2, 1) := by decide +kernel
theorem dX4_known_14 : decode cX4_known 14 = .ok (.iconst 0, 1) := by decide +kernel
theorem dX4_known_15 : decode cX4_known 15 = .ok (.iconst 5, 1) := by decide +kernel
theorem dX4_known_16 : decode cX4_known 16 = .ok (.invokestatic 81, 3) := by decide +kernel
theorem dX4_known_19 : decode cX4_known 19 = .ok (.ifCond .ne 7, 3) := by decide +kernel
theorem dX4_known_22 : decode cX4_known 22 = .ok (.iconst 2, 1) := by decide +kernel
theorem dX4_known_23 : decode cX4_known 23 = .ok (.goto 4, 3) := by decide +kernel
theorem dX4_known_26 : decode cX4_known 26 = .ok (.iconst 0, 1) := by decide +kernel
theorem dX4_known_27 : decode cX4_known 27 = .ok (.putfield 78, 3) := by decide +kernel
theorem dX4_known_30 : decode cX4_known 30 = .ok (.aload_n 0, 1) := by decide +kernel
theorem dX4_known_31 : decode cX4_known 31 = .ok (.getfield 78, 3) := by decide +kernel
theorem dX4_known_34 : decode cX4_known 34 = .ok (.ifCond .le 5, 3) := by decide +kernel
theorem dX4_known_37 : decode cX4_known 37 = .ok (.iconst 0, 1) := by decide +kernel
theorem dX4_known_38 : decode cX4_known 38 = .ok (.ireturn, 1) := by decide +kernel
theorem dX4_known_39 : decode cX4_known 39 = .ok (.iload_n 2, 1) := by decide +kernel
theorem dX4_known_40 : decode cX4_known 40 = .ok (.ifCond .ne 10, 3) := by decide +kernel
theorem dX4_known_43 : decode cX4_known 43 = .ok (.aload_n 0, 1) := by decide +kernel
theorem dX4_known_44 : decode cX4_known 44 = .ok (.getfield 44, 3) := by decide +kernel
theorem dX4_known_47 : decode cX4_known 47 = .ok (.iload_n 1, 1) := by decide +kernel
theorem dX4_known_48 : decode cX4_known 48 = .ok (.iaload, 1) := by decide +kernel
theorem dX4_known_49 : decode cX4_known 49 = .ok (.ireturn, 1) := by decide +kernel
theorem dX4_known_50 : decode cX4_known 50 = .ok (.iload_n 2, 1) := by decide +kernel
theorem dX4_known_51 : decode cX4_known 51 = .ok (.iconst 1, 1) := by decide +kernel
theorem dX4_known_52 : decode cX4_known 52 = .ok (.if_icmp .ne 10, 3) := by decide +kernel
theorem dX4_known_55 : decode cX4_known 55 = .ok (.aload_n 0, 1) := by decide +kernel
theorem dX4_known_56 : decode cX4_known 56 = .ok (.getfield 47, 3) := by decide +kernel
theorem dX4_known_59 : decode cX4_known 59 = .ok (.iload_n 1, 1) := by decide +kernel
theorem dX4_known_60 : decode cX4_known 60 = .ok (.iaload, 1) := by decide +kernel
theorem dX4_known_61 : decode cX4_known 61 = .ok (.ireturn, 1) := by decide +kernel
theorem dX4_known_62 : decode cX4_known 62 = .ok (.iload_n 2, 1) := by decide +kernel
theorem dX4_known_63 : decode cX4_known 63 = .ok (.iconst 2, 1) := by decide +kernel
theorem dX4_known_64 : decode cX4_known 64 = .ok (.if_icmp .ne 10, 3) := by decide +kernel
theorem dX4_known_67 : decode cX4_known 67 = .ok (.aload_n 0, 1) := by decide +kernel
theorem dX4_known_68 : decode cX4_known 68 = .ok (.getfield 32, 3) := by decide +kernel
theorem dX4_known_71 : decode cX4_known 71 = .ok (.iload_n 1, 1) := by decide +kernel
theorem dX4_known_72 : decode cX4_known 72 = .ok (.iaload, 1) := by decide +kernel
theorem dX4_known_73 : decode cX4_known 73 = .ok (.ireturn, 1) := by decide +kernel
theorem dX4_known_74 : decode cX4_known 74 = .ok (.iload_n 2, 1) := by decide +kernel
theorem dX4_known_75 : decode cX4_known 75 = .ok (.iconst 3, 1) := by decide +kernel
theorem dX4_known_76 : decode cX4_known 76 = .ok (.if_icmp .ne 12, 3) := by decide +kernel
theorem dX4_known_79 : decode cX4_known 79 = .ok (.aload_n 0, 1) := by decide +kernel
theorem dX4_known_80 : decode cX4_known 80 = .ok (.getfield 35, 3) := by decide +kernel
theorem dX4_known_83 : decode cX4_known 83 = .ok (.iload_n 1, 1) := by decide +kernel
theorem dX4_known_84 : decode cX4_known 84 = .ok (.iaload, 1) := by decide +kernel
theorem dX4_known_85 : decode cX4_known 85 = .ok (.goto 23, 3) := by decide +kernel
theorem dX4_known_88 : decode cX4_known 88 = .ok (.iload_n 2, 1) := by decide +kernel
theorem dX4_known_89 : decode cX4_known 89 = .ok (.iconst 4, 1) := by decide +kernel
theorem dX4_known_90 : decode cX4_known 90 = .ok (.if_icmp .ne 12, 3) := by decide +kernel
theorem dX4_known_93 : decode cX4_known 93 = .ok (.aload_n 0, 1) := by decide +kernel
theorem dX4_known_94 : decode cX4_known 94 = .ok (.getfield 38, 3) := by decide +kernel
theorem dX4_known_97 : decode cX4_known 97 = .ok (.iload_n 1, 1) := by decide +kernel
theorem dX4_known_98 : decode cX4_known 98 = .ok (.iaload, 1) := by decide +kernel
theorem dX4_known_99 : decode cX4_known 99 = .ok (.goto 9, 3) := by decide +kernel
theorem dX4_known_102 : decode cX4_known 102 = .ok (.aload_n 0, 1) := by decide +kernel
theorem dX4_known_103 : decode cX4_known 103 = .ok (.getfield 41, 3) := by decide +kernel
theorem dX4_known_106 : decode cX4_known 106 = .ok (.iload_n 1, 1) := by decide +kernel
theorem dX4_known_107 : decode cX4_known 107 = .ok (.iaload, 1) := by decide +kernel
theorem dX4_known_108 : decode cX4_known 108 = .ok (.ireturn, 1) := by decide +kernel
theorem dX4_count_0 : decode cX4_count 0 = .ok (.aload_n 0, 1) := by decide +kernel
theorem dX4_count_1 : decode cX4_count 1 = .ok (.iconst 0, 1) := by decide +kernel
theorem dX4_count_2 : decode cX4_count 2 = .ok (.putfield 78, 3) := by decide +kernel
theorem dX4_count_5 : decode cX4_count 5 = .ok (.iload_n 1, 1) := by decide +kernel
theorem dX4_count_6 : decode cX4_count 6 = .ok (.ifCond .ne 8, 3) := by decide +kernel
theorem dX4_count_9 : decode cX4_count 9 = .ok (.aload_n 0, 1) := by decide +kernel
theorem dX4_count_10 : decode cX4_count 10 = .ok (.getfield 74, 3) := by decide +kernel
theorem dX4_count_13 : decode cX4_count 13 = .ok (.ireturn, 1) := by decide +kernel
theorem dX4_count_14 : decode cX4_count 14 = .ok (.iload_n 1, 1) := by decide +kernel
theorem dX4_count_15 : decode cX4_count 15 = .ok (.iconst 1, 1) := by decide +kernel
theorem dX4_count_16 : decode cX4_count 16 = .ok (.if_icmp .ne 8, 3) := by decide +kernel
theorem dX4_count_19 : decode cX4_count 19 = .ok (.aload_n 0, 1) := by decide +kernel
theorem dX4_count_20 : decode cX4_count 20 = .ok (.getfield 85, 3) := by decide +kernel
theorem dX4_count_23 : decode cX4_count 23 = .ok (.ireturn, 1) := by decide +kernel
theorem dX4_count_24 : decode cX4_count 24 = .ok (.iload_n 1, 1) := by decide +kernel
theorem dX4_count_25 : decode cX4_count 25 = .ok (.iconst 2, 1) := by decide +kernel
theorem dX4_count_26 : decode cX4_count 26 = .ok (.if_icmp .ne 8, 3) := by decide +kernel
theorem dX4_count_29 : decode cX4_count 29 = .ok (.aload_n 0, 1) := by decide +kernel
theorem dX4_count_30 : decode cX4_count 30 = .ok (.getfield 88, 3) := by decide +kernel
theorem dX4_count_33 : decode cX4_count 33 = .ok (.ireturn, 1) := by decide +kernel
theorem dX4_count_34 : decode cX4_count 34 = .ok (.iload_n 1, 1) := by decide +kernel
theorem dX4_count_35 : decode cX4_count 35 = .ok (.iconst 3, 1) := by decide +kernel
theorem dX4_count_36 : decode cX4_count 36 = .ok (.if_icmp .ne 8, 3) := by decide +kernel
theorem dX4_count_39 : decode cX4_count 39 = .ok (.aload_n 0, 1) := by decide +kernel
theorem dX4_count_40 : decode cX4_count 40 = .ok (.getfield 109, 3) := by decide +kernel
theorem dX4_count_43 : decode cX4_count 43 = .ok (.ireturn, 1) := by decide +kernel
theorem dX4_count_44 : decode cX4_count 44 = .ok (.iload_n 1, 1) := by decide +kernel
theorem dX4_count_45 : decode cX4_count 45 = .ok (.iconst 4, 1) := by decide +kernel
theorem dX4_count_46 : decode cX4_count 46 = .ok (.if_icmp .ne 8, 3) := by decide +kernel
theorem dX4_count_49 : decode cX4_count 49 = .ok (.aload_n 0, 1) := by decide +kernel
theorem dX4_count_50 : decode cX4_count 50 = .ok (.getfield 99, 3) := by decide +kernel
theorem dX4_count_53 : decode cX4_count 53 = .ok (.ireturn, 1) := by decide +kernel
theorem dX4_count_54 : decode cX4_count 54 = .ok (.iload_n 1, 1) := by decide +kernel
theorem dX4_count_55 : decode cX4_count 55 = .ok (.bipush 8, 2) := by decide +kernel
theorem dX4_count_57 : decode cX4_count 57 = .ok (.if_icmp .ne 8, 3) := by decide +kernel
theorem dX4_count_60 : decode cX4_count 60 = .ok (.aload_n 0, 1) := by decide +kernel
theorem dX4_count_61 : decode cX4_count 61 = .ok (.getfield 130, 3) := by decide +kernel
theorem dX4_count_64 : decode cX4_count 64 = .ok (.ireturn, 1) := by decide +kernel
theorem dX4_count_65 : decode cX4_count 65 = .ok (.iconst 0, 1) := by decide +kernel
theorem dX4_count_66 : decode cX4_count 66 = .ok (.istore_n 2, 1) := by decide +kernel
theorem dX4_count_67 : decode cX4_count 67 = .ok (.iconst 0, 1) := by decide +kernel
theorem dX4_count_68 : decode cX4_count 68 = .ok (.istore_n 3, 1) := by decide +kernel
theorem dX4_count_69 : decode cX4_count 69 = .ok (.iconst 0, 1) := by decide +kernel
theorem dX4_count_70 : decode cX4_count 70 = .ok (.istore 4, 2) := by decide +kernel
theorem dX4_count_72 : decode cX4_count 72 = .ok (.iload 4, 2) := by decide +kernel
theorem dX4_count_74 : decode cX4_count 74 = .ok (.aload_n 0, 1) := by decide +kernel
theorem dX4_count_75 : decode cX4_count 75 = .ok (.getfield 88, 3) := by decide +kernel
theorem dX4_count_78 : decode cX4_count 78 = .ok (.if_icmp .ge 58, 3) := by decide +kernel
theorem dX4_count_81 : decode cX4_count 81 = .ok (.aload_n 0, 1) := by decide +kernel
theorem dX4_count_82 : decode cX4_count 82 = .ok (.getfield 44, 3) := by decide +kernel
theorem dX4_count_85 : decode cX4_count 85 = .ok (.iload 4, 2) := by decide +kernel
theorem dX4_count_87 : decode cX4_count 87 = .ok (.iaload, 1) := by decide +kernel
theorem dX4_count_88 : decode cX4_count 88 = .ok (.ifCond .eq 6, 3) := by decide +kernel
theorem dX4_count_91 : decode cX4_count 91 = .ok (.goto 39, 3) := by decide +kernel
theorem dX4_count_94 : decode cX4_count 94 = .ok (.iload_n 2, 1) := by decide +kernel
theorem dX4_count_95 : decode cX4_count 95 = .ok (.iload_n 1, 1) := by decide +kernel
theorem dX4_count_96 : decode cX4_count 96 = .ok (.iconst 5, 1) := by decide +kernel
theorem dX4_count_97 : decode cX4_count 97 = .ok (.if_icmp .eq 14, 3) := by decide +kernel
theorem dX4_count_100 : decode cX4_count 100 = .ok (.aload_n 0, 1) := by decide +kernel
theorem dX4_count_101 : decode cX4_count 101 = .ok (.getfield 47, 3) := by decide +kernel
theorem dX4_count_104 : decode cX4_count 104 = .ok (.iload 4, 2) := by decide +kernel
theorem dX4_count_106 : decode cX4_count 106 = .ok (.iaload, 1) := by decide +kernel
theorem dX4_count_107 : decode cX4_count 107 = .ok (.iconst (-1), 1) := by decide +kernel
theorem dX4_count_108 : decode cX4_count 108 = .ok (.if_icmp .ne 7, 3) := by decide +kernel
theorem dX4_count_111 : decode cX4_count 111 = .ok (.iconst 1, 1) := by decide +kernel
theorem dX4_count_112 : decode cX4_count 112 = .ok (.goto 4, 3) := by decide +kernel
theorem dX4_count_115 : decode cX4_count 115 = .ok (.iconst 0, 1) := by decide +kernel
theorem dX4_count_116 : decode cX4_count 116 = .ok (.iadd, 1) := by decide +kernel
theorem dX4_count_117 : decode cX4_count 117 = .ok (.istore_n 2, 1) := by decide +kernel
theorem dX4_count_118 : decode cX4_count 118 = .ok (.iload_n 3, 1) := by decide +kernel
theorem dX4_count_119 : decode cX4_count 119 = .ok (.iconst 1, 1) := by decide +kernel
theorem dX4_count_120 : decode cX4_count 120 = .ok (.aload_n 0, 1) := by decide +kernel
theorem dX4_count_121 : decode cX4_count 121 = .ok (.getfield 32, 3) := by decide +kernel
theorem dX4_count_124 : decode cX4_count 124 = .ok (.iload 4, 2) := by decide +kernel
theorem dX4_count_126 : decode cX4_count 126 = .ok (.iaload, 1) := by decide +kernel
theorem dX4_count_127 : decode cX4_count 127 = .ok (.ishl, 1) := by decide +kernel
theorem dX4_count_128 : decode cX4_count 128 = .ok (.ior, 1) := by decide +kernel
theorem dX4_count_129 : decode cX4_count 129 = .ok (.istore_n 3, 1) := by decide +kernel
theorem dX4_count_130 : decode cX4_count 130 = .ok (.iinc 4 1, 3) := by decide +kernel
theorem dX4_count_133 : decode cX4_count 133 = .ok (.goto (-61), 3) := by decide +kernel
theorem dX4_count_136 : decode cX4_count 136 = .ok (.iload_n 1, 1) := by decide +kernel
theorem dX4_count_137 : decode cX4_count 137 = .ok (.iconst 5, 1) := by decide +kernel
theorem dX4_count_138 : decode cX4_count 138 = .ok (.if_icmp .eq 9, 3) := by decide +kernel
theorem dX4_count_141 : decode cX4_count 141 = .ok (.iload_n 1, 1) := by decide +kernel
theorem dX4_count_142 : decode cX4_count 142 = .ok (.bipush 6, 2) := by decide +kernel
theorem dX4_count_144 : decode cX4_count 144 = .ok (.if_icmp .ne 7, 3) := by decide +kernel
theorem dX4_count_147 : decode cX4_count 147 = .ok (.iload_n 2, 1) := by decide +kernel
theorem dX4_count_148 : decode cX4_count 148 = .ok (.goto 14, 3) := by decide +kernel
theorem dX4_count_151 : decode cX4_count 151 = .ok (.iload_n 1, 1) := by decide +kernel
theorem dX4_count_152 : decode cX4_count 152 = .ok (.bipush 7, 2) := by decide +kernel
theorem dX4_count_154 : decode cX4_count 154 = .ok (.if_icmp .ne 7, 3) := by decide +kernel
theorem dX4_count_157 : decode cX4_count 157 = .ok (.iload_n 3, 1) := by decide +kernel
theorem dX4_count_158 : decode cX4_count 158 = .ok (.goto 4, 3) := by decide +kernel
theorem dX4_count_161 : decode cX4_count 161 = .ok (.iconst (-1), 1) := by decide +kernel
theorem dX4_count_162 : decode cX4_count 162 = .ok (.ireturn, 1) := by decide +kernel
theorem dJx00060_init_a7421_0 : decode cJx00060_init_a7421 0 = .ok (.aload_n 0, 1) := by decide +kernel
theorem dJx00060_init_a7421_1 : decode cJx00060_init_a7421 1 = .ok (.aload_n 1, 1) := by decide +kernel
theorem dJx00060_init_a7421_2 : decode cJx00060_init_a7421 2 = .ok (.invokespecial 7, 3) := by decide +kernel
theorem dJx00060_init_a7421_5 : decode cJx00060_init_a7421 5 = .ok (.return_, 1) := by decide +kernel
theorem dJ6_bitCount_0f7a4_0 : decode cJ6_bitCount_0f7a4 0 = .ok (.iload_n 0, 1) := by decide +kernel
theorem dJ6_bitCount_0f7a4_1 : decode cJ6_bitCount_0f7a4 1 = .ok (.iload_n 0, 1) := by decide +kernel
theorem dJ6_bitCount_0f7a4_2 : decode cJ6_bitCount_0f7a4 2 = .ok (.iconst 1, 1) := by decide +kernel
theorem dJ6_bitCount_0f7a4_3 : decode cJ6_bitCount_0f7a4 3 = .ok (.iushr, 1) := by decide +kernel
theorem dJ6_bitCount_0f7a4_4 : decode cJ6_bitCount_0f7a4 4 = .ok (.ldc_w 265, 3) := by decide +kernel
theorem dJ6_bitCount_0f7a4_7 : decode cJ6_bitCount_0f7a4 7 = .ok (.iand, 1) := by decide +kernel
theorem dJ6_bitCount_0f7a4_8 : decode cJ6_bitCount_0f7a4 8 = .ok (.isub, 1) := by decide +kernel
theorem dJ6_bitCount_0f7a4_9 : decode cJ6_bitCount_0f7a4 9 = .ok (.istore_n 0, 1) := by decide +kernel
theorem dJ6_bitCount_0f7a4_10 : decode cJ6_bitCount_0f7a4 10 = .ok (.iload_n 0, 1) := by decide +kernel
theorem dJ6_bitCount_0f7a4_11 : decode cJ6_bitCount_0f7a4 11 = .ok (.ldc_w 266, 3) := by decide +kernel
theorem dJ6_bitCount_0f7a4_14 : decode cJ6_bitCount_0f7a4 14 = .ok (.iand, 1) := by decide +kernel
theorem dJ6_bitCount_0f7a4_15 : decode cJ6_bitCount_0f7a4 15 = .ok (.iload_n 0, 1) := by decide +kernel
theorem dJ6_bitCount_0f7a4_16 : decode cJ6_bitCount_0f7a4 16 = .ok (.iconst 2, 1) := by decide +kernel
theorem dJ6_bitCount_0f7a4_17 : decode cJ6_bitCount_0f7a4 17 = .ok (.iushr, 1) := by decide +kernel
theorem dJ6_bitCount_0f7a4_18 : decode cJ6_bitCount_0f7a4 18 = .ok (.ldc_w 266, 3) := by decide +kernel
theorem dJ6_bitCount_0f7a4_21 : decode cJ6_bitCount_0f7a4 21 = .ok (.iand, 1) := by decide +kernel
theorem dJ6_bitCount_0f7a4_22 : decode cJ6_bitCount_0f7a4 22 = .ok (.iadd, 1) := by decide +kernel
theorem dJ6_bitCount_0f7a4_23 : decode cJ6_bitCount_0f7a4 23 = .ok (.istore_n 0, 1) := by decide +kernel
theorem dJ6_bitCount_0f7a4_24 : decode cJ6_bitCount_0f7a4 24 = .ok (.iload_n 0, 1) := by decide +kernel
theorem dJ6_bitCount_0f7a4_25 : decode cJ6_bitCount_0f7a4 25 = .ok (.iload_n 0, 1) := by decide +kernel
theorem dJ6_bitCount_0f7a4_26 : decode cJ6_bitCount_0f7a4 26 = .ok (.iconst 4, 1) := by decide +kernel
theorem dJ6_bitCount_0f7a4_27 : decode cJ6_bitCount_0f7a4 27 = .ok (.iushr, 1) := by decide +kernel
theorem dJ6_bitCount_0f7a4_28 : decode cJ6_bitCount_0f7a4 28 = .ok (.iadd, 1) := by decide +kernel
theorem dJ6_bitCount_0f7a4_29 : decode cJ6_bitCount_0f7a4 29 = .ok (.ldc_w 267, 3) := by decide +kernel
theorem dJ6_bitCount_0f7a4_32 : decode cJ6_bitCount_0f7a4 32 = .ok (.iand, 1) := by decide +kernel
theorem dJ6_bitCount_0f7a4_33 : decode cJ6_bitCount_0f7a4 33 = .ok (.istore_n 0, 1) := by decide +kernel
theorem dJ6_bitCount_0f7a4_34 : decode cJ6_bitCount_0f7a4 34 = .ok (.iload_n 0, 1) := by decide +kernel
theorem dJ6_bitCount_0f7a4_35 : decode cJ6_bitCount_0f7a4 35 = .ok (.iload_n 0, 1) := by decide +kernel
theorem dJ6_bitCount_0f7a4_36 : decode cJ6_bitCount_0f7a4 36 = .ok (.bipush 8, 2) := by decide +kernel
theorem dJ6_bitCount_0f7a4_38 : decode cJ6_bitCount_0f7a4 38 = .ok (.iushr, 1) := by decide +kernel
theorem dJ6_bitCount_0f7a4_39 : decode cJ6_bitCount_0f7a4 39 = .ok (.iadd, 1) := by decide +kernel
theorem dJ6_bitCount_0f7a4_40 : decode cJ6_bitCount_0f7a4 40 = .ok (.istore_n 0, 1) := by decide +kernel
theorem dJ6_bitCount_0f7a4_41 : decode cJ6_bitCount_0f7a4 41 = .ok (.iload_n 0, 1) := by decide +kernel
theorem dJ6_bitCount_0f7a4_42 : decode cJ6_bitCount_0f7a4 42 = .ok (.iload_n 0, 1) := by decide +kernel
theorem dJ6_bitCount_0f7a4_43 : decode cJ6_bitCount_0f7a4 43 = .ok (.bipush 16, 2) := by decide +kernel
theorem dJ6_bitCount_0f7a4_45 : decode cJ6_bitCount_0f7a4 45 = .ok (.iushr, 1) := by decide +kernel
theorem dJ6_bitCount_0f7a4_46 : decode cJ6_bitCount_0f7a4 46 = .ok (.iadd, 1) := by decide +kernel
theorem dJ6_bitCount_0f7a4_47 : decode cJ6_bitCount_0f7a4 47 = .ok (.istore_n 0, 1) := by decide +kernel
theorem dJ6_bitCount_0f7a4_48 : decode cJ6_bitCount_0f7a4 48 = .ok (.iload_n 0, 1) := by decide +kernel
theorem dJ6_bitCount_0f7a4_49 : decode cJ6_bitCount_0f7a4 49 = .ok (.bipush 63, 2) := by decide +kernel
theorem dJ6_bitCount_0f7a4_51 : decode cJ6_bitCount_0f7a4 51 = .ok (.iand, 1) := by decide +kernel
theorem dJ6_bitCount_0f7a4_52 : decode cJ6_bitCount_0f7a4 52 = .ok (.ireturn, 1) := by decide +kernel
theorem dJ9_abs_0f7a4_0 : decode cJ9_abs_0f7a4 0 = .ok (.iload_n 0, 1) := by decide +kernel
theorem dJ9_abs_0f7a4_1 : decode cJ9_abs_0f7a4 1 = .ok (.ifCond .ge 8, 3) := by decide +kernel
theorem dJ9_abs_0f7a4_4 : decode cJ9_abs_0f7a4 4 = .ok (.iload_n 0, 1) := by decide +kernel
theorem dJ9_abs_0f7a4_5 : decode cJ9_abs_0f7a4 5 = .ok (.ineg, 1) := by decide +kernel
theorem dJ9_abs_0f7a4_6 : decode cJ9_abs_0f7a4 6 = .ok (.goto 4, 3) := by decide +kernel
theorem dJ9_abs_0f7a4_9 : decode cJ9_abs_0f7a4 9 = .ok (.iload_n 0, 1) := by decide +kernel
theorem dJ9_abs_0f7a4_10 : decode cJ9_abs_0f7a4 10 = .ok (.ireturn, 1) := by decide +kernel
theorem dJ9_max_7cf53_0 : decode cJ9_max_7cf53 0 = .ok (.iload_n 0, 1) := by decide +kernel
theorem dJ9_max_7cf53_1 : decode cJ9_max_7cf53 1 = .ok (.iload_n 1, 1) := by decide +kernel
theorem dJ9_max_7cf53_2 : decode cJ9_max_7cf53 2 = .ok (.if_icmp .lt 7, 3) := by decide +kernel
theorem dJ9_max_7cf53_5 : decode cJ9_max_7cf53 5 = .ok (.iload_n 0, 1) := by decide +kernel
theorem dJ9_max_7cf53_6 : decode cJ9_max_7cf53 6 = .ok (.goto 4, 3) := by decide +kernel
theorem dJ9_max_7cf53_9 : decode cJ9_max_7cf53 9 = .ok (.iload_n 1, 1) := by decide +kernel
theorem dJ9_max_7cf53_10 : decode cJ9_max_7cf53 10 = .ok (.ireturn, 1) := by decide +kernel
theorem dJ9_min_7cf53_0 : decode cJ9_min_7cf53 0 = .ok (.iload_n 0, 1) := by decide +kernel
theorem dJ9_min_7cf53_1 : decode cJ9_min_7cf53 1 = .ok (.iload_n 1, 1) := by decide +kernel
theorem dJ9_min_7cf53_2 : decode cJ9_min_7cf53 2 = .ok (.if_icmp .gt 7, 3) := by decide +kernel
theorem dJ9_min_7cf53_5 : decode cJ9_min_7cf53 5 = .ok (.iload_n 0, 1) := by decide +kernel
theorem dJ9_min_7cf53_6 : decode cJ9_min_7cf53 6 = .ok (.goto 4, 3) := by decide +kernel
theorem dJ9_min_7cf53_9 : decode cJ9_min_7cf53 9 = .ok (.iload_n 1, 1) := by decide +kernel
theorem dJ9_min_7cf53_10 : decode cJ9_min_7cf53 10 = .ok (.ireturn, 1) := by decide +kernel
