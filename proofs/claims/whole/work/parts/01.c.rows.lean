theorem dX0_init_0 : decode cX0_init 0 = .ok (.aload_n 0, 1) := by decide +kernel
theorem dX0_init_1 : decode cX0_init 1 = .ok (.invokespecial 3, 3) := by decide +kernel
theorem dX0_init_4 : decode cX0_init 4 = .ok (.aload_n 0, 1) := by decide +kernel
theorem dX0_init_5 : decode cX0_init 5 = .ok (.bipush 24, 2) := by decide +kernel
theorem dX0_init_7 : decode cX0_init 7 = .ok (.newarray .int, 2) := by decide +kernel
theorem dX0_init_9 : decode cX0_init 9 = .ok (.putfield 9, 3) := by decide +kernel
theorem dX0_init_12 : decode cX0_init 12 = .ok (.aload_n 0, 1) := by decide +kernel
theorem dX0_init_13 : decode cX0_init 13 = .ok (.bipush 24, 2) := by decide +kernel
theorem dX0_init_15 : decode cX0_init 15 = .ok (.newarray .int, 2) := by decide +kernel
theorem dX0_init_17 : decode cX0_init 17 = .ok (.putfield 15, 3) := by decide +kernel
theorem dX0_init_20 : decode cX0_init 20 = .ok (.aload_n 0, 1) := by decide +kernel
theorem dX0_init_21 : decode cX0_init 21 = .ok (.bipush 24, 2) := by decide +kernel
theorem dX0_init_23 : decode cX0_init 23 = .ok (.newarray .int, 2) := by decide +kernel
theorem dX0_init_25 : decode cX0_init 25 = .ok (.putfield 18, 3) := by decide +kernel
theorem dX0_init_28 : decode cX0_init 28 = .ok (.aload_n 0, 1) := by decide +kernel
theorem dX0_init_29 : decode cX0_init 29 = .ok (.bipush 24, 2) := by decide +kernel
theorem dX0_init_31 : decode cX0_init 31 = .ok (.newarray .int, 2) := by decide +kernel
theorem dX0_init_33 : decode cX0_init 33 = .ok (.putfield 21, 3) := by decide +kernel
theorem dX0_init_36 : decode cX0_init 36 = .ok (.aload_n 0, 1) := by decide +kernel
theorem dX0_init_37 : decode cX0_init 37 = .ok (.bipush 24, 2) := by decide +kernel
theorem dX0_init_39 : decode cX0_init 39 = .ok (.newarray .int, 2) := by decide +kernel
theorem dX0_init_41 : decode cX0_init 41 = .ok (.putfield 24, 3) := by decide +kernel
theorem dX0_init_44 : decode cX0_init 44 = .ok (.aload_n 0, 1) := by decide +kernel
theorem dX0_init_45 : decode cX0_init 45 = .ok (.bipush 24, 2) := by decide +kernel
theorem dX0_init_47 : decode cX0_init 47 = .ok (.newarray .int, 2) := by decide +kernel
theorem dX0_init_49 : decode cX0_init 49 = .ok (.putfield 27, 3) := by decide +kernel
theorem dX0_init_52 : decode cX0_init 52 = .ok (.aload_n 0, 1) := by decide +kernel
theorem dX0_init_53 : decode cX0_init 53 = .ok (.bipush 24, 2) := by decide +kernel
theorem dX0_init_55 : decode cX0_init 55 = .ok (.newarray .int, 2) := by decide +kernel
theorem dX0_init_57 : decode cX0_init 57 = .ok (.putfield 30, 3) := by decide +kernel
theorem dX0_init_60 : decode cX0_init 60 = .ok (.aload_n 0, 1) := by decide +kernel
theorem dX0_init_61 : decode cX0_init 61 = .ok (.bipush 24, 2) := by decide +kernel
theorem dX0_init_63 : decode cX0_init 63 = .ok (.newarray .int, 2) := by decide +kernel
theorem dX0_init_65 : decode cX0_init 65 = .ok (.putfield 33, 3) := by decide +kernel
theorem dX0_init_68 : decode cX0_init 68 = .ok (.aload_n 0, 1) := by decide +kernel
theorem dX0_init_69 : decode cX0_init 69 = .ok (.bipush 24, 2) := by decide +kernel
theorem dX0_init_71 : decode cX0_init 71 = .ok (.newarray .int, 2) := by decide +kernel
theorem dX0_init_73 : decode cX0_init 73 = .ok (.putfield 36, 3) := by decide +kernel
theorem dX0_init_76 : decode cX0_init 76 = .ok (.aload_n 0, 1) := by decide +kernel
theorem dX0_init_77 : decode cX0_init 77 = .ok (.iconst 0, 1) := by decide +kernel
theorem dX0_init_78 : decode cX0_init 78 = .ok (.putfield 39, 3) := by decide +kernel
theorem dX0_init_81 : decode cX0_init 81 = .ok (.return_, 1) := by decide +kernel
theorem dX0_add_0 : decode cX0_add 0 = .ok (.aload_n 0, 1) := by decide +kernel
theorem dX0_add_1 : decode cX0_add 1 = .ok (.getfield 39, 3) := by decide +kernel
theorem dX0_add_4 : decode cX0_add 4 = .ok (.istore 6, 2) := by decide +kernel
theorem dX0_add_6 : decode cX0_add 6 = .ok (.iload 6, 2) := by decide +kernel
theorem dX0_add_8 : decode cX0_add 8 = .ok (.bipush 24, 2) := by decide +kernel
theorem dX0_add_10 : decode cX0_add 10 = .ok (.if_icmp .ge 87, 3) := by decide +kernel
theorem dX0_add_13 : decode cX0_add 13 = .ok (.aload_n 0, 1) := by decide +kernel
theorem dX0_add_14 : decode cX0_add 14 = .ok (.getfield 9, 3) := by decide +kernel
theorem dX0_add_17 : decode cX0_add 17 = .ok (.iload 6, 2) := by decide +kernel
theorem dX0_add_19 : decode cX0_add 19 = .ok (.iload_n 1, 1) := by decide +kernel
theorem dX0_add_20 : decode cX0_add 20 = .ok (.iastore, 1) := by decide +kernel
theorem dX0_add_21 : decode cX0_add 21 = .ok (.aload_n 0, 1) := by decide +kernel
theorem dX0_add_22 : decode cX0_add 22 = .ok (.getfield 15, 3) := by decide +kernel
theorem dX0_add_25 : decode cX0_add 25 = .ok (.iload 6, 2) := by decide +kernel
theorem dX0_add_27 : decode cX0_add 27 = .ok (.iload_n 2, 1) := by decide +kernel
theorem dX0_add_28 : decode cX0_add 28 = .ok (.iastore, 1) := by decide +kernel
theorem dX0_add_29 : decode cX0_add 29 = .ok (.aload_n 0, 1) := by decide +kernel
theorem dX0_add_30 : decode cX0_add 30 = .ok (.getfield 18, 3) := by decide +kernel
theorem dX0_add_33 : decode cX0_add 33 = .ok (.iload 6, 2) := by decide +kernel
theorem dX0_add_35 : decode cX0_add 35 = .ok (.iload_n 3, 1) := by decide +kernel
theorem dX0_add_36 : decode cX0_add 36 = .ok (.iastore, 1) := by decide +kernel
theorem dX0_add_37 : decode cX0_add 37 = .ok (.aload_n 0, 1) := by decide +kernel
theorem dX0_add_38 : decode cX0_add 38 = .ok (.getfield 21, 3) := by decide +kernel
theorem dX0_add_41 : decode cX0_add 41 = .ok (.iload 6, 2) := by decide +kernel
theorem dX0_add_43 : decode cX0_add 43 = .ok (.iload 4, 2) := by decide +kernel
theorem dX0_add_45 : decode cX0_add 45 = .ok (.iastore, 1) := by decide +kernel
theorem dX0_add_46 : decode cX0_add 46 = .ok (.aload_n 0, 1) := by decide +kernel
theorem dX0_add_47 : decode cX0_add 47 = .ok (.getfield 24, 3) := by decide +kernel
theorem dX0_add_50 : decode cX0_add 50 = .ok (.iload 6, 2) := by decide +kernel
theorem dX0_add_52 : decode cX0_add 52 = .ok (.iconst 0, 1) := by decide +kernel
theorem dX0_add_53 : decode cX0_add 53 = .ok (.iastore, 1) := by decide +kernel
theorem dX0_add_54 : decode cX0_add 54 = .ok (.aload_n 0, 1) := by decide +kernel
theorem dX0_add_55 : decode cX0_add 55 = .ok (.getfield 27, 3) := by decide +kernel
theorem dX0_add_58 : decode cX0_add 58 = .ok (.iload 6, 2) := by decide +kernel
theorem dX0_add_60 : decode cX0_add 60 = .ok (.iconst (-1), 1) := by decide +kernel
theorem dX0_add_61 : decode cX0_add 61 = .ok (.iastore, 1) := by decide +kernel
theorem dX0_add_62 : decode cX0_add 62 = .ok (.aload_n 0, 1) := by decide +kernel
theorem dX0_add_63 : decode cX0_add 63 = .ok (.getfield 30, 3) := by decide +kernel
theorem dX0_add_66 : decode cX0_add 66 = .ok (.iload 6, 2) := by decide +kernel
theorem dX0_add_68 : decode cX0_add 68 = .ok (.iload 5, 2) := by decide +kernel
theorem dX0_add_70 : decode cX0_add 70 = .ok (.iastore, 1) := by decide +kernel
theorem dX0_add_71 : decode cX0_add 71 = .ok (.aload_n 0, 1) := by decide +kernel
theorem dX0_add_72 : decode cX0_add 72 = .ok (.getfield 33, 3) := by decide +kernel
theorem dX0_add_75 : decode cX0_add 75 = .ok (.iload 6, 2) := by decide +kernel
theorem dX0_add_77 : decode cX0_add 77 = .ok (.iconst (-1), 1) := by decide +kernel
theorem dX0_add_78 : decode cX0_add 78 = .ok (.iastore, 1) := by decide +kernel
theorem dX0_add_79 : decode cX0_add 79 = .ok (.aload_n 0, 1) := by decide +kernel
theorem dX0_add_80 : decode cX0_add 80 = .ok (.getfield 36, 3) := by decide +kernel
theorem dX0_add_83 : decode cX0_add 83 = .ok (.iload 6, 2) := by decide +kernel
theorem dX0_add_85 : decode cX0_add 85 = .ok (.iconst (-1), 1) := by decide +kernel
theorem dX0_add_86 : decode cX0_add 86 = .ok (.iastore, 1) := by decide +kernel
theorem dX0_add_87 : decode cX0_add 87 = .ok (.aload_n 0, 1) := by decide +kernel
theorem dX0_add_88 : decode cX0_add 88 = .ok (.dup, 1) := by decide +kernel
theorem dX0_add_89 : decode cX0_add 89 = .ok (.getfield 39, 3) := by decide +kernel
theorem dX0_add_92 : decode cX0_add 92 = .ok (.iconst 1, 1) := by decide +kernel
theorem dX0_add_93 : decode cX0_add 93 = .ok (.iadd, 1) := by decide +kernel
theorem dX0_add_94 : decode cX0_add 94 = .ok (.putfield 39, 3) := by decide +kernel
theorem dX0_add_97 : decode cX0_add 97 = .ok (.iload 6, 2) := by decide +kernel
theorem dX0_add_99 : decode cX0_add 99 = .ok (.ireturn, 1) := by decide +kernel
theorem dX0_is_0 : decode cX0_is 0 = .ok (.aload_n 0, 1) := by decide +kernel
theorem dX0_is_1 : decode cX0_is 1 = .ok (.getfield 24, 3) := by decide +kernel
theorem dX0_is_4 : decode cX0_is 4 = .ok (.iload_n 1, 1) := by decide +kernel
theorem dX0_is_5 : decode cX0_is 5 = .ok (.iaload, 1) := by decide +kernel
theorem dX0_is_6 : decode cX0_is 6 = .ok (.iload_n 2, 1) := by decide +kernel
theorem dX0_is_7 : decode cX0_is 7 = .ok (.if_icmp .ne 17, 3) := by decide +kernel
theorem dX0_is_10 : decode cX0_is 10 = .ok (.aload_n 0, 1) := by decide +kernel
theorem dX0_is_11 : decode cX0_is 11 = .ok (.getfield 27, 3) := by decide +kernel
theorem dX0_is_14 : decode cX0_is 14 = .ok (.iload_n 1, 1) := by decide +kernel
theorem dX0_is_15 : decode cX0_is 15 = .ok (.iaload, 1) := by decide +kernel
theorem dX0_is_16 : decode cX0_is 16 = .ok (.iload_n 3, 1) := by decide +kernel
theorem dX0_is_17 : decode cX0_is 17 = .ok (.if_icmp .ne 7, 3) := by decide +kernel
theorem dX0_is_20 : decode cX0_is 20 = .ok (.iconst 1, 1) := by decide +kernel
theorem dX0_is_21 : decode cX0_is 21 = .ok (.goto 4, 3) := by decide +kernel
theorem dX0_is_24 : decode cX0_is 24 = .ok (.iconst 0, 1) := by decide +kernel
theorem dX0_is_25 : decode cX0_is 25 = .ok (.ireturn, 1) := by decide +kernel
set_option maxRecDepth 20000 in
theorem ggX0_getsOut_X0_is : GoodIn wsX0_getsOut wsX0_is := goodIn_r _ [6, 7, 8, 9, 10, 11, 12, 13, 14, 15, 16, 17, 18] (by decide +kernel) (by decide +kernel)
set_option maxRecDepth 20000 in
theorem gX0_getsOut_X0_is : GoodIn wsX0_getsOut (wsV RX0 43 RX0 yX0_is wsX0_is) := goodIn_app (goodIn_of _ (by decide +kernel)) ggX0_getsOut_X0_is
theorem dX0_getsOut_0 : decode cX0_getsOut 0 = .ok (.aload_n 0, 1) := by decide +kernel
theorem dX0_getsOut_1 : decode cX0_getsOut 1 = .ok (.iload_n 1, 1) := by decide +kernel
theorem dX0_getsOut_2 : decode cX0_getsOut 2 = .ok (.iconst 1, 1) := by decide +kernel
theorem dX0_getsOut_3 : decode cX0_getsOut 3 = .ok (.iload_n 2, 1) := by decide +kernel
theorem dX0_getsOut_4 : decode cX0_getsOut 4 = .ok (.invokevirtual 43, 3) := by decide +kernel
theorem dX0_getsOut_7 : decode cX0_getsOut 7 = .ok (.ifCond .eq 17, 3) := by decide +kernel
theorem dX0_getsOut_10 : decode cX0_getsOut 10 = .ok (.aload_n 0, 1) := by decide +kernel
theorem dX0_getsOut_11 : decode cX0_getsOut 11 = .ok (.getfield 15, 3) := by decide +kernel
theorem dX0_getsOut_14 : decode cX0_getsOut 14 = .ok (.iload_n 1, 1) := by decide +kernel
theorem dX0_getsOut_15 : decode cX0_getsOut 15 = .ok (.iaload, 1) := by decide +kernel
theorem dX0_getsOut_16 : decode cX0_getsOut 16 = .ok (.iload_n 3, 1) := by decide +kernel
theorem dX0_getsOut_17 : decode cX0_getsOut 17 = .ok (.if_icmp .ne 7, 3) := by decide +kernel
theorem dX0_getsOut_20 : decode cX0_getsOut 20 = .ok (.iconst 1, 1) := by decide +kernel
theorem dX0_getsOut_21 : decode cX0_getsOut 21 = .ok (.goto 4, 3) := by decide +kernel
theorem dX0_getsOut_24 : decode cX0_getsOut 24 = .ok (.iconst 0, 1) := by decide +kernel
theorem dX0_getsOut_25 : decode cX0_getsOut 25 = .ok (.ireturn, 1) := by decide +kernel
set_option maxRecDepth 20000 in
theorem ggX0_fitsIn_X0_is : GoodIn wsX0_fitsIn wsX0_is := goodIn_r _ [7, 8, 9, 10, 11, 12, 13, 14, 15, 16, 17, 18, 19] (by decide +kernel) (by decide +kernel)
set_option maxRecDepth 20000 in
theorem gX0_fitsIn_X0_is : GoodIn wsX0_fitsIn (wsV RX0 43 RX0 yX0_is wsX0_is) := goodIn_app (goodIn_of _ (by decide +kernel)) ggX0_fitsIn_X0_is
theorem dX0_fitsIn_0 : decode cX0_fitsIn 0 = .ok (.aload_n 0, 1) := by decide +kernel
theorem dX0_fitsIn_1 : decode cX0_fitsIn 1 = .ok (.iload_n 1, 1) := by decide +kernel
theorem dX0_fitsIn_2 : decode cX0_fitsIn 2 = .ok (.iconst 0, 1) := by decide +kernel
theorem dX0_fitsIn_3 : decode cX0_fitsIn 3 = .ok (.iload_n 2, 1) := by decide +kernel
theorem dX0_fitsIn_4 : decode cX0_fitsIn 4 = .ok (.invokevirtual 43, 3) := by decide +kernel
theorem dX0_fitsIn_7 : decode cX0_fitsIn 7 = .ok (.ifCond .eq 28, 3) := by decide +kernel
theorem dX0_fitsIn_10 : decode cX0_fitsIn 10 = .ok (.aload_n 0, 1) := by decide +kernel
theorem dX0_fitsIn_11 : decode cX0_fitsIn 11 = .ok (.getfield 9, 3) := by decide +kernel
theorem dX0_fitsIn_14 : decode cX0_fitsIn 14 = .ok (.iload_n 1, 1) := by decide +kernel
theorem dX0_fitsIn_15 : decode cX0_fitsIn 15 = .ok (.iaload, 1) := by decide +kernel
theorem dX0_fitsIn_16 : decode cX0_fitsIn 16 = .ok (.iload_n 3, 1) := by decide +kernel
theorem dX0_fitsIn_17 : decode cX0_fitsIn 17 = .ok (.if_icmp .ne 18, 3) := by decide +kernel
theorem dX0_fitsIn_20 : decode cX0_fitsIn 20 = .ok (.aload_n 0, 1) := by decide +kernel
theorem dX0_fitsIn_21 : decode cX0_fitsIn 21 = .ok (.getfield 21, 3) := by decide +kernel
theorem dX0_fitsIn_24 : decode cX0_fitsIn 24 = .ok (.iload_n 1, 1) := by decide +kernel
theorem dX0_fitsIn_25 : decode cX0_fitsIn 25 = .ok (.iaload, 1) := by decide +kernel
theorem dX0_fitsIn_26 : decode cX0_fitsIn 26 = .ok (.iload 4, 2) := by decide +kernel
theorem dX0_fitsIn_28 : decode cX0_fitsIn 28 = .ok (.if_icmp .gt 7, 3) := by decide +kernel
theorem dX0_fitsIn_31 : decode cX0_fitsIn 31 = .ok (.iconst 1, 1) := by decide +kernel
theorem dX0_fitsIn_32 : decode cX0_fitsIn 32 = .ok (.goto 4, 3) := by decide +kernel
theorem dX0_fitsIn_35 : decode cX0_fitsIn 35 = .ok (.iconst 0, 1) := by decide +kernel
theorem dX0_fitsIn_36 : decode cX0_fitsIn 36 = .ok (.ireturn, 1) := by decide +kernel
set_option maxRecDepth 20000 in
theorem ggX0_number_X0_setOf : GoodIn wsX0_number wsX0_setOf := goodIn_r _ [5, 6, 7, 8, 9, 4, 10, 11, 12, 20, 21, 22, 23, 24, 25, 26, 27, 28, 29] (by decide +kernel) (by decide +kernel)
set_option maxRecDepth 20000 in
theorem gX0_number_X0_setOf : GoodIn wsX0_number (wsV RX0 47 RX0 yX0_setOf wsX0_setOf) := goodIn_app (goodIn_of _ (by decide +kernel)) ggX0_number_X0_setOf
set_option maxRecDepth 20000 in
theorem ggX0_number_J6_bitCount_0f7a4 : GoodIn wsX0_number wsJ6_bitCount_0f7a4 := goodIn_r _ [16, 17, 18, 19] (by decide +kernel) (by decide +kernel)
set_option maxRecDepth 20000 in
theorem gX0_number_J6_bitCount_0f7a4 : GoodIn wsX0_number (va_wsS RX0 51 yJ6_bitCount_0f7a4 wsJ6_bitCount_0f7a4) := goodIn_app (goodIn_of _ (by decide +kernel)) ggX0_number_J6_bitCount_0f7a4
theorem dX0_number_0 : decode cX0_number 0 = .ok (.aload_n 0, 1) := by decide +kernel
theorem dX0_number_1 : decode cX0_number 1 = .ok (.iload_n 1, 1) := by decide +kernel
theorem dX0_number_2 : decode cX0_number 2 = .ok (.iload_n 2, 1) := by decide +kernel
theorem dX0_number_3 : decode cX0_number 3 = .ok (.invokevirtual 47, 3) := by decide +kernel
theorem dX0_number_6 : decode cX0_number 6 = .ok (.invokestatic 51, 3) := by decide +kernel
theorem dX0_number_9 : decode cX0_number 9 = .ok (.ireturn, 1) := by decide +kernel
set_option maxRecDepth 20000 in
theorem ggX0_setOf_X0_is : GoodIn wsX0_setOf wsX0_is := goodIn_r _ [6, 7, 8, 9, 10, 11, 12, 13, 14, 15, 16, 17, 18] (by decide +kernel) (by decide +kernel)
set_option maxRecDepth 20000 in
theorem gX0_setOf_X0_is : GoodIn wsX0_setOf (wsV RX0 43 RX0 yX0_is wsX0_is) := goodIn_app (goodIn_of _ (by decide +kernel)) ggX0_setOf_X0_is
theorem dX0_setOf_0 : decode cX0_setOf 0 = .ok (.iconst 0, 1) := by decide +kernel
theorem dX0_setOf_1 : decode cX0_setOf 1 = .ok (.istore_n 3, 1) := by decide +kernel
theorem dX0_setOf_2 : decode cX0_setOf 2 = .ok (.iconst 0, 1) := by decide +kernel
theorem dX0_setOf_3 : decode cX0_setOf 3 = .ok (.istore 4, 2) := by decide +kernel
theorem dX0_setOf_5 : decode cX0_setOf 5 = .ok (.iload 4, 2) := by decide +kernel
theorem dX0_setOf_7 : decode cX0_setOf 7 = .ok (.aload_n 0, 1) := by decide +kernel
theorem dX0_setOf_8 : decode cX0_setOf 8 = .ok (.getfield 39, 3) := by decide +kernel
theorem dX0_setOf_11 : decode cX0_setOf 11 = .ok (.if_icmp .ge 27, 3) := by decide +kernel
theorem dX0_setOf_14 : decode cX0_setOf 14 = .ok (.aload_n 0, 1) := by decide +kernel
theorem dX0_setOf_15 : decode cX0_setOf 15 = .ok (.iload 4, 2) := by decide +kernel
theorem dX0_setOf_17 : decode cX0_setOf 17 = .ok (.iload_n 1, 1) := by decide +kernel
theorem dX0_setOf_18 : decode cX0_setOf 18 = .ok (.iload_n 2, 1) := by decide +kernel
theorem dX0_setOf_19 : decode cX0_setOf 19 = .ok (.invokevirtual 43, 3) := by decide +kernel
theorem dX0_setOf_22 : decode cX0_setOf 22 = .ok (.ifCond .eq 10, 3) := by decide +kernel
theorem dX0_setOf_25 : decode cX0_setOf 25 = .ok (.iload_n 3, 1) := by decide +kernel
theorem dX0_setOf_26 : decode cX0_setOf 26 = .ok (.iconst 1, 1) := by decide +kernel
theorem dX0_setOf_27 : decode cX0_setOf 27 = .ok (.iload 4, 2) := by decide +kernel
theorem dX0_setOf_29 : decode cX0_setOf 29 = .ok (.ishl, 1) := by decide +kernel
theorem dX0_setOf_30 : decode cX0_setOf 30 = .ok (.ior, 1) := by decide +kernel
theorem dX0_setOf_31 : decode cX0_setOf 31 = .ok (.istore_n 3, 1) := by decide +kernel
theorem dX0_setOf_32 : decode cX0_setOf 32 = .ok (.iinc 4 1, 3) := by decide +kernel
theorem dX0_setOf_35 : decode cX0_setOf 35 = .ok (.goto (-30), 3) := by decide +kernel
theorem dX0_setOf_38 : decode cX0_setOf 38 = .ok (.iload_n 3, 1) := by decide +kernel
theorem dX0_setOf_39 : decode cX0_setOf 39 = .ok (.ireturn, 1) := by decide +kernel
theorem dX0_setFrom_0 : decode cX0_setFrom 0 = .ok (.iconst 0, 1) := by decide +kernel
theorem dX0_setFrom_1 : decode cX0_setFrom 1 = .ok (.istore_n 2, 1) := by decide +kernel
theorem dX0_setFrom_2 : decode cX0_setFrom 2 = .ok (.iconst 0, 1) := by decide +kernel
theorem dX0_setFrom_3 : decode cX0_setFrom 3 = .ok (.istore_n 3, 1) := by decide +kernel
theorem dX0_setFrom_4 : decode cX0_setFrom 4 = .ok (.iload_n 3, 1) := by decide +kernel
theorem dX0_setFrom_5 : decode cX0_setFrom 5 = .ok (.aload_n 0, 1) := by decide +kernel
theorem dX0_setFrom_6 : decode cX0_setFrom 6 = .ok (.getfield 39, 3) := by decide +kernel
theorem dX0_setFrom_9 : decode cX0_setFrom 9 = .ok (.if_icmp .ge 25, 3) := by decide +kernel
theorem dX0_setFrom_12 : decode cX0_setFrom 12 = .ok (.aload_n 0, 1) := by decide +kernel
theorem dX0_setFrom_13 : decode cX0_setFrom 13 = .ok (.getfield 9, 3) := by decide +kernel
theorem dX0_setFrom_16 : decode cX0_setFrom 16 = .ok (.iload_n 3, 1) := by decide +kernel
theorem dX0_setFrom_17 : decode cX0_setFrom 17 = .ok (.iaload, 1) := by decide +kernel
theorem dX0_setFrom_18 : decode cX0_setFrom 18 = .ok (.iload_n 1, 1) := by decide +kernel
theorem dX0_setFrom_19 : decode cX0_setFrom 19 = .ok (.if_icmp .ne 9, 3) := by decide +kernel
theorem dX0_setFrom_22 : decode cX0_setFrom 22 = .ok (.iload_n 2, 1) := by decide +kernel
theorem dX0_setFrom_23 : decode cX0_setFrom 23 = .ok (.iconst 1, 1) := by decide +kernel
theorem dX0_setFrom_24 : decode cX0_setFrom 24 = .ok (.iload_n 3, 1) := by decide +kernel
theorem dX0_setFrom_25 : decode cX0_setFrom 25 = .ok (.ishl, 1) := by decide +kernel
theorem dX0_setFrom_26 : decode cX0_setFrom 26 = .ok (.ior, 1) := by decide +kernel
theorem dX0_setFrom_27 : decode cX0_setFrom 27 = .ok (.istore_n 2, 1) := by decide +kernel
theorem dX0_setFrom_28 : decode cX0_setFrom 28 = .ok (.iinc 3 1, 3) := by decide +kernel
theorem dX0_setFrom_31 : decode cX0_setFrom 31 = .ok (.goto (-27), 3) := by decide +kernel
theorem dX0_setFrom_34 : decode cX0_setFrom 34 = .ok (.iload_n 2, 1) := by decide +kernel
theorem dX0_setFrom_35 : decode cX0_setFrom 35 = .ok (.ireturn, 1) := by decide +kernel
theorem dX0_setTo_0 : decode cX0_setTo 0 = .ok (.iconst 0, 1) := by decide +kernel
theorem dX0_setTo_1 : decode cX0_setTo 1 = .ok (.istore_n 2, 1) := by decide +kernel
theorem dX0_setTo_2 : decode cX0_setTo 2 = .ok (.iconst 0, 1) := by decide +kernel
theorem dX0_setTo_3 : decode cX0_setTo 3 = .ok (.istore_n 3, 1) := by decide +kernel
theorem dX0_setTo_4 : decode cX0_setTo 4 = .ok (.iload_n 3, 1) := by decide +kernel
theorem dX0_setTo_5 : decode cX0_setTo 5 = .ok (.aload_n 0, 1) := by decide +kernel
theorem dX0_setTo_6 : decode cX0_setTo 6 = .ok (.getfield 39, 3) := by decide +kernel
theorem dX0_setTo_9 : decode cX0_setTo 9 = .ok (.if_icmp .ge 25, 3) := by decide +kernel
theorem dX0_setTo_12 : decode cX0_setTo 12 = .ok (.aload_n 0, 1) := by decide +kernel
theorem dX0_setTo_13 : decode cX0_setTo 13 = .ok (.getfield 15, 3) := by decide +kernel
theorem dX0_setTo_16 : decode cX0_setTo 16 = .ok (.iload_n 3, 1) := by decide +kernel
theorem dX0_setTo_17 : decode cX0_setTo 17 = .ok (.iaload, 1) := by decide +kernel
theorem dX0_setTo_18 : decode cX0_setTo 18 = .ok (.iload_n 1, 1) := by decide +kernel
theorem dX0_setTo_19 : decode cX0_setTo 19 = .ok (.if_icmp .ne 9, 3) := by decide +kernel
theorem dX0_setTo_22 : decode cX0_setTo 22 = .ok (.iload_n 2, 1) := by decide +kernel
theorem dX0_setTo_23 : decode cX0_setTo 23 = .ok (.iconst 1, 1) := by decide +kernel
theorem dX0_setTo_24 : decode cX0_setTo 24 = .ok (.iload_n 3, 1) := by decide +kernel
theorem dX0_setTo_25 : decode cX0_setTo 25 = .ok (.ishl, 1) := by decide +kernel
theorem dX0_setTo_26 : decode cX0_setTo 26 = .ok (.ior, 1) := by decide +kernel
theorem dX0_setTo_27 : decode cX0_setTo 27 = .ok (.istore_n 2, 1) := by decide +kernel
theorem dX0_setTo_28 : decode cX0_setTo 28 = .ok (.iinc 3 1, 3) := by decide +kernel
theorem dX0_setTo_31 : decode cX0_setTo 31 = .ok (.goto (-27), 3) := by decide +kernel
theorem dX0_setTo_34 : decode cX0_setTo 34 = .ok (.iload_n 2, 1) := by decide +kernel
theorem dX0_setTo_35 : decode cX0_setTo 35 = .ok (.ireturn, 1) := by decide +kernel
set_option maxRecDepth 20000 in
theorem ggX0_loadAboard_X0_loadStaying : GoodIn wsX0_loadAboard wsX0_loadStaying := goodIn_r _ [5, 6, 7, 8, 9, 10, 11, 4, 12, 13, 14, 15, 16, 17, 18, 19, 20, 21, 22, 23, 24] (by decide +kernel) (by decide +kernel)
set_option maxRecDepth 20000 in
theorem gX0_loadAboard_X0_loadStaying : GoodIn wsX0_loadAboard (wsV RX0 57 RX0 yX0_loadStaying wsX0_loadStaying) := goodIn_app (goodIn_of _ (by decide +kernel)) ggX0_loadAboard_X0_loadStaying
theorem dX0_loadAboard_0 : decode cX0_loadAboard 0 = .ok (.aload_n 0, 1) := by decide +kernel
theorem dX0_loadAboard_1 : decode cX0_loadAboard 1 = .ok (.iload_n 1, 1) := by decide +kernel
theorem dX0_loadAboard_2 : decode cX0_loadAboard 2 = .ok (.iconst (-1), 1) := by decide +kernel
theorem dX0_loadAboard_3 : decode cX0_loadAboard 3 = .ok (.invokevirtual 57, 3) := by decide +kernel
theorem dX0_loadAboard_6 : decode cX0_loadAboard 6 = .ok (.ireturn, 1) := by decide +kernel
set_option maxRecDepth 20000 in
theorem ggX0_loadStaying_X0_is : GoodIn wsX0_loadStaying wsX0_is := goodIn_r _ [8, 9, 10, 11, 12, 13, 14, 15, 16, 17, 18, 19, 20] (by decide +kernel) (by decide +kernel)
set_option maxRecDepth 20000 in
theorem gX0_loadStaying_X0_is : GoodIn wsX0_loadStaying (wsV RX0 43 RX0 yX0_is wsX0_is) := goodIn_app (goodIn_of _ (by decide +kernel)) ggX0_loadStaying_X0_is
theorem dX0_loadStaying_0 : decode cX0_loadStaying 0 = .ok (.iconst 0, 1) := by decide +kernel
theorem dX0_loadStaying_1 : decode cX0_loadStaying 1 = .ok (.istore_n 3, 1) := by decide +kernel
theorem dX0_loadStaying_2 : decode cX0_loadStaying 2 = .ok (.iconst 0, 1) := by decide +kernel
theorem dX0_loadStaying_3 : decode cX0_loadStaying 3 = .ok (.istore 4, 2) := by decide +kernel
theorem dX0_loadStaying_5 : decode cX0_loadStaying 5 = .ok (.iload 4, 2) := by decide +kernel
theorem dX0_loadStaying_7 : decode cX0_loadStaying 7 = .ok (.aload_n 0, 1) := by decide +kernel
theorem dX0_loadStaying_8 : decode cX0_loadStaying 8 = .ok (.getfield 39, 3) := by decide +kernel
theorem dX0_loadStaying_11 : decode cX0_loadStaying 11 = .ok (.if_icmp .ge 41, 3) := by decide +kernel
theorem dX0_loadStaying_14 : decode cX0_loadStaying 14 = .ok (.aload_n 0, 1) := by decide +kernel
theorem dX0_loadStaying_15 : decode cX0_loadStaying 15 = .ok (.iload 4, 2) := by decide +kernel
theorem dX0_loadStaying_17 : decode cX0_loadStaying 17 = .ok (.iconst 1, 1) := by decide +kernel
theorem dX0_loadStaying_18 : decode cX0_loadStaying 18 = .ok (.iload_n 1, 1) := by decide +kernel
theorem dX0_loadStaying_19 : decode cX0_loadStaying 19 = .ok (.invokevirtual 43, 3) := by decide +kernel
theorem dX0_loadStaying_22 : decode cX0_loadStaying 22 = .ok (.ifCond .eq 24, 3) := by decide +kernel
theorem dX0_loadStaying_25 : decode cX0_loadStaying 25 = .ok (.aload_n 0, 1) := by decide +kernel
theorem dX0_loadStaying_26 : decode cX0_loadStaying 26 = .ok (.getfield 15, 3) := by decide +kernel
theorem dX0_loadStaying_29 : decode cX0_loadStaying 29 = .ok (.iload 4, 2) := by decide +kernel
theorem dX0_loadStaying_31 : decode cX0_loadStaying 31 = .ok (.iaload, 1) := by decide +kernel
theorem dX0_loadStaying_32 : decode cX0_loadStaying 32 = .ok (.iload_n 2, 1) := by decide +kernel
theorem dX0_loadStaying_33 : decode cX0_loadStaying 33 = .ok (.if_icmp .eq 13, 3) := by decide +kernel
theorem dX0_loadStaying_36 : decode cX0_loadStaying 36 = .ok (.iload_n 3, 1) := by decide +kernel
theorem dX0_loadStaying_37 : decode cX0_loadStaying 37 = .ok (.aload_n 0, 1) := by decide +kernel
theorem dX0_loadStaying_38 : decode cX0_loadStaying 38 = .ok (.getfield 21, 3) := by decide +kernel
theorem dX0_loadStaying_41 : decode cX0_loadStaying 41 = .ok (.iload 4, 2) := by decide +kernel
theorem dX0_loadStaying_43 : decode cX0_loadStaying 43 = .ok (.iaload, 1) := by decide +kernel
theorem dX0_loadStaying_44 : decode cX0_loadStaying 44 = .ok (.iadd, 1) := by decide +kernel
theorem dX0_loadStaying_45 : decode cX0_loadStaying 45 = .ok (.istore_n 3, 1) := by decide +kernel
theorem dX0_loadStaying_46 : decode cX0_loadStaying 46 = .ok (.iinc 4 1, 3) := by decide +kernel
theorem dX0_loadStaying_49 : decode cX0_loadStaying 49 = .ok (.goto (-44), 3) := by decide +kernel
theorem dX0_loadStaying_52 : decode cX0_loadStaying 52 = .ok (.iload_n 3, 1) := by decide +kernel
theorem dX0_loadStaying_53 : decode cX0_loadStaying 53 = .ok (.ireturn, 1) := by decide +kernel
set_option maxRecDepth 20000 in
theorem ggX0_numberWaiting_X3_asNumber : GoodIn wsX0_numberWaiting wsX3_asNumber := goodIn_r _ [5] (by decide +kernel) (by decide +kernel)
set_option maxRecDepth 20000 in
theorem gX0_numberWaiting_X3_asNumber_n60 : GoodIn wsX0_numberWaiting (wsX3_asNumber) := ggX0_numberWaiting_X3_asNumber
theorem dX0_numberWaiting_0 : decode cX0_numberWaiting 0 = .ok (.iconst 0, 1) := by decide +kernel
theorem dX0_numberWaiting_1 : decode cX0_numberWaiting 1 = .ok (.istore_n 1, 1) := by decide +kernel
theorem dX0_numberWaiting_2 : decode cX0_numberWaiting 2 = .ok (.iconst 0, 1) := by decide +kernel
theorem dX0_numberWaiting_3 : decode cX0_numberWaiting 3 = .ok (.istore_n 2, 1) := by decide +kernel
theorem dX0_numberWaiting_4 : decode cX0_numberWaiting 4 = .ok (.iload_n 2, 1) := by decide +kernel
theorem dX0_numberWaiting_5 : decode cX0_numberWaiting 5 = .ok (.aload_n 0, 1) := by decide +kernel
theorem dX0_numberWaiting_6 : decode cX0_numberWaiting 6 = .ok (.getfield 39, 3) := by decide +kernel
theorem dX0_numberWaiting_9 : decode cX0_numberWaiting 9 = .ok (.if_icmp .ge 29, 3) := by decide +kernel
theorem dX0_numberWaiting_12 : decode cX0_numberWaiting 12 = .ok (.iload_n 1, 1) := by decide +kernel
theorem dX0_numberWaiting_13 : decode cX0_numberWaiting 13 = .ok (.aload_n 0, 1) := by decide +kernel
theorem dX0_numberWaiting_14 : decode cX0_numberWaiting 14 = .ok (.getfield 24, 3) := by decide +kernel
theorem dX0_numberWaiting_17 : decode cX0_numberWaiting 17 = .ok (.iload_n 2, 1) := by decide +kernel
theorem dX0_numberWaiting_18 : decode cX0_numberWaiting 18 = .ok (.iaload, 1) := by decide +kernel
theorem dX0_numberWaiting_19 : decode cX0_numberWaiting 19 = .ok (.ifCond .ne 7, 3) := by decide +kernel
theorem dX0_numberWaiting_22 : decode cX0_numberWaiting 22 = .ok (.iconst 1, 1) := by decide +kernel
theorem dX0_numberWaiting_23 : decode cX0_numberWaiting 23 = .ok (.goto 4, 3) := by decide +kernel
theorem dX0_numberWaiting_26 : decode cX0_numberWaiting 26 = .ok (.iconst 0, 1) := by decide +kernel
theorem dX0_numberWaiting_27 : decode cX0_numberWaiting 27 = .ok (.invokestatic 60, 3) := by decide +kernel
theorem dX0_numberWaiting_30 : decode cX0_numberWaiting 30 = .ok (.iadd, 1) := by decide +kernel
theorem dX0_numberWaiting_31 : decode cX0_numberWaiting 31 = .ok (.istore_n 1, 1) := by decide +kernel
theorem dX0_numberWaiting_32 : decode cX0_numberWaiting 32 = .ok (.iinc 2 1, 3) := by decide +kernel
theorem dX0_numberWaiting_35 : decode cX0_numberWaiting 35 = .ok (.goto (-31), 3) := by decide +kernel
theorem dX0_numberWaiting_38 : decode cX0_numberWaiting 38 = .ok (.iload_n 1, 1) := by decide +kernel
theorem dX0_numberWaiting_39 : decode cX0_numberWaiting 39 = .ok (.ireturn, 1) := by decide +kernel
theorem dX0_levelsWithWaiting_0 : decode cX0_levelsWithWaiting 0 = .ok (.iconst 0, 1) := by decide +kernel
theorem dX0_levelsWithWaiting_1 : decode cX0_levelsWithWaiting 1 = .ok (.istore_n 1, 1) := by decide +kernel
theorem dX0_levelsWithWaiting_2 : decode cX0_levelsWithWaiting 2 = .ok (.iconst 0, 1) := by decide +kernel
theorem dX0_levelsWithWaiting_3 : decode cX0_levelsWithWaiting 3 = .ok (.istore_n 2, 1) := by decide +kernel
theorem dX0_levelsWithWaiting_4 : decode cX0_levelsWithWaiting 4 = .ok (.iload_n 2, 1) := by decide +kernel
theorem dX0_levelsWithWaiting_5 : decode cX0_levelsWithWaiting 5 = .ok (.aload_n 0, 1) := by decide +kernel
theorem dX0_levelsWithWaiting_6 : decode cX0_levelsWithWaiting 6 = .ok (.getfield 39, 3) := by decide +kernel
theorem dX0_levelsWithWaiting_9 : decode cX0_levelsWithWaiting 9 = .ok (.if_icmp .ge 29, 3) := by decide +kernel
theorem dX0_levelsWithWaiting_12 : decode cX0_levelsWithWaiting 12 = .ok (.aload_n 0, 1) := by decide +kernel
theorem dX0_levelsWithWaiting_13 : decode cX0_levelsWithWaiting 13 = .ok (.getfield 24, 3) := by decide +kernel
theorem dX0_levelsWithWaiting_16 : decode cX0_levelsWithWaiting 16 = .ok (.iload_n 2, 1) := by decide +kernel
theorem dX0_levelsWithWaiting_17 : decode cX0_levelsWithWaiting 17 = .ok (.iaload, 1) := by decide +kernel
theorem dX0_levelsWithWaiting_18 : decode cX0_levelsWithWaiting 18 = .ok (.ifCond .ne 14, 3) := by decide +kernel
theorem dX0_levelsWithWaiting_21 : decode cX0_levelsWithWaiting 21 = .ok (.iload_n 1, 1) := by decide +kernel
theorem dX0_levelsWithWaiting_22 : decode cX0_levelsWithWaiting 22 = .ok (.iconst 1, 1) := by decide +kernel
theorem dX0_levelsWithWaiting_23 : decode cX0_levelsWithWaiting 23 = .ok (.aload_n 0, 1) := by decide +kernel
theorem dX0_levelsWithWaiting_24 : decode cX0_levelsWithWaiting 24 = .ok (.getfield 9, 3) := by decide +kernel
theorem dX0_levelsWithWaiting_27 : decode cX0_levelsWithWaiting 27 = .ok (.iload_n 2, 1) := by decide +kernel
theorem dX0_levelsWithWaiting_28 : decode cX0_levelsWithWaiting 28 = .ok (.iaload, 1) := by decide +kernel
theorem dX0_levelsWithWaiting_29 : decode cX0_levelsWithWaiting 29 = .ok (.ishl, 1) := by decide +kernel
theorem dX0_levelsWithWaiting_30 : decode cX0_levelsWithWaiting 30 = .ok (.ior, 1) := by decide +kernel
theorem dX0_levelsWithWaiting_31 : decode cX0_levelsWithWaiting 31 = .ok (.istore_n 1, 1) := by decide +kernel
theorem dX0_levelsWithWaiting_32 : decode cX0_levelsWithWaiting 32 = .ok (.iinc 2 1, 3) := by decide +kernel
theorem dX0_levelsWithWaiting_35 : decode cX0_levelsWithWaiting 35 = .ok (.goto (-31), 3) := by decide +kernel
theorem dX0_levelsWithWaiting_38 : decode cX0_levelsWithWaiting 38 = .ok (.iload_n 1, 1) := by decide +kernel
theorem dX0_levelsWithWaiting_39 : decode cX0_levelsWithWaiting 39 = .ok (.ireturn, 1) := by decide +kernel
set_option maxRecDepth 20000 in
theorem ggX0_hasWork_X0_setOf : GoodIn wsX0_hasWork wsX0_setOf := goodIn_r _ [5, 6, 7, 8, 9, 4, 10, 11, 12, 19, 20, 21, 22, 23, 24, 25, 26, 27, 28] (by decide +kernel) (by decide +kernel)
set_option maxRecDepth 20000 in
theorem gX0_hasWork_X0_setOf : GoodIn wsX0_hasWork (wsV RX0 47 RX0 yX0_setOf wsX0_setOf) := goodIn_app (goodIn_of _ (by decide +kernel)) ggX0_hasWork_X0_setOf
set_option maxRecDepth 20000 in
theorem ggX0_hasWork_X0_nearestStop : GoodIn wsX0_hasWork wsX0_nearestStop := goodIn_r _ [16, 6, 17, 18, 19, 20, 21, 22, 23, 24, 25, 26, 27, 28] (by decide +kernel) (by decide +kernel)
set_option maxRecDepth 20000 in
theorem gX0_hasWork_X0_nearestStop : GoodIn wsX0_hasWork (wsV RX0 64 RX0 yX0_nearestStop wsX0_nearestStop) := goodIn_app (goodIn_of _ (by decide +kernel)) ggX0_hasWork_X0_nearestStop
theorem dX0_hasWork_0 : decode cX0_hasWork 0 = .ok (.aload_n 0, 1) := by decide +kernel
theorem dX0_hasWork_1 : decode cX0_hasWork 1 = .ok (.iload_n 2, 1) := by decide +kernel
theorem dX0_hasWork_2 : decode cX0_hasWork 2 = .ok (.iload_n 3, 1) := by decide +kernel
theorem dX0_hasWork_3 : decode cX0_hasWork 3 = .ok (.aload_n 0, 1) := by decide +kernel
theorem dX0_hasWork_4 : decode cX0_hasWork 4 = .ok (.iconst 0, 1) := by decide +kernel
theorem dX0_hasWork_5 : decode cX0_hasWork 5 = .ok (.iload_n 1, 1) := by decide +kernel
theorem dX0_hasWork_6 : decode cX0_hasWork 6 = .ok (.invokevirtual 47, 3) := by decide +kernel
theorem dX0_hasWork_9 : decode cX0_hasWork 9 = .ok (.aload_n 0, 1) := by decide +kernel
theorem dX0_hasWork_10 : decode cX0_hasWork 10 = .ok (.iconst 1, 1) := by decide +kernel
theorem dX0_hasWork_11 : decode cX0_hasWork 11 = .ok (.iload_n 1, 1) := by decide +kernel
theorem dX0_hasWork_12 : decode cX0_hasWork 12 = .ok (.invokevirtual 47, 3) := by decide +kernel
theorem dX0_hasWork_15 : decode cX0_hasWork 15 = .ok (.invokevirtual 64, 3) := by decide +kernel
theorem dX0_hasWork_18 : decode cX0_hasWork 18 = .ok (.iconst (-1), 1) := by decide +kernel
theorem dX0_hasWork_19 : decode cX0_hasWork 19 = .ok (.if_icmp .eq 7, 3) := by decide +kernel
theorem dX0_hasWork_22 : decode cX0_hasWork 22 = .ok (.iconst 1, 1) := by decide +kernel
theorem dX0_hasWork_23 : decode cX0_hasWork 23 = .ok (.goto 4, 3) := by decide +kernel
theorem dX0_hasWork_26 : decode cX0_hasWork 26 = .ok (.iconst 0, 1) := by decide +kernel
theorem dX0_hasWork_27 : decode cX0_hasWork 27 = .ok (.ireturn, 1) := by decide +kernel
theorem dX0_nearestStop_0 : decode cX0_nearestStop 0 = .ok (.iconst (-1), 1) := by decide +kernel
theorem dX0_nearestStop_1 : decode cX0_nearestStop 1 = .ok (.istore 5, 2) := by decide +kernel
theorem dX0_nearestStop_3 : decode cX0_nearestStop 3 = .ok (.bipush 20, 2) := by decide +kernel
theorem dX0_nearestStop_5 : decode cX0_nearestStop 5 = .ok (.istore 6, 2) := by decide +kernel
theorem dX0_nearestStop_7 : decode cX0_nearestStop 7 = .ok (.iconst 0, 1) := by decide +kernel
theorem dX0_nearestStop_8 : decode cX0_nearestStop 8 = .ok (.istore 7, 2) := by decide +kernel
theorem dX0_nearestStop_10 : decode cX0_nearestStop 10 = .ok (.iload 7, 2) := by decide +kernel
theorem dX0_nearestStop_12 : decode cX0_nearestStop 12 = .ok (.aload_n 0, 1) := by decide +kernel
theorem dX0_nearestStop_13 : decode cX0_nearestStop 13 = .ok (.getfield 39, 3) := by decide +kernel
theorem dX0_nearestStop_16 : decode cX0_nearestStop 16 = .ok (.if_icmp .ge 106, 3) := by decide +kernel
theorem dX0_nearestStop_19 : decode cX0_nearestStop 19 = .ok (.iload_n 3, 1) := by decide +kernel
theorem dX0_nearestStop_20 : decode cX0_nearestStop 20 = .ok (.iload 7, 2) := by decide +kernel
theorem dX0_nearestStop_22 : decode cX0_nearestStop 22 = .ok (.ishr, 1) := by decide +kernel
theorem dX0_nearestStop_23 : decode cX0_nearestStop 23 = .ok (.iconst 1, 1) := by decide +kernel
theorem dX0_nearestStop_24 : decode cX0_nearestStop 24 = .ok (.iand, 1) := by decide +kernel
theorem dX0_nearestStop_25 : decode cX0_nearestStop 25 = .ok (.iconst 1, 1) := by decide +kernel
theorem dX0_nearestStop_26 : decode cX0_nearestStop 26 = .ok (.if_icmp .ne 7, 3) := by decide +kernel
theorem dX0_nearestStop_29 : decode cX0_nearestStop 29 = .ok (.iconst 1, 1) := by decide +kernel
theorem dX0_nearestStop_30 : decode cX0_nearestStop 30 = .ok (.goto 4, 3) := by decide +kernel
theorem dX0_nearestStop_33 : decode cX0_nearestStop 33 = .ok (.iconst 0, 1) := by decide +kernel
theorem dX0_nearestStop_34 : decode cX0_nearestStop 34 = .ok (.istore 8, 2) := by decide +kernel
theorem dX0_nearestStop_36 : decode cX0_nearestStop 36 = .ok (.iload 4, 2) := by decide +kernel
theorem dX0_nearestStop_38 : decode cX0_nearestStop 38 = .ok (.iload 7, 2) := by decide +kernel
theorem dX0_nearestStop_40 : decode cX0_nearestStop 40 = .ok (.ishr, 1) := by decide +kernel
theorem dX0_nearestStop_41 : decode cX0_nearestStop 41 = .ok (.iconst 1, 1) := by decide +kernel
theorem dX0_nearestStop_42 : decode cX0_nearestStop 42 = .ok (.iand, 1) := by decide +kernel
theorem dX0_nearestStop_43 : decode cX0_nearestStop 43 = .ok (.iconst 1, 1) := by decide +kernel
theorem dX0_nearestStop_44 : decode cX0_nearestStop 44 = .ok (.if_icmp .ne 7, 3) := by decide +kernel
theorem dX0_nearestStop_47 : decode cX0_nearestStop 47 = .ok (.iconst 1, 1) := by decide +kernel
theorem dX0_nearestStop_48 : decode cX0_nearestStop 48 = .ok (.goto 4, 3) := by decide +kernel
theorem dX0_nearestStop_51 : decode cX0_nearestStop 51 = .ok (.iconst 0, 1) := by decide +kernel
theorem dX0_nearestStop_52 : decode cX0_nearestStop 52 = .ok (.istore 9, 2) := by decide +kernel
theorem dX0_nearestStop_54 : decode cX0_nearestStop 54 = .ok (.iload 8, 2) := by decide +kernel
theorem dX0_nearestStop_56 : decode cX0_nearestStop 56 = .ok (.ifCond .eq 13, 3) := by decide +kernel
theorem dX0_nearestStop_59 : decode cX0_nearestStop 59 = .ok (.aload_n 0, 1) := by decide +kernel
theorem dX0_nearestStop_60 : decode cX0_nearestStop 60 = .ok (.getfield 9, 3) := by decide +kernel
theorem dX0_nearestStop_63 : decode cX0_nearestStop 63 = .ok (.iload 7, 2) := by decide +kernel
theorem dX0_nearestStop_65 : decode cX0_nearestStop 65 = .ok (.iaload, 1) := by decide +kernel
theorem dX0_nearestStop_66 : decode cX0_nearestStop 66 = .ok (.goto 10, 3) := by decide +kernel
theorem dX0_nearestStop_69 : decode cX0_nearestStop 69 = .ok (.aload_n 0, 1) := by decide +kernel
theorem dX0_nearestStop_70 : decode cX0_nearestStop 70 = .ok (.getfield 15, 3) := by decide +kernel
theorem dX0_nearestStop_73 : decode cX0_nearestStop 73 = .ok (.iload 7, 2) := by decide +kernel
theorem dX0_nearestStop_75 : decode cX0_nearestStop 75 = .ok (.iaload, 1) := by decide +kernel
theorem dX0_nearestStop_76 : decode cX0_nearestStop 76 = .ok (.istore 10, 2) := by decide +kernel
theorem dX0_nearestStop_78 : decode cX0_nearestStop 78 = .ok (.iload 10, 2) := by decide +kernel
theorem dX0_nearestStop_80 : decode cX0_nearestStop 80 = .ok (.iload_n 1, 1) := by decide +kernel
theorem dX0_nearestStop_81 : decode cX0_nearestStop 81 = .ok (.isub, 1) := by decide +kernel
theorem dX0_nearestStop_82 : decode cX0_nearestStop 82 = .ok (.iload_n 2, 1) := by decide +kernel
theorem dX0_nearestStop_83 : decode cX0_nearestStop 83 = .ok (.imul, 1) := by decide +kernel
theorem dX0_nearestStop_84 : decode cX0_nearestStop 84 = .ok (.istore 11, 2) := by decide +kernel
theorem dX0_nearestStop_86 : decode cX0_nearestStop 86 = .ok (.iload 8, 2) := by decide +kernel
theorem dX0_nearestStop_88 : decode cX0_nearestStop 88 = .ok (.ifCond .ne 8, 3) := by decide +kernel
theorem dX0_nearestStop_91 : decode cX0_nearestStop 91 = .ok (.iload 9, 2) := by decide +kernel
theorem dX0_nearestStop_93 : decode cX0_nearestStop 93 = .ok (.ifCond .eq 23, 3) := by decide +kernel
theorem dX0_nearestStop_96 : decode cX0_nearestStop 96 = .ok (.iload 11, 2) := by decide +kernel
theorem dX0_nearestStop_98 : decode cX0_nearestStop 98 = .ok (.ifCond .le 18, 3) := by decide +kernel
theorem dX0_nearestStop_101 : decode cX0_nearestStop 101 = .ok (.iload 11, 2) := by decide +kernel
theorem dX0_nearestStop_103 : decode cX0_nearestStop 103 = .ok (.iload 6, 2) := by decide +kernel
theorem dX0_nearestStop_105 : decode cX0_nearestStop 105 = .ok (.if_icmp .ge 11, 3) := by decide +kernel
theorem dX0_nearestStop_108 : decode cX0_nearestStop 108 = .ok (.iload 10, 2) := by decide +kernel
theorem dX0_nearestStop_110 : decode cX0_nearestStop 110 = .ok (.istore 5, 2) := by decide +kernel
theorem dX0_nearestStop_112 : decode cX0_nearestStop 112 = .ok (.iload 11, 2) := by decide +kernel
theorem dX0_nearestStop_114 : decode cX0_nearestStop 114 = .ok (.istore 6, 2) := by decide +kernel
theorem dX0_nearestStop_116 : decode cX0_nearestStop 116 = .ok (.iinc 7 1, 3) := by decide +kernel
theorem dX0_nearestStop_119 : decode cX0_nearestStop 119 = .ok (.goto (-109), 3) := by decide +kernel
theorem dX0_nearestStop_122 : decode cX0_nearestStop 122 = .ok (.iload 5, 2) := by decide +kernel
theorem dX0_nearestStop_124 : decode cX0_nearestStop 124 = .ok (.ireturn, 1) := by decide +kernel
theorem dX1_init_0 : decode cX1_init 0 = .ok (.aload_n 0, 1) := by decide +kernel
theorem dX1_init_1 : decode cX1_init 1 = .ok (.invokespecial 3, 3) := by decide +kernel
theorem dX1_init_4 : decode cX1_init 4 = .ok (.aload_n 0, 1) := by decide +kernel
theorem dX1_init_5 : decode cX1_init 5 = .ok (.bipush 48, 2) := by decide +kernel
theorem dX1_init_7 : decode cX1_init 7 = .ok (.newarray .int, 2) := by decide +kernel
theorem dX1_init_9 : decode cX1_init 9 = .ok (.putfield 9, 3) := by decide +kernel
theorem dX1_init_12 : decode cX1_init 12 = .ok (.aload_n 0, 1) := by decide +kernel
theorem dX1_init_13 : decode cX1_init 13 = .ok (.bipush 48, 2) := by decide +kernel
theorem dX1_init_15 : decode cX1_init 15 = .ok (.newarray .int, 2) := by decide +kernel
theorem dX1_init_17 : decode cX1_init 17 = .ok (.putfield 15, 3) := by decide +kernel
theorem dX1_init_20 : decode cX1_init 20 = .ok (.aload_n 0, 1) := by decide +kernel
theorem dX1_init_21 : decode cX1_init 21 = .ok (.bipush 48, 2) := by decide +kernel
theorem dX1_init_23 : decode cX1_init 23 = .ok (.newarray .int, 2) := by decide +kernel
theorem dX1_init_25 : decode cX1_init 25 = .ok (.putfield 18, 3) := by decide +kernel
theorem dX1_init_28 : decode cX1_init 28 = .ok (.aload_n 0, 1) := by decide +kernel
theorem dX1_init_29 : decode cX1_init 29 = .ok (.bipush 48, 2) := by decide +kernel
theorem dX1_init_31 : decode cX1_init 31 = .ok (.newarray .int, 2) := by decide +kernel
theorem dX1_init_33 : decode cX1_init 33 = .ok (.putfield 21, 3) := by decide +kernel
theorem dX1_init_36 : decode cX1_init 36 = .ok (.aload_n 0, 1) := by decide +kernel
theorem dX1_init_37 : decode cX1_init 37 = .ok (.iconst 0, 1) := by decide +kernel
theorem dX1_init_38 : decode cX1_init 38 = .ok (.putfield 24, 3) := by decide +kernel
theorem dX1_init_41 : decode cX1_init 41 = .ok (.return_, 1) := by decide +kernel
theorem dX1_add_0 : decode cX1_add 0 = .ok (.aload_n 0, 1) := by decide +kernel
theorem dX1_add_1 : decode cX1_add 1 = .ok (.getfield 24, 3) := by decide +kernel
theorem dX1_add_4 : decode cX1_add 4 = .ok (.bipush 48, 2) := by decide +kernel
theorem dX1_add_6 : decode cX1_add 6 = .ok (.if_icmp .ge 54, 3) := by decide +kernel
theorem dX1_add_9 : decode cX1_add 9 = .ok (.aload_n 0, 1) := by decide +kernel
theorem dX1_add_10 : decode cX1_add 10 = .ok (.getfield 9, 3) := by decide +kernel
theorem dX1_add_13 : decode cX1_add 13 = .ok (.aload_n 0, 1) := by decide +kernel
theorem dX1_add_14 : decode cX1_add 14 = .ok (.getfield 24, 3) := by decide +kernel
theorem dX1_add_17 : decode cX1_add 17 = .ok (.iload_n 1, 1) := by decide +kernel
theorem dX1_add_18 : decode cX1_add 18 = .ok (.iastore, 1) := by decide +kernel
theorem dX1_add_19 : decode cX1_add 19 = .ok (.aload_n 0, 1) := by decide +kernel
theorem dX1_add_20 : decode cX1_add 20 = .ok (.getfield 15, 3) := by decide +kernel
theorem dX1_add_23 : decode cX1_add 23 = .ok (.aload_n 0, 1) := by decide +kernel
theorem dX1_add_24 : decode cX1_add 24 = .ok (.getfield 24, 3) := by decide +kernel
theorem dX1_add_27 : decode cX1_add 27 = .ok (.iload_n 2, 1) := by decide +kernel
theorem dX1_add_28 : decode cX1_add 28 = .ok (.iastore, 1) := by decide +kernel
theorem dX1_add_29 : decode cX1_add 29 = .ok (.aload_n 0, 1) := by decide +kernel
theorem dX1_add_30 : decode cX1_add 30 = .ok (.getfield 18, 3) := by decide +kernel
theorem dX1_add_33 : decode cX1_add 33 = .ok (.aload_n 0, 1) := by decide +kernel
theorem dX1_add_34 : decode cX1_add 34 = .ok (.getfield 24, 3) := by decide +kernel
theorem dX1_add_37 : decode cX1_add 37 = .ok (.iload_n 3, 1) := by decide +kernel
theorem dX1_add_38 : decode cX1_add 38 = .ok (.iastore, 1) := by decide +kernel
theorem dX1_add_39 : decode cX1_add 39 = .ok (.aload_n 0, 1) := by decide +kernel
theorem dX1_add_40 : decode cX1_add 40 = .ok (.getfield 21, 3) := by decide +kernel
theorem dX1_add_43 : decode cX1_add 43 = .ok (.aload_n 0, 1) := by decide +kernel
theorem dX1_add_44 : decode cX1_add 44 = .ok (.getfield 24, 3) := by decide +kernel
theorem dX1_add_47 : decode cX1_add 47 = .ok (.iload 4, 2) := by decide +kernel
theorem dX1_add_49 : decode cX1_add 49 = .ok (.iastore, 1) := by decide +kernel
theorem dX1_add_50 : decode cX1_add 50 = .ok (.aload_n 0, 1) := by decide +kernel
theorem dX1_add_51 : decode cX1_add 51 = .ok (.dup, 1) := by decide +kernel
theorem dX1_add_52 : decode cX1_add 52 = .ok (.getfield 24, 3) := by decide +kernel
theorem dX1_add_55 : decode cX1_add 55 = .ok (.iconst 1, 1) := by decide +kernel
theorem dX1_add_56 : decode cX1_add 56 = .ok (.iadd, 1) := by decide +kernel
theorem dX1_add_57 : decode cX1_add 57 = .ok (.putfield 24, 3) := by decide +kernel
theorem dX1_add_60 : decode cX1_add 60 = .ok (.return_, 1) := by decide +kernel
theorem dX2_init_0 : decode cX2_init 0 = .ok (.aload_n 0, 1) := by decide +kernel
theorem dX2_init_1 : decode cX2_init 1 = .ok (.invokespecial 3, 3) := by decide +kernel
theorem dX2_init_4 : decode cX2_init 4 = .ok (.aload_n 0, 1) := by decide +kernel
theorem dX2_init_5 : decode cX2_init 5 = .ok (.iconst 4, 1) := by decide +kernel
theorem dX2_init_6 : decode cX2_init 6 = .ok (.newarray .int, 2) := by decide +kernel
theorem dX2_init_8 : decode cX2_init 8 = .ok (.putfield 9, 3) := by decide +kernel
theorem dX2_init_11 : decode cX2_init 11 = .ok (.aload_n 0, 1) := by decide +kernel
theorem dX2_init_12 : decode cX2_init 12 = .ok (.iconst 4, 1) := by decide +kernel
theorem dX2_init_13 : decode cX2_init 13 = .ok (.newarray .int, 2) := by decide +kernel
theorem dX2_init_15 : decode cX2_init 15 = .ok (.putfield 15, 3) := by decide +kernel
theorem dX2_init_18 : decode cX2_init 18 = .ok (.aload_n 0, 1) := by decide +kernel
theorem dX2_init_19 : decode cX2_init 19 = .ok (.iconst 4, 1) := by decide +kernel
theorem dX2_init_20 : decode cX2_init 20 = .ok (.newarray .int, 2) := by decide +kernel
theorem dX2_init_22 : decode cX2_init 22 = .ok (.putfield 18, 3) := by decide +kernel
theorem dX2_init_25 : decode cX2_init 25 = .ok (.aload_n 0, 1) := by decide +kernel
theorem dX2_init_26 : decode cX2_init 26 = .ok (.iconst 4, 1) := by decide +kernel
theorem dX2_init_27 : decode cX2_init 27 = .ok (.newarray .int, 2) := by decide +kernel
theorem dX2_init_29 : decode cX2_init 29 = .ok (.putfield 21, 3) := by decide +kernel
theorem dX2_init_32 : decode cX2_init 32 = .ok (.aload_n 0, 1) := by decide +kernel
theorem dX2_init_33 : decode cX2_init 33 = .ok (.iconst 4, 1) := by decide +kernel
theorem dX2_init_34 : decode cX2_init 34 = .ok (.newarray .boolean, 2) := by decide +kernel
theorem dX2_init_36 : decode cX2_init 36 = .ok (.putfield 24, 3) := by decide +kernel
theorem dX2_init_39 : decode cX2_init 39 = .ok (.aload_n 0, 1) := by decide +kernel
theorem dX2_init_40 : decode cX2_init 40 = .ok (.iconst 4, 1) := by decide +kernel
theorem dX2_init_41 : decode cX2_init 41 = .ok (.newarray .boolean, 2) := by decide +kernel
theorem dX2_init_43 : decode cX2_init 43 = .ok (.putfield 28, 3) := by decide +kernel
theorem dX2_init_46 : decode cX2_init 46 = .ok (.aload_n 0, 1) := by decide +kernel
theorem dX2_init_47 : decode cX2_init 47 = .ok (.iconst 4, 1) := by decide +kernel
theorem dX2_init_48 : decode cX2_init 48 = .ok (.newarray .boolean, 2) := by decide +kernel
theorem dX2_init_50 : decode cX2_init 50 = .ok (.putfield 31, 3) := by decide +kernel
theorem dX2_init_53 : decode cX2_init 53 = .ok (.aload_n 0, 1) := by decide +kernel
theorem dX2_init_54 : decode cX2_init 54 = .ok (.iconst 0, 1) := by decide +kernel
theorem dX2_init_55 : decode cX2_init 55 = .ok (.putfield 34, 3) := by decide +kernel
theorem dX2_init_58 : decode cX2_init 58 = .ok (.aload_n 0, 1) := by decide +kernel
theorem dX2_init_59 : decode cX2_init 59 = .ok (.iconst 0, 1) := by decide +kernel
theorem dX2_init_60 : decode cX2_init 60 = .ok (.putfield 38, 3) := by decide +kernel
theorem dX2_init_63 : decode cX2_init 63 = .ok (.return_, 1) := by decide +kernel
theorem dX2_add_0 : decode cX2_add 0 = .ok (.aload_n 0, 1) := by decide +kernel
theorem dX2_add_1 : decode cX2_add 1 = .ok (.getfield 34, 3) := by decide +kernel
theorem dX2_add_4 : decode cX2_add 4 = .ok (.istore_n 3, 1) := by decide +kernel
theorem dX2_add_5 : decode cX2_add 5 = .ok (.iload_n 3, 1) := by decide +kernel
theorem dX2_add_6 : decode cX2_add 6 = .ok (.iconst 4, 1) := by decide +kernel
theorem dX2_add_7 : decode cX2_add 7 = .ok (.if_icmp .ge 27, 3) := by decide +kernel
theorem dX2_add_10 : decode cX2_add 10 = .ok (.aload_n 0, 1) := by decide +kernel
theorem dX2_add_11 : decode cX2_add 11 = .ok (.getfield 9, 3) := by decide +kernel
theorem dX2_add_14 : decode cX2_add 14 = .ok (.iload_n 3, 1) := by decide +kernel
theorem dX2_add_15 : decode cX2_add 15 = .ok (.iload_n 1, 1) := by decide +kernel
theorem dX2_add_16 : decode cX2_add 16 = .ok (.iastore, 1) := by decide +kernel
theorem dX2_add_17 : decode cX2_add 17 = .ok (.aload_n 0, 1) := by decide +kernel
theorem dX2_add_18 : decode cX2_add 18 = .ok (.getfield 15, 3) := by decide +kernel
theorem dX2_add_21 : decode cX2_add 21 = .ok (.iload_n 3, 1) := by decide +kernel
theorem dX2_add_22 : decode cX2_add 22 = .ok (.iload_n 2, 1) := by decide +kernel
theorem dX2_add_23 : decode cX2_add 23 = .ok (.iastore, 1) := by decide +kernel
theorem dX2_add_24 : decode cX2_add 24 = .ok (.aload_n 0, 1) := by decide +kernel
theorem dX2_add_25 : decode cX2_add 25 = .ok (.dup, 1) := by decide +kernel
theorem dX2_add_26 : decode cX2_add 26 = .ok (.getfield 34, 3) := by decide +kernel
theorem dX2_add_29 : decode cX2_add 29 = .ok (.iconst 1, 1) := by decide +kernel
theorem dX2_add_30 : decode cX2_add 30 = .ok (.iadd, 1) := by decide +kernel
theorem dX2_add_31 : decode cX2_add 31 = .ok (.putfield 34, 3) := by decide +kernel
theorem dX2_add_34 : decode cX2_add 34 = .ok (.iload_n 3, 1) := by decide +kernel
theorem dX2_add_35 : decode cX2_add 35 = .ok (.ireturn, 1) := by decide +kernel
theorem dX2_mayGet_0 : decode cX2_mayGet 0 = .ok (.aload_n 0, 1) := by decide +kernel
theorem dX2_mayGet_1 : decode cX2_mayGet 1 = .ok (.getfield 24, 3) := by decide +kernel
theorem dX2_mayGet_4 : decode cX2_mayGet 4 = .ok (.iload_n 1, 1) := by decide +kernel
theorem dX2_mayGet_5 : decode cX2_mayGet 5 = .ok (.baload, 1) := by decide +kernel
theorem dX2_mayGet_6 : decode cX2_mayGet 6 = .ok (.ifCond .ne 26, 3) := by decide +kernel
theorem dX2_mayGet_9 : decode cX2_mayGet 9 = .ok (.aload_n 0, 1) := by decide +kernel
theorem dX2_mayGet_10 : decode cX2_mayGet 10 = .ok (.getfield 28, 3) := by decide +kernel
theorem dX2_mayGet_13 : decode cX2_mayGet 13 = .ok (.iload_n 1, 1) := by decide +kernel
theorem dX2_mayGet_14 : decode cX2_mayGet 14 = .ok (.baload, 1) := by decide +kernel
theorem dX2_mayGet_15 : decode cX2_mayGet 15 = .ok (.ifCond .ne 17, 3) := by decide +kernel
theorem dX2_mayGet_18 : decode cX2_mayGet 18 = .ok (.aload_n 0, 1) := by decide +kernel
theorem dX2_mayGet_19 : decode cX2_mayGet 19 = .ok (.getfield 15, 3) := by decide +kernel
theorem dX2_mayGet_22 : decode cX2_mayGet 22 = .ok (.iload_n 1, 1) := by decide +kernel
theorem dX2_mayGet_23 : decode cX2_mayGet 23 = .ok (.iaload, 1) := by decide +kernel
theorem dX2_mayGet_24 : decode cX2_mayGet 24 = .ok (.iload_n 2, 1) := by decide +kernel
theorem dX2_mayGet_25 : decode cX2_mayGet 25 = .ok (.if_icmp .lt 7, 3) := by decide +kernel
theorem dX2_mayGet_28 : decode cX2_mayGet 28 = .ok (.iconst 1, 1) := by decide +kernel
theorem dX2_mayGet_29 : decode cX2_mayGet 29 = .ok (.goto 4, 3) := by decide +kernel
theorem dX2_mayGet_32 : decode cX2_mayGet 32 = .ok (.iconst 0, 1) := by decide +kernel
theorem dX2_mayGet_33 : decode cX2_mayGet 33 = .ok (.ireturn, 1) := by decide +kernel
theorem dX2_passOpenSecond_0 : decode cX2_passOpenSecond 0 = .ok (.aload_n 0, 1) := by decide +kernel
theorem dX2_passOpenSecond_1 : decode cX2_passOpenSecond 1 = .ok (.getfield 31, 3) := by decide +kernel
theorem dX2_passOpenSecond_4 : decode cX2_passOpenSecond 4 = .ok (.iload_n 1, 1) := by decide +kernel
theorem dX2_passOpenSecond_5 : decode cX2_passOpenSecond 5 = .ok (.baload, 1) := by decide +kernel
theorem dX2_passOpenSecond_6 : decode cX2_passOpenSecond 6 = .ok (.ifCond .eq 7, 3) := by decide +kernel
theorem dX2_passOpenSecond_9 : decode cX2_passOpenSecond 9 = .ok (.iconst 1, 1) := by decide +kernel
theorem dX2_passOpenSecond_10 : decode cX2_passOpenSecond 10 = .ok (.goto 4, 3) := by decide +kernel
theorem dX2_passOpenSecond_13 : decode cX2_passOpenSecond 13 = .ok (.iconst 0, 1) := by decide +kernel
theorem dX2_passOpenSecond_14 : decode cX2_passOpenSecond 14 = .ok (.istore_n 2, 1) := by decide +kernel
theorem dX2_passOpenSecond_15 : decode cX2_passOpenSecond 15 = .ok (.aload_n 0, 1) := by decide +kernel
theorem dX2_passOpenSecond_16 : decode cX2_passOpenSecond 16 = .ok (.getfield 21, 3) := by decide +kernel
theorem dX2_passOpenSecond_19 : decode cX2_passOpenSecond 19 = .ok (.iload_n 1, 1) := by decide +kernel
theorem dX2_passOpenSecond_20 : decode cX2_passOpenSecond 20 = .ok (.iload_n 2, 1) := by decide +kernel
theorem dX2_passOpenSecond_21 : decode cX2_passOpenSecond 21 = .ok (.aload_n 0, 1) := by decide +kernel
theorem dX2_passOpenSecond_22 : decode cX2_passOpenSecond 22 = .ok (.getfield 21, 3) := by decide +kernel
theorem dX2_passOpenSecond_25 : decode cX2_passOpenSecond 25 = .ok (.iload_n 1, 1) := by decide +kernel
theorem dX2_passOpenSecond_26 : decode cX2_passOpenSecond 26 = .ok (.iaload, 1) := by decide +kernel
theorem dX2_passOpenSecond_27 : decode cX2_passOpenSecond 27 = .ok (.iconst 1, 1) := by decide +kernel
theorem dX2_passOpenSecond_28 : decode cX2_passOpenSecond 28 = .ok (.isub, 1) := by decide +kernel
theorem dX2_passOpenSecond_29 : decode cX2_passOpenSecond 29 = .ok (.invokestatic 41, 3) := by decide +kernel
theorem dX2_passOpenSecond_32 : decode cX2_passOpenSecond 32 = .ok (.iastore, 1) := by decide +kernel
theorem dX2_passOpenSecond_33 : decode cX2_passOpenSecond 33 = .ok (.return_, 1) := by decide +kernel
theorem dX2_go_0 : decode cX2_go 0 = .ok (.aload_n 0, 1) := by decide +kernel
theorem dX2_go_1 : decode cX2_go 1 = .ok (.getfield 18, 3) := by decide +kernel
theorem dX2_go_4 : decode cX2_go 4 = .ok (.iload_n 1, 1) := by decide +kernel
theorem dX2_go_5 : decode cX2_go 5 = .ok (.iaload, 1) := by decide +kernel
theorem dX2_go_6 : decode cX2_go 6 = .ok (.iconst (-1), 1) := by decide +kernel
theorem dX2_go_7 : decode cX2_go 7 = .ok (.if_icmp .ne 11, 3) := by decide +kernel
theorem dX2_go_10 : decode cX2_go 10 = .ok (.iload_n 3, 1) := by decide +kernel
theorem dX2_go_11 : decode cX2_go 11 = .ok (.ifCond .eq 7, 3) := by decide +kernel
theorem dX2_go_14 : decode cX2_go 14 = .ok (.iconst 1, 1) := by decide +kernel
theorem dX2_go_15 : decode cX2_go 15 = .ok (.goto 4, 3) := by decide +kernel
theorem dX2_go_18 : decode cX2_go 18 = .ok (.iconst 0, 1) := by decide +kernel
theorem dX2_go_19 : decode cX2_go 19 = .ok (.istore 4, 2) := by decide +kernel
theorem dX2_go_21 : decode cX2_go 21 = .ok (.iload_n 2, 1) := by decide +kernel
theorem dX2_go_22 : decode cX2_go 22 = .ok (.ifCond .eq 18, 3) := by decide +kernel
theorem dX2_go_25 : decode cX2_go 25 = .ok (.iload 4, 2) := by decide +kernel
theorem dX2_go_27 : decode cX2_go 27 = .ok (.ifCond .ne 13, 3) := by decide +kernel
theorem dX2_go_30 : decode cX2_go 30 = .ok (.aload_n 0, 1) := by decide +kernel
theorem dX2_go_31 : decode cX2_go 31 = .ok (.getfield 18, 3) := by decide +kernel
theorem dX2_go_34 : decode cX2_go 34 = .ok (.iload_n 1, 1) := by decide +kernel
theorem dX2_go_35 : decode cX2_go 35 = .ok (.iconst 1, 1) := by decide +kernel
theorem dX2_go_36 : decode cX2_go 36 = .ok (.iastore, 1) := by decide +kernel
theorem dX2_go_37 : decode cX2_go 37 = .ok (.goto 24, 3) := by decide +kernel
theorem dX2_go_40 : decode cX2_go 40 = .ok (.iload_n 3, 1) := by decide +kernel
theorem dX2_go_41 : decode cX2_go 41 = .ok (.ifCond .eq 13, 3) := by decide +kernel
theorem dX2_go_44 : decode cX2_go 44 = .ok (.aload_n 0, 1) := by decide +kernel
theorem dX2_go_45 : decode cX2_go 45 = .ok (.getfield 18, 3) := by decide +kernel
theorem dX2_go_48 : decode cX2_go 48 = .ok (.iload_n 1, 1) := by decide +kernel
theorem dX2_go_49 : decode cX2_go 49 = .ok (.iconst (-1), 1) := by decide +kernel
theorem dX2_go_50 : decode cX2_go 50 = .ok (.iastore, 1) := by decide +kernel
theorem dX2_go_51 : decode cX2_go 51 = .ok (.goto 10, 3) := by decide +kernel
theorem dX2_go_54 : decode cX2_go 54 = .ok (.aload_n 0, 1) := by decide +kernel
theorem dX2_go_55 : decode cX2_go 55 = .ok (.getfield 18, 3) := by decide +kernel
theorem dX2_go_58 : decode cX2_go 58 = .ok (.iload_n 1, 1) := by decide +kernel
theorem dX2_go_59 : decode cX2_go 59 = .ok (.iconst 0, 1) := by decide +kernel
theorem dX2_go_60 : decode cX2_go 60 = .ok (.iastore, 1) := by decide +kernel
theorem dX2_go_61 : decode cX2_go 61 = .ok (.aload_n 0, 1) := by decide +kernel
theorem dX2_go_62 : decode cX2_go 62 = .ok (.getfield 9, 3) := by decide +kernel
theorem dX2_go_65 : decode cX2_go 65 = .ok (.iload_n 1, 1) := by decide +kernel
theorem dX2_go_66 : decode cX2_go 66 = .ok (.dup2, 1) := by decide +kernel
theorem dX2_go_67 : decode cX2_go 67 = .ok (.iaload, 1) := by decide +kernel
theorem dX2_go_68 : decode cX2_go 68 = .ok (.aload_n 0, 1) := by decide +kernel
theorem dX2_go_69 : decode cX2_go 69 = .ok (.getfield 18, 3) := by decide +kernel
theorem dX2_go_72 : decode cX2_go 72 = .ok (.iload_n 1, 1) := by decide +kernel
theorem dX2_go_73 : decode cX2_go 73 = .ok (.iaload, 1) := by decide +kernel
theorem dX2_go_74 : decode cX2_go 74 = .ok (.iadd, 1) := by decide +kernel
theorem dX2_go_75 : decode cX2_go 75 = .ok (.iastore, 1) := by decide +kernel
theorem dX2_go_76 : decode cX2_go 76 = .ok (.aload_n 0, 1) := by decide +kernel
theorem dX2_go_77 : decode cX2_go 77 = .ok (.dup, 1) := by decide +kernel
theorem dX2_go_78 : decode cX2_go 78 = .ok (.getfield 38, 3) := by decide +kernel
theorem dX2_go_81 : decode cX2_go 81 = .ok (.aload_n 0, 1) := by decide +kernel
theorem dX2_go_82 : decode cX2_go 82 = .ok (.getfield 18, 3) := by decide +kernel
theorem dX2_go_85 : decode cX2_go 85 = .ok (.iload_n 1, 1) := by decide +kernel
theorem dX2_go_86 : decode cX2_go 86 = .ok (.iaload, 1) := by decide +kernel
theorem dX2_go_87 : decode cX2_go 87 = .ok (.invokestatic 47, 3) := by decide +kernel
theorem dX2_go_90 : decode cX2_go 90 = .ok (.iadd, 1) := by decide +kernel
theorem dX2_go_91 : decode cX2_go 91 = .ok (.putfield 38, 3) := by decide +kernel
theorem dX2_go_94 : decode cX2_go 94 = .ok (.return_, 1) := by decide +kernel
set_option maxRecDepth 20000 in
theorem ggX3_init_X2_init : GoodIn wsX3_init wsX2_init := goodIn_r _ [26, 27, 2, 3, 28, 29, 30, 31, 32, 33, 34, 35, 36, 37, 38, 65, 66, 67, 68, 69, 70, 71, 72, 73] (by decide +kernel) (by decide +kernel)
set_option maxRecDepth 20000 in
theorem gX3_init_X2_init_n24 : GoodIn wsX3_init (wsX2_init) := ggX3_init_X2_init
set_option maxRecDepth 20000 in
theorem ggX3_init_X0_init : GoodIn wsX3_init wsX0_init := goodIn_r _ [40, 41, 2, 3, 28, 42, 43, 44, 45, 46, 47, 48, 49, 50, 51, 74, 75, 76, 77, 78, 79, 80, 81, 82, 83] (by decide +kernel) (by decide +kernel)
set_option maxRecDepth 20000 in
theorem gX3_init_X0_init_n31 : GoodIn wsX3_init (wsX0_init) := ggX3_init_X0_init
set_option maxRecDepth 20000 in
theorem ggX3_init_X1_init : GoodIn wsX3_init wsX1_init := goodIn_r _ [53, 54, 2, 3, 28, 55, 56, 57, 58, 59, 84, 85, 86, 87, 88] (by decide +kernel) (by decide +kernel)
set_option maxRecDepth 20000 in
theorem gX3_init_X1_init_n38 : GoodIn wsX3_init (wsX1_init) := ggX3_init_X1_init
theorem dX3_init_0 : decode cX3_init 0 = .ok (.aload_n 0, 1) := by decide +kernel
theorem dX3_init_1 : decode cX3_init 1 = .ok (.invokespecial 3, 3) := by decide +kernel
theorem dX3_init_4 : decode cX3_init 4 = .ok (.aload_n 0, 1) := by decide +kernel
theorem dX3_init_5 : decode cX3_init 5 = .ok (.iconst 2, 1) := by decide +kernel
theorem dX3_init_6 : decode cX3_init 6 = .ok (.bipush 20, 2) := by decide +kernel
theorem dX3_init_8 : decode cX3_init 8 = .ok (.iload_n 1, 1) := by decide +kernel
theorem dX3_init_9 : decode cX3_init 9 = .ok (.invokestatic 9, 3) := by decide +kernel
theorem dX3_init_12 : decode cX3_init 12 = .ok (.invokestatic 15, 3) := by decide +kernel
theorem dX3_init_15 : decode cX3_init 15 = .ok (.putfield 18, 3) := by decide +kernel
theorem dX3_init_18 : decode cX3_init 18 = .ok (.aload_n 0, 1) := by decide +kernel
theorem dX3_init_19 : decode cX3_init 19 = .ok (.new 22, 3) := by decide +kernel
theorem dX3_init_22 : decode cX3_init 22 = .ok (.dup, 1) := by decide +kernel
theorem dX3_init_23 : decode cX3_init 23 = .ok (.invokespecial 24, 3) := by decide +kernel
theorem dX3_init_26 : decode cX3_init 26 = .ok (.putfield 25, 3) := by decide +kernel
theorem dX3_init_29 : decode cX3_init 29 = .ok (.aload_n 0, 1) := by decide +kernel
theorem dX3_init_30 : decode cX3_init 30 = .ok (.new 29, 3) := by decide +kernel
theorem dX3_init_33 : decode cX3_init 33 = .ok (.dup, 1) := by decide +kernel
theorem dX3_init_34 : decode cX3_init 34 = .ok (.invokespecial 31, 3) := by decide +kernel
theorem dX3_init_37 : decode cX3_init 37 = .ok (.putfield 32, 3) := by decide +kernel
theorem dX3_init_40 : decode cX3_init 40 = .ok (.aload_n 0, 1) := by decide +kernel
theorem dX3_init_41 : decode cX3_init 41 = .ok (.new 36, 3) := by decide +kernel
theorem dX3_init_44 : decode cX3_init 44 = .ok (.dup, 1) := by decide +kernel
theorem dX3_init_45 : decode cX3_init 45 = .ok (.invokespecial 38, 3) := by decide +kernel
theorem dX3_init_48 : decode cX3_init 48 = .ok (.putfield 39, 3) := by decide +kernel
theorem dX3_init_51 : decode cX3_init 51 = .ok (.aload_n 0, 1) := by decide +kernel
theorem dX3_init_52 : decode cX3_init 52 = .ok (.iconst 0, 1) := by decide +kernel
theorem dX3_init_53 : decode cX3_init 53 = .ok (.putfield 43, 3) := by decide +kernel
theorem dX3_init_56 : decode cX3_init 56 = .ok (.return_, 1) := by decide +kernel
set_option maxRecDepth 20000 in
theorem ggX3_lift_X3_refuseOutside : GoodIn wsX3_lift wsX3_refuseOutside := goodIn_ca (goodIn_r _ [8, 9, 10] (by decide +kernel) (by decide +kernel)) (goodIn_sub (fun _ h => List.mem_cons_of_mem _ (List.mem_append_right _ h)) (by decide +kernel))
set_option maxRecDepth 20000 in
theorem gX3_lift_X3_refuseOutside : GoodIn wsX3_lift (va_wsS RX3 46 yX3_refuseOutside wsX3_refuseOutside) := goodIn_app (goodIn_of _ (by decide +kernel)) ggX3_lift_X3_refuseOutside
set_option maxRecDepth 20000 in
theorem ggX3_lift_X2_add : GoodIn wsX3_lift wsX2_add := goodIn_r _ [14, 15, 16, 17, 23, 24, 25, 26, 27, 28, 29, 30, 31] (by decide +kernel) (by decide +kernel)
set_option maxRecDepth 20000 in
theorem gX3_lift_X2_add_n60 : GoodIn wsX3_lift (wsX2_add) := ggX3_lift_X2_add
theorem dX3_lift_0 : decode cX3_lift 0 = .ok (.iload_n 1, 1) := by decide +kernel
theorem dX3_lift_1 : decode cX3_lift 1 = .ok (.iconst 0, 1) := by decide +kernel
theorem dX3_lift_2 : decode cX3_lift 2 = .ok (.aload_n 0, 1) := by decide +kernel
theorem dX3_lift_3 : decode cX3_lift 3 = .ok (.getfield 18, 3) := by decide +kernel
theorem dX3_lift_6 : decode cX3_lift 6 = .ok (.iconst 1, 1) := by decide +kernel
theorem dX3_lift_7 : decode cX3_lift 7 = .ok (.isub, 1) := by decide +kernel
theorem dX3_lift_8 : decode cX3_lift 8 = .ok (.invokestatic 46, 3) := by decide +kernel
theorem dX3_lift_11 : decode cX3_lift 11 = .ok (.iload_n 2, 1) := by decide +kernel
theorem dX3_lift_12 : decode cX3_lift 12 = .ok (.iconst 1, 1) := by decide +kernel
theorem dX3_lift_13 : decode cX3_lift 13 = .ok (.bipush 50, 2) := by decide +kernel
theorem dX3_lift_15 : decode cX3_lift 15 = .ok (.invokestatic 46, 3) := by decide +kernel
theorem dX3_lift_18 : decode cX3_lift 18 = .ok (.aload_n 0, 1) := by decide +kernel
theorem dX3_lift_19 : decode cX3_lift 19 = .ok (.getfield 25, 3) := by decide +kernel
theorem dX3_lift_22 : decode cX3_lift 22 = .ok (.getfield 50, 3) := by decide +kernel
theorem dX3_lift_25 : decode cX3_lift 25 = .ok (.iconst 4, 1) := by decide +kernel
theorem dX3_lift_26 : decode cX3_lift 26 = .ok (.if_icmp .lt 13, 3) := by decide +kernel
theorem dX3_lift_29 : decode cX3_lift 29 = .ok (.new 53, 3) := by decide +kernel
theorem dX3_lift_32 : decode cX3_lift 32 = .ok (.dup, 1) := by decide +kernel
theorem dX3_lift_33 : decode cX3_lift 33 = .ok (.ldc 55, 2) := by decide +kernel
theorem dX3_lift_35 : decode cX3_lift 35 = .ok (.invokespecial 57, 3) := by decide +kernel
theorem dX3_lift_38 : decode cX3_lift 38 = .ok (.athrow, 1) := by decide +kernel
theorem dX3_lift_39 : decode cX3_lift 39 = .ok (.aload_n 0, 1) := by decide +kernel
theorem dX3_lift_40 : decode cX3_lift 40 = .ok (.getfield 25, 3) := by decide +kernel
theorem dX3_lift_43 : decode cX3_lift 43 = .ok (.iload_n 1, 1) := by decide +kernel
theorem dX3_lift_44 : decode cX3_lift 44 = .ok (.iload_n 2, 1) := by decide +kernel
theorem dX3_lift_45 : decode cX3_lift 45 = .ok (.invokevirtual 60, 3) := by decide +kernel
theorem dX3_lift_48 : decode cX3_lift 48 = .ok (.ireturn, 1) := by decide +kernel
set_option maxRecDepth 20000 in
theorem ggX3_call_X3_refuseOutside : GoodIn wsX3_call wsX3_refuseOutside := goodIn_ca (goodIn_r _ [11, 1, 2] (by decide +kernel) (by decide +kernel)) (goodIn_sub (fun _ h => List.mem_cons_of_mem _ (List.mem_append_left _ (List.mem_append_right _ h))) (by decide +kernel))
set_option maxRecDepth 20000 in
theorem gX3_call_X3_refuseOutside : GoodIn wsX3_call (va_wsS RX3 46 yX3_refuseOutside wsX3_refuseOutside) := goodIn_app (goodIn_of _ (by decide +kernel)) ggX3_call_X3_refuseOutside
set_option maxRecDepth 20000 in
theorem ggX3_call_X0_add : GoodIn wsX3_call wsX0_add := goodIn_r _ [15, 16, 17, 18, 19, 20, 21, 22, 23, 24, 25, 47, 48, 49, 50, 51, 52, 53, 54, 55, 56] (by decide +kernel) (by decide +kernel)
set_option maxRecDepth 20000 in
theorem gX3_call_X0_add_n71 : GoodIn wsX3_call (wsX0_add) := ggX3_call_X0_add
set_option maxRecDepth 20000 in
theorem ggX3_call_X3_nearestLift : GoodIn wsX3_call wsX3_nearestLift := goodIn_r _ [29, 30, 31, 32, 33, 34, 35, 36, 37, 38, 39, 40, 41, 42, 43, 44, 45, 46, 57, 58, 59, 60, 61, 62, 63, 64, 65] (by decide +kernel) (by decide +kernel)
set_option maxRecDepth 20000 in
theorem gX3_call_X3_nearestLift : GoodIn wsX3_call (wsV RX3 78 RX3 yX3_nearestLift wsX3_nearestLift) := goodIn_app (goodIn_of _ (by decide +kernel)) ggX3_call_X3_nearestLift
theorem dX3_call_0 : decode cX3_call 0 = .ok (.iload_n 1, 1) := by decide +kernel
theorem dX3_call_1 : decode cX3_call 1 = .ok (.iconst 0, 1) := by decide +kernel
theorem dX3_call_2 : decode cX3_call 2 = .ok (.aload_n 0, 1) := by decide +kernel
theorem dX3_call_3 : decode cX3_call 3 = .ok (.getfield 18, 3) := by decide +kernel
theorem dX3_call_6 : decode cX3_call 6 = .ok (.iconst 1, 1) := by decide +kernel
theorem dX3_call_7 : decode cX3_call 7 = .ok (.isub, 1) := by decide +kernel
theorem dX3_call_8 : decode cX3_call 8 = .ok (.invokestatic 46, 3) := by decide +kernel
theorem dX3_call_11 : decode cX3_call 11 = .ok (.iload_n 2, 1) := by decide +kernel
theorem dX3_call_12 : decode cX3_call 12 = .ok (.iconst 0, 1) := by decide +kernel
theorem dX3_call_13 : decode cX3_call 13 = .ok (.aload_n 0, 1) := by decide +kernel
theorem dX3_call_14 : decode cX3_call 14 = .ok (.getfield 18, 3) := by decide +kernel
theorem dX3_call_17 : decode cX3_call 17 = .ok (.iconst 1, 1) := by decide +kernel
theorem dX3_call_18 : decode cX3_call 18 = .ok (.isub, 1) := by decide +kernel
theorem dX3_call_19 : decode cX3_call 19 = .ok (.invokestatic 46, 3) := by decide +kernel
theorem dX3_call_22 : decode cX3_call 22 = .ok (.iload_n 3, 1) := by decide +kernel
theorem dX3_call_23 : decode cX3_call 23 = .ok (.iconst 1, 1) := by decide +kernel
theorem dX3_call_24 : decode cX3_call 24 = .ok (.iconst 3, 1) := by decide +kernel
theorem dX3_call_25 : decode cX3_call 25 = .ok (.invokestatic 46, 3) := by decide +kernel
theorem dX3_call_28 : decode cX3_call 28 = .ok (.iload 4, 2) := by decide +kernel
theorem dX3_call_30 : decode cX3_call 30 = .ok (.iconst 1, 1) := by decide +kernel
theorem dX3_call_31 : decode cX3_call 31 = .ok (.bipush 50, 2) := by decide +kernel
theorem dX3_call_33 : decode cX3_call 33 = .ok (.invokestatic 46, 3) := by decide +kernel
theorem dX3_call_36 : decode cX3_call 36 = .ok (.iload_n 1, 1) := by decide +kernel
theorem dX3_call_37 : decode cX3_call 37 = .ok (.iload_n 2, 1) := by decide +kernel
theorem dX3_call_38 : decode cX3_call 38 = .ok (.if_icmp .ne 13, 3) := by decide +kernel
theorem dX3_call_41 : decode cX3_call 41 = .ok (.new 63, 3) := by decide +kernel
theorem dX3_call_44 : decode cX3_call 44 = .ok (.dup, 1) := by decide +kernel
theorem dX3_call_45 : decode cX3_call 45 = .ok (.ldc 65, 2) := by decide +kernel
theorem dX3_call_47 : decode cX3_call 47 = .ok (.invokespecial 67, 3) := by decide +kernel
theorem dX3_call_50 : decode cX3_call 50 = .ok (.athrow, 1) := by decide +kernel
theorem dX3_call_51 : decode cX3_call 51 = .ok (.aload_n 0, 1) := by decide +kernel
theorem dX3_call_52 : decode cX3_call 52 = .ok (.getfield 32, 3) := by decide +kernel
theorem dX3_call_55 : decode cX3_call 55 = .ok (.getfield 68, 3) := by decide +kernel
theorem dX3_call_58 : decode cX3_call 58 = .ok (.bipush 24, 2) := by decide +kernel
theorem dX3_call_60 : decode cX3_call 60 = .ok (.if_icmp .lt 13, 3) := by decide +kernel
theorem dX3_call_63 : decode cX3_call 63 = .ok (.new 53, 3) := by decide +kernel
theorem dX3_call_66 : decode cX3_call 66 = .ok (.dup, 1) := by decide +kernel
theorem dX3_call_67 : decode cX3_call 67 = .ok (.ldc 69, 2) := by decide +kernel
theorem dX3_call_69 : decode cX3_call 69 = .ok (.invokespecial 57, 3) := by decide +kernel
theorem dX3_call_72 : decode cX3_call 72 = .ok (.athrow, 1) := by decide +kernel
theorem dX3_call_73 : decode cX3_call 73 = .ok (.aload_n 0, 1) := by decide +kernel
theorem dX3_call_74 : decode cX3_call 74 = .ok (.getfield 32, 3) := by decide +kernel
theorem dX3_call_77 : decode cX3_call 77 = .ok (.iload_n 1, 1) := by decide +kernel
theorem dX3_call_78 : decode cX3_call 78 = .ok (.iload_n 2, 1) := by decide +kernel
theorem dX3_call_79 : decode cX3_call 79 = .ok (.iload_n 3, 1) := by decide +kernel
theorem dX3_call_80 : decode cX3_call 80 = .ok (.iload 4, 2) := by decide +kernel
theorem dX3_call_82 : decode cX3_call 82 = .ok (.aload_n 0, 1) := by decide +kernel
theorem dX3_call_83 : decode cX3_call 83 = .ok (.getfield 43, 3) := by decide +kernel
theorem dX3_call_86 : decode cX3_call 86 = .ok (.invokevirtual 71, 3) := by decide +kernel
theorem dX3_call_89 : decode cX3_call 89 = .ok (.istore 5, 2) := by decide +kernel
theorem dX3_call_91 : decode cX3_call 91 = .ok (.aload_n 0, 1) := by decide +kernel
theorem dX3_call_92 : decode cX3_call 92 = .ok (.getfield 32, 3) := by decide +kernel
theorem dX3_call_95 : decode cX3_call 95 = .ok (.getfield 74, 3) := by decide +kernel
theorem dX3_call_98 : decode cX3_call 98 = .ok (.iload 5, 2) := by decide +kernel
theorem dX3_call_100 : decode cX3_call 100 = .ok (.aload_n 0, 1) := by decide +kernel
theorem dX3_call_101 : decode cX3_call 101 = .ok (.iload_n 1, 1) := by decide +kernel
theorem dX3_call_102 : decode cX3_call 102 = .ok (.iload 4, 2) := by decide +kernel
theorem dX3_call_104 : decode cX3_call 104 = .ok (.invokevirtual 78, 3) := by decide +kernel
theorem dX3_call_107 : decode cX3_call 107 = .ok (.iastore, 1) := by decide +kernel
theorem dX3_call_108 : decode cX3_call 108 = .ok (.iload 5, 2) := by decide +kernel
theorem dX3_call_110 : decode cX3_call 110 = .ok (.ireturn, 1) := by decide +kernel
set_option maxRecDepth 20000 in
theorem ggX3_step_X3_refuseOutside : GoodIn wsX3_step wsX3_refuseOutside := goodIn_ca (goodIn_r _ [5, 6, 7] (by decide +kernel) (by decide +kernel)) (goodIn_sub (fun _ h => List.mem_cons_of_mem _ (List.mem_append_right _ h)) (by decide +kernel))
set_option maxRecDepth 20000 in
theorem gX3_step_X3_refuseOutside : GoodIn wsX3_step (va_wsS RX3 46 yX3_refuseOutside wsX3_refuseOutside) := goodIn_app (goodIn_of _ (by decide +kernel)) ggX3_step_X3_refuseOutside
set_option maxRecDepth 20000 in
theorem ggX3_step_X3_passSecond : GoodIn wsX3_step wsX3_passSecond := goodIn_r _ [11, 12, 13, 14, 15, 16, 4, 17, 18, 19, 20, 21, 22, 23, 24, 25, 26, 27, 28, 29, 30, 31, 32, 33, 34, 35, 36, 37, 38, 39, 40, 41, 42, 43, 44, 45, 46, 47, 48, 49, 50, 51, 52, 53, 54, 55, 56, 1, 57, 58, 59, 60, 61, 62, 63, 64, 65, 66, 67, 68, 69, 70, 71, 72, 73, 74, 75, 76, 77, 78, 79, 80, 81, 82, 83, 84, 85, 86, 87, 88, 89, 90, 91, 92, 93, 94, 95, 96, 97, 98, 104, 105, 106, 107, 108, 109, 110, 111, 112, 113, 114, 115, 116, 117, 118, 119, 120, 121, 122, 99, 100, 101, 102, 103] (by decide +kernel) (by decide +kernel)
set_option maxRecDepth 20000 in
theorem gX3_step_X3_passSecond : GoodIn wsX3_step (wsV RX3 82 RX3 yX3_passSecond wsX3_passSecond) := goodIn_app (goodIn_of _ (by decide +kernel)) ggX3_step_X3_passSecond
theorem dX3_step_0 : decode cX3_step 0 = .ok (.iload_n 1, 1) := by decide +kernel
theorem dX3_step_1 : decode cX3_step 1 = .ok (.iconst 0, 1) := by decide +kernel
theorem dX3_step_2 : decode cX3_step 2 = .ok (.sipush 200, 3) := by decide +kernel
theorem dX3_step_5 : decode cX3_step 5 = .ok (.invokestatic 46, 3) := by decide +kernel
theorem dX3_step_8 : decode cX3_step 8 = .ok (.aload_n 0, 1) := by decide +kernel
theorem dX3_step_9 : decode cX3_step 9 = .ok (.getfield 39, 3) := by decide +kernel
theorem dX3_step_12 : decode cX3_step 12 = .ok (.getfield 81, 3) := by decide +kernel
theorem dX3_step_15 : decode cX3_step 15 = .ok (.istore_n 2, 1) := by decide +kernel
theorem dX3_step_16 : decode cX3_step 16 = .ok (.iconst 0, 1) := by decide +kernel
theorem dX3_step_17 : decode cX3_step 17 = .ok (.istore_n 3, 1) := by decide +kernel
theorem dX3_step_18 : decode cX3_step 18 = .ok (.iload_n 3, 1) := by decide +kernel
theorem dX3_step_19 : decode cX3_step 19 = .ok (.iload_n 1, 1) := by decide +kernel
theorem dX3_step_20 : decode cX3_step 20 = .ok (.if_icmp .ge 13, 3) := by decide +kernel
theorem dX3_step_23 : decode cX3_step 23 = .ok (.aload_n 0, 1) := by decide +kernel
theorem dX3_step_24 : decode cX3_step 24 = .ok (.invokevirtual 82, 3) := by decide +kernel
theorem dX3_step_27 : decode cX3_step 27 = .ok (.iinc 3 1, 3) := by decide +kernel
theorem dX3_step_30 : decode cX3_step 30 = .ok (.goto (-12), 3) := by decide +kernel
theorem dX3_step_33 : decode cX3_step 33 = .ok (.aload_n 0, 1) := by decide +kernel
theorem dX3_step_34 : decode cX3_step 34 = .ok (.getfield 39, 3) := by decide +kernel
theorem dX3_step_37 : decode cX3_step 37 = .ok (.getfield 81, 3) := by decide +kernel
theorem dX3_step_40 : decode cX3_step 40 = .ok (.iload_n 2, 1) := by decide +kernel
theorem dX3_step_41 : decode cX3_step 41 = .ok (.isub, 1) := by decide +kernel
theorem dX3_step_42 : decode cX3_step 42 = .ok (.ireturn, 1) := by decide +kernel
set_option maxRecDepth 20000 in
theorem ggX3_event_X3_refuseOutside : GoodIn wsX3_event wsX3_refuseOutside := goodIn_ca (goodIn_r _ [7, 8, 9] (by decide +kernel) (by decide +kernel)) (goodIn_sub (fun _ h => List.mem_cons_of_mem _ (List.mem_append_right _ h)) (by decide +kernel))
set_option maxRecDepth 20000 in
theorem gX3_event_X3_refuseOutside : GoodIn wsX3_event (va_wsS RX3 46 yX3_refuseOutside wsX3_refuseOutside) := goodIn_app (goodIn_of _ (by decide +kernel)) ggX3_event_X3_refuseOutside
theorem dX3_event_0 : decode cX3_event 0 = .ok (.iload_n 1, 1) := by decide +kernel
theorem dX3_event_1 : decode cX3_event 1 = .ok (.ifCond .lt 14, 3) := by decide +kernel
theorem dX3_event_4 : decode cX3_event 4 = .ok (.iload_n 1, 1) := by decide +kernel
theorem dX3_event_5 : decode cX3_event 5 = .ok (.aload_n 0, 1) := by decide +kernel
theorem dX3_event_6 : decode cX3_event 6 = .ok (.getfield 39, 3) := by decide +kernel
theorem dX3_event_9 : decode cX3_event 9 = .ok (.getfield 81, 3) := by decide +kernel
theorem dX3_event_12 : decode cX3_event 12 = .ok (.if_icmp .lt 13, 3) := by decide +kernel
theorem dX3_event_15 : decode cX3_event 15 = .ok (.new 85, 3) := by decide +kernel
theorem dX3_event_18 : decode cX3_event 18 = .ok (.dup, 1) := by decide +kernel
theorem dX3_event_19 : decode cX3_event 19 = .ok (.ldc 87, 2) := by decide +kernel
theorem dX3_event_21 : decode cX3_event 21 = .ok (.invokespecial 89, 3) := by decide +kernel
theorem dX3_event_24 : decode cX3_event 24 = .ok (.athrow, 1) := by decide +kernel
theorem dX3_event_25 : decode cX3_event 25 = .ok (.iload_n 2, 1) := by decide +kernel
theorem dX3_event_26 : decode cX3_event 26 = .ok (.iconst 0, 1) := by decide +kernel
theorem dX3_event_27 : decode cX3_event 27 = .ok (.iconst 3, 1) := by decide +kernel
theorem dX3_event_28 : decode cX3_event 28 = .ok (.invokestatic 46, 3) := by decide +kernel
theorem dX3_event_31 : decode cX3_event 31 = .ok (.iload_n 2, 1) := by decide +kernel
theorem dX3_event_32 : decode cX3_event 32 = .ok (.tableswitch 58 0 2 #[28, 38, 48], 28) := by decide +kernel
theorem dX3_event_60 : decode cX3_event 60 = .ok (.aload_n 0, 1) := by decide +kernel
theorem dX3_event_61 : decode cX3_event 61 = .ok (.getfield 39, 3) := by decide +kernel
theorem dX3_event_64 : decode cX3_event 64 = .ok (.getfield 90, 3) := by decide +kernel
theorem dX3_event_67 : decode cX3_event 67 = .ok (.iload_n 1, 1) := by decide +kernel
theorem dX3_event_68 : decode cX3_event 68 = .ok (.iaload, 1) := by decide +kernel
theorem dX3_event_69 : decode cX3_event 69 = .ok (.ireturn, 1) := by decide +kernel
theorem dX3_event_70 : decode cX3_event 70 = .ok (.aload_n 0, 1) := by decide +kernel
theorem dX3_event_71 : decode cX3_event 71 = .ok (.getfield 39, 3) := by decide +kernel
theorem dX3_event_74 : decode cX3_event 74 = .ok (.getfield 93, 3) := by decide +kernel
theorem dX3_event_77 : decode cX3_event 77 = .ok (.iload_n 1, 1) := by decide +kernel
theorem dX3_event_78 : decode cX3_event 78 = .ok (.iaload, 1) := by decide +kernel
theorem dX3_event_79 : decode cX3_event 79 = .ok (.ireturn, 1) := by decide +kernel
theorem dX3_event_80 : decode cX3_event 80 = .ok (.aload_n 0, 1) := by decide +kernel
theorem dX3_event_81 : decode cX3_event 81 = .ok (.getfield 39, 3) := by decide +kernel
theorem dX3_event_84 : decode cX3_event 84 = .ok (.getfield 96, 3) := by decide +kernel
theorem dX3_event_87 : decode cX3_event 87 = .ok (.iload_n 1, 1) := by decide +kernel
theorem dX3_event_88 : decode cX3_event 88 = .ok (.iaload, 1) := by decide +kernel
theorem dX3_event_89 : decode cX3_event 89 = .ok (.ireturn, 1) := by decide +kernel
theorem dX3_event_90 : decode cX3_event 90 = .ok (.aload_n 0, 1) := by decide +kernel
theorem dX3_event_91 : decode cX3_event 91 = .ok (.getfield 39, 3) := by decide +kernel
theorem dX3_event_94 : decode cX3_event 94 = .ok (.getfield 99, 3) := by decide +kernel
theorem dX3_event_97 : decode cX3_event 97 = .ok (.iload_n 1, 1) := by decide +kernel
theorem dX3_event_98 : decode cX3_event 98 = .ok (.iaload, 1) := by decide +kernel
theorem dX3_event_99 : decode cX3_event 99 = .ok (.ireturn, 1) := by decide +kernel
set_option maxRecDepth 20000 in
theorem ggX3_level_X3_refuseNoLift : GoodIn wsX3_level wsX3_refuseNoLift := goodIn_ca (goodIn_r _ [9, 10, 11, 4, 18, 19, 20, 21, 22, 23, 24, 25, 26, 27, 28, 29, 30, 31] (by decide +kernel) (by decide +kernel)) (goodIn_sub (fun _ h => List.mem_cons_of_mem _ (List.mem_append_right _ h)) (by decide +kernel))
set_option maxRecDepth 20000 in
theorem gX3_level_X3_refuseNoLift : GoodIn wsX3_level (wsV RX3 107 RX3 yX3_refuseNoLift wsX3_refuseNoLift) := goodIn_app (goodIn_of _ (by decide +kernel)) ggX3_level_X3_refuseNoLift
theorem dX3_level_0 : decode cX3_level 0 = .ok (.iload_n 1, 1) := by decide +kernel
theorem dX3_level_1 : decode cX3_level 1 = .ok (.ifCond .lt 8, 3) := by decide +kernel
theorem dX3_level_4 : decode cX3_level 4 = .ok (.iload_n 1, 1) := by decide +kernel
theorem dX3_level_5 : decode cX3_level 5 = .ok (.iconst 4, 1) := by decide +kernel
theorem dX3_level_6 : decode cX3_level 6 = .ok (.if_icmp .lt 13, 3) := by decide +kernel
theorem dX3_level_9 : decode cX3_level 9 = .ok (.new 102, 3) := by decide +kernel
theorem dX3_level_12 : decode cX3_level 12 = .ok (.dup, 1) := by decide +kernel
theorem dX3_level_13 : decode cX3_level 13 = .ok (.ldc 104, 2) := by decide +kernel
theorem dX3_level_15 : decode cX3_level 15 = .ok (.invokespecial 106, 3) := by decide +kernel
theorem dX3_level_18 : decode cX3_level 18 = .ok (.athrow, 1) := by decide +kernel
theorem dX3_level_19 : decode cX3_level 19 = .ok (.aload_n 0, 1) := by decide +kernel
theorem dX3_level_20 : decode cX3_level 20 = .ok (.iload_n 1, 1) := by decide +kernel
theorem dX3_level_21 : decode cX3_level 21 = .ok (.invokevirtual 107, 3) := by decide +kernel
theorem dX3_level_24 : decode cX3_level 24 = .ok (.aload_n 0, 1) := by decide +kernel
theorem dX3_level_25 : decode cX3_level 25 = .ok (.getfield 25, 3) := by decide +kernel
theorem dX3_level_28 : decode cX3_level 28 = .ok (.getfield 111, 3) := by decide +kernel
theorem dX3_level_31 : decode cX3_level 31 = .ok (.iload_n 1, 1) := by decide +kernel
theorem dX3_level_32 : decode cX3_level 32 = .ok (.iaload, 1) := by decide +kernel
theorem dX3_level_33 : decode cX3_level 33 = .ok (.ireturn, 1) := by decide +kernel
set_option maxRecDepth 20000 in
theorem ggX3_told_X3_refuseNoLift : GoodIn wsX3_told wsX3_refuseNoLift := goodIn_ca (goodIn_r _ [7, 8, 9, 2, 49, 50, 51, 52, 53, 54, 55, 56, 57, 58, 59, 60, 61, 62] (by decide +kernel) (by decide +kernel)) (goodIn_sub (fun _ h => List.mem_cons_of_mem _ (List.mem_append_left _ (List.mem_append_right _ h))) (by decide +kernel))
set_option maxRecDepth 20000 in
theorem gX3_told_X3_refuseNoLift : GoodIn wsX3_told (wsV RX3 107 RX3 yX3_refuseNoLift wsX3_refuseNoLift) := goodIn_app (goodIn_of _ (by decide +kernel)) ggX3_told_X3_refuseNoLift
set_option maxRecDepth 20000 in
theorem ggX3_told_X3_refuseOutside : GoodIn wsX3_told wsX3_refuseOutside := goodIn_ca (goodIn_r _ [12, 13, 14] (by decide +kernel) (by decide +kernel)) (goodIn_sub (fun _ h => List.mem_cons_of_mem _ (List.mem_append_right _ h)) (by decide +kernel))
set_option maxRecDepth 20000 in
theorem gX3_told_X3_refuseOutside : GoodIn wsX3_told (va_wsS RX3 46 yX3_refuseOutside wsX3_refuseOutside) := goodIn_app (goodIn_of _ (by decide +kernel)) ggX3_told_X3_refuseOutside
set_option maxRecDepth 20000 in
theorem ggX3_told_X0_loadAboard : GoodIn wsX3_told wsX0_loadAboard := goodIn_r _ [18, 19, 20, 21, 16, 22, 23, 24, 25, 26, 27, 28, 29, 30, 31, 63, 64, 65, 66, 67, 68, 69, 70, 71, 72] (by decide +kernel) (by decide +kernel)
set_option maxRecDepth 20000 in
theorem gX3_told_X0_loadAboard_n114 : GoodIn wsX3_told (wsX0_loadAboard) := ggX3_told_X0_loadAboard
set_option maxRecDepth 20000 in
theorem ggX3_told_X0_number : GoodIn wsX3_told wsX0_number := goodIn_r _ [34, 35, 36, 37, 16, 38, 23, 26, 27, 28, 29, 30, 31, 39, 40, 41, 42, 43, 44, 45, 63, 64, 65, 66, 67, 68, 69, 70, 71, 72] (by decide +kernel) (by decide +kernel)
set_option maxRecDepth 20000 in
theorem gX3_told_X0_number_n124 : GoodIn wsX3_told (wsX0_number) := ggX3_told_X0_number
set_option maxRecDepth 20000 in
theorem ggX3_told_X3_asNumber : GoodIn wsX3_told wsX3_asNumber := goodIn_r _ [48] (by decide +kernel) (by decide +kernel)
set_option maxRecDepth 20000 in
theorem gX3_told_X3_asNumber : GoodIn wsX3_told (va_wsS RX3 131 yX3_asNumber wsX3_asNumber) := goodIn_app (goodIn_of _ (by decide +kernel)) ggX3_told_X3_asNumber
theorem dX3_told_0 : decode cX3_told 0 = .ok (.aload_n 0, 1) := by decide +kernel
theorem dX3_told_1 : decode cX3_told 1 = .ok (.iload_n 1, 1) := by decide +kernel
theorem dX3_told_2 : decode cX3_told 2 = .ok (.invokevirtual 107, 3) := by decide +kernel
theorem dX3_told_5 : decode cX3_told 5 = .ok (.iload_n 2, 1) := by decide +kernel
theorem dX3_told_6 : decode cX3_told 6 = .ok (.iconst 0, 1) := by decide +kernel
theorem dX3_told_7 : decode cX3_told 7 = .ok (.bipush 7, 2) := by decide +kernel
theorem dX3_told_9 : decode cX3_told 9 = .ok (.invokestatic 46, 3) := by decide +kernel
theorem dX3_told_12 : decode cX3_told 12 = .ok (.iload_n 2, 1) := by decide +kernel
theorem dX3_told_13 : decode cX3_told 13 = .ok (.tableswitch 118 0 6 #[43, 52, 62, 72, 82, 92, 105], 43) := by decide +kernel
theorem dX3_told_56 : decode cX3_told 56 = .ok (.aload_n 0, 1) := by decide +kernel
theorem dX3_told_57 : decode cX3_told 57 = .ok (.getfield 32, 3) := by decide +kernel
theorem dX3_told_60 : decode cX3_told 60 = .ok (.iload_n 1, 1) := by decide +kernel
theorem dX3_told_61 : decode cX3_told 61 = .ok (.invokevirtual 114, 3) := by decide +kernel
theorem dX3_told_64 : decode cX3_told 64 = .ok (.ireturn, 1) := by decide +kernel
theorem dX3_told_65 : decode cX3_told 65 = .ok (.aload_n 0, 1) := by decide +kernel
theorem dX3_told_66 : decode cX3_told 66 = .ok (.getfield 25, 3) := by decide +kernel
theorem dX3_told_69 : decode cX3_told 69 = .ok (.getfield 118, 3) := by decide +kernel
theorem dX3_told_72 : decode cX3_told 72 = .ok (.iload_n 1, 1) := by decide +kernel
theorem dX3_told_73 : decode cX3_told 73 = .ok (.iaload, 1) := by decide +kernel
theorem dX3_told_74 : decode cX3_told 74 = .ok (.ireturn, 1) := by decide +kernel
theorem dX3_told_75 : decode cX3_told 75 = .ok (.aload_n 0, 1) := by decide +kernel
theorem dX3_told_76 : decode cX3_told 76 = .ok (.getfield 25, 3) := by decide +kernel
theorem dX3_told_79 : decode cX3_told 79 = .ok (.getfield 121, 3) := by decide +kernel
theorem dX3_told_82 : decode cX3_told 82 = .ok (.iload_n 1, 1) := by decide +kernel
theorem dX3_told_83 : decode cX3_told 83 = .ok (.iaload, 1) := by decide +kernel
theorem dX3_told_84 : decode cX3_told 84 = .ok (.ireturn, 1) := by decide +kernel
theorem dX3_told_85 : decode cX3_told 85 = .ok (.aload_n 0, 1) := by decide +kernel
theorem dX3_told_86 : decode cX3_told 86 = .ok (.getfield 32, 3) := by decide +kernel
theorem dX3_told_89 : decode cX3_told 89 = .ok (.iconst 1, 1) := by decide +kernel
theorem dX3_told_90 : decode cX3_told 90 = .ok (.iload_n 1, 1) := by decide +kernel
theorem dX3_told_91 : decode cX3_told 91 = .ok (.invokevirtual 124, 3) := by decide +kernel
theorem dX3_told_94 : decode cX3_told 94 = .ok (.ireturn, 1) := by decide +kernel
theorem dX3_told_95 : decode cX3_told 95 = .ok (.aload_n 0, 1) := by decide +kernel
theorem dX3_told_96 : decode cX3_told 96 = .ok (.getfield 32, 3) := by decide +kernel
theorem dX3_told_99 : decode cX3_told 99 = .ok (.iconst 0, 1) := by decide +kernel
theorem dX3_told_100 : decode cX3_told 100 = .ok (.iload_n 1, 1) := by decide +kernel
theorem dX3_told_101 : decode cX3_told 101 = .ok (.invokevirtual 124, 3) := by decide +kernel
theorem dX3_told_104 : decode cX3_told 104 = .ok (.ireturn, 1) := by decide +kernel
theorem dX3_told_105 : decode cX3_told 105 = .ok (.aload_n 0, 1) := by decide +kernel
theorem dX3_told_106 : decode cX3_told 106 = .ok (.getfield 25, 3) := by decide +kernel
theorem dX3_told_109 : decode cX3_told 109 = .ok (.getfield 127, 3) := by decide +kernel
theorem dX3_told_112 : decode cX3_told 112 = .ok (.iload_n 1, 1) := by decide +kernel
theorem dX3_told_113 : decode cX3_told 113 = .ok (.baload, 1) := by decide +kernel
theorem dX3_told_114 : decode cX3_told 114 = .ok (.invokestatic 131, 3) := by decide +kernel
theorem dX3_told_117 : decode cX3_told 117 = .ok (.ireturn, 1) := by decide +kernel
theorem dX3_told_118 : decode cX3_told 118 = .ok (.aload_n 0, 1) := by decide +kernel
theorem dX3_told_119 : decode cX3_told 119 = .ok (.getfield 25, 3) := by decide +kernel
theorem dX3_told_122 : decode cX3_told 122 = .ok (.getfield 135, 3) := by decide +kernel
theorem dX3_told_125 : decode cX3_told 125 = .ok (.iload_n 1, 1) := by decide +kernel
theorem dX3_told_126 : decode cX3_told 126 = .ok (.baload, 1) := by decide +kernel
theorem dX3_told_127 : decode cX3_told 127 = .ok (.invokestatic 131, 3) := by decide +kernel
theorem dX3_told_130 : decode cX3_told 130 = .ok (.ireturn, 1) := by decide +kernel
theorem dX3_told_131 : decode cX3_told 131 = .ok (.aload_n 0, 1) := by decide +kernel
theorem dX3_told_132 : decode cX3_told 132 = .ok (.getfield 25, 3) := by decide +kernel
theorem dX3_told_135 : decode cX3_told 135 = .ok (.getfield 138, 3) := by decide +kernel
theorem dX3_told_138 : decode cX3_told 138 = .ok (.iload_n 1, 1) := by decide +kernel
theorem dX3_told_139 : decode cX3_told 139 = .ok (.baload, 1) := by decide +kernel
theorem dX3_told_140 : decode cX3_told 140 = .ok (.invokestatic 131, 3) := by decide +kernel
theorem dX3_told_143 : decode cX3_told 143 = .ok (.ireturn, 1) := by decide +kernel
set_option maxRecDepth 20000 in
theorem ggX3_door_X3_refuseNoLift : GoodIn wsX3_door wsX3_refuseNoLift := goodIn_ca (goodIn_r _ [8, 9, 10, 3, 14, 15, 16, 17, 18, 19, 20, 21, 22, 23, 24, 25, 26, 27] (by decide +kernel) (by decide +kernel)) (goodIn_sub (fun _ h => List.mem_cons_of_mem _ (List.mem_append_right _ h)) (by decide +kernel))
set_option maxRecDepth 20000 in
theorem gX3_door_X3_refuseNoLift : GoodIn wsX3_door (wsV RX3 107 RX3 yX3_refuseNoLift wsX3_refuseNoLift) := goodIn_app (goodIn_of _ (by decide +kernel)) ggX3_door_X3_refuseNoLift
set_option maxRecDepth 20000 in
theorem ggX3_door_X3_refuseUnchanged : GoodIn wsX3_door wsX3_refuseUnchanged := goodIn_ca (goodIn_r _ [13, 1, 2] (by decide +kernel) (by decide +kernel)) (goodIn_sub (fun _ h => List.mem_cons_of_mem _ (List.mem_append_left _ (List.mem_append_right _ h))) (by decide +kernel))
set_option maxRecDepth 20000 in
theorem gX3_door_X3_refuseUnchanged : GoodIn wsX3_door (va_wsS RX3 141 yX3_refuseUnchanged wsX3_refuseUnchanged) := goodIn_app (goodIn_of _ (by decide +kernel)) ggX3_door_X3_refuseUnchanged
theorem dX3_door_0 : decode cX3_door 0 = .ok (.aload_n 0, 1) := by decide +kernel
theorem dX3_door_1 : decode cX3_door 1 = .ok (.iload_n 1, 1) := by decide +kernel
theorem dX3_door_2 : decode cX3_door 2 = .ok (.invokevirtual 107, 3) := by decide +kernel
theorem dX3_door_5 : decode cX3_door 5 = .ok (.aload_n 0, 1) := by decide +kernel
theorem dX3_door_6 : decode cX3_door 6 = .ok (.getfield 25, 3) := by decide +kernel
theorem dX3_door_9 : decode cX3_door 9 = .ok (.getfield 138, 3) := by decide +kernel
theorem dX3_door_12 : decode cX3_door 12 = .ok (.iload_n 1, 1) := by decide +kernel
theorem dX3_door_13 : decode cX3_door 13 = .ok (.baload, 1) := by decide +kernel
theorem dX3_door_14 : decode cX3_door 14 = .ok (.iload_n 2, 1) := by decide +kernel
theorem dX3_door_15 : decode cX3_door 15 = .ok (.invokestatic 141, 3) := by decide +kernel
theorem dX3_door_18 : decode cX3_door 18 = .ok (.iload_n 2, 1) := by decide +kernel
theorem dX3_door_19 : decode cX3_door 19 = .ok (.ifCond .eq 25, 3) := by decide +kernel
theorem dX3_door_22 : decode cX3_door 22 = .ok (.aload_n 0, 1) := by decide +kernel
theorem dX3_door_23 : decode cX3_door 23 = .ok (.getfield 25, 3) := by decide +kernel
theorem dX3_door_26 : decode cX3_door 26 = .ok (.getfield 121, 3) := by decide +kernel
theorem dX3_door_29 : decode cX3_door 29 = .ok (.iload_n 1, 1) := by decide +kernel
theorem dX3_door_30 : decode cX3_door 30 = .ok (.iaload, 1) := by decide +kernel
theorem dX3_door_31 : decode cX3_door 31 = .ok (.ifCond .ne 13, 3) := by decide +kernel
theorem dX3_door_34 : decode cX3_door 34 = .ok (.new 145, 3) := by decide +kernel
theorem dX3_door_37 : decode cX3_door 37 = .ok (.dup, 1) := by decide +kernel
theorem dX3_door_38 : decode cX3_door 38 = .ok (.ldc 147, 2) := by decide +kernel
theorem dX3_door_40 : decode cX3_door 40 = .ok (.invokespecial 149, 3) := by decide +kernel
theorem dX3_door_43 : decode cX3_door 43 = .ok (.athrow, 1) := by decide +kernel
theorem dX3_door_44 : decode cX3_door 44 = .ok (.aload_n 0, 1) := by decide +kernel
theorem dX3_door_45 : decode cX3_door 45 = .ok (.getfield 25, 3) := by decide +kernel
theorem dX3_door_48 : decode cX3_door 48 = .ok (.getfield 138, 3) := by decide +kernel
theorem dX3_door_51 : decode cX3_door 51 = .ok (.iload_n 1, 1) := by decide +kernel
theorem dX3_door_52 : decode cX3_door 52 = .ok (.iload_n 2, 1) := by decide +kernel
theorem dX3_door_53 : decode cX3_door 53 = .ok (.bastore, 1) := by decide +kernel
theorem dX3_door_54 : decode cX3_door 54 = .ok (.return_, 1) := by decide +kernel
set_option maxRecDepth 20000 in
theorem ggX3_stuck_X3_refuseNoLift : GoodIn wsX3_stuck wsX3_refuseNoLift := goodIn_ca (goodIn_r _ [7, 8, 9, 1, 59, 60, 61, 62, 63, 64, 65, 66, 67, 68, 69, 70, 71, 72] (by decide +kernel) (by decide +kernel)) (goodIn_sub (fun _ h => List.mem_cons_of_mem _ (List.mem_append_left _ (List.mem_append_right _ h))) (by decide +kernel))
set_option maxRecDepth 20000 in
theorem gX3_stuck_X3_refuseNoLift : GoodIn wsX3_stuck (wsV RX3 107 RX3 yX3_refuseNoLift wsX3_refuseNoLift) := goodIn_app (goodIn_of _ (by decide +kernel)) ggX3_stuck_X3_refuseNoLift
set_option maxRecDepth 20000 in
theorem ggX3_stuck_X3_refuseUnchanged : GoodIn wsX3_stuck wsX3_refuseUnchanged := goodIn_ca (goodIn_r _ [12, 13, 14] (by decide +kernel) (by decide +kernel)) (goodIn_sub (fun _ h => List.mem_cons_of_mem _ (List.mem_append_right _ h)) (by decide +kernel))
set_option maxRecDepth 20000 in
theorem gX3_stuck_X3_refuseUnchanged : GoodIn wsX3_stuck (va_wsS RX3 141 yX3_refuseUnchanged wsX3_refuseUnchanged) := goodIn_app (goodIn_of _ (by decide +kernel)) ggX3_stuck_X3_refuseUnchanged
set_option maxRecDepth 20000 in
theorem ggX3_stuck_X3_giveAnew : GoodIn wsX3_stuck wsX3_giveAnew := goodIn_r _ [18, 2, 19, 20, 21, 22, 23, 24, 25, 26, 27, 6, 28, 1, 29, 30, 31, 32, 33, 34, 35, 36, 37, 38, 39, 40, 41, 42, 59, 60, 61, 62, 63, 73, 74, 75, 76, 77, 78, 79, 80, 81, 82, 64, 65, 66, 67, 68, 69, 70, 71, 72] (by decide +kernel) (by decide +kernel)
set_option maxRecDepth 20000 in
theorem gX3_stuck_X3_giveAnew : GoodIn wsX3_stuck (wsV RX3 150 RX3 yX3_giveAnew wsX3_giveAnew) := goodIn_app (goodIn_of _ (by decide +kernel)) ggX3_stuck_X3_giveAnew
set_option maxRecDepth 20000 in
theorem ggX3_stuck_X0_number : GoodIn wsX3_stuck wsX0_number := goodIn_r _ [45, 46, 47, 48, 20, 49, 50, 51, 19, 21, 22, 23, 24, 52, 53, 54, 55, 56, 57, 58, 73, 74, 75, 76, 77, 78, 79, 80, 81, 82] (by decide +kernel) (by decide +kernel)
set_option maxRecDepth 20000 in
theorem gX3_stuck_X0_number_n124 : GoodIn wsX3_stuck (wsX0_number) := ggX3_stuck_X0_number
theorem dX3_stuck_0 : decode cX3_stuck 0 = .ok (.aload_n 0, 1) := by decide +kernel
theorem dX3_stuck_1 : decode cX3_stuck 1 = .ok (.iload_n 1, 1) := by decide +kernel
theorem dX3_stuck_2 : decode cX3_stuck 2 = .ok (.invokevirtual 107, 3) := by decide +kernel
theorem dX3_stuck_5 : decode cX3_stuck 5 = .ok (.aload_n 0, 1) := by decide +kernel
theorem dX3_stuck_6 : decode cX3_stuck 6 = .ok (.getfield 25, 3) := by decide +kernel
theorem dX3_stuck_9 : decode cX3_stuck 9 = .ok (.getfield 127, 3) := by decide +kernel
theorem dX3_stuck_12 : decode cX3_stuck 12 = .ok (.iload_n 1, 1) := by decide +kernel
theorem dX3_stuck_13 : decode cX3_stuck 13 = .ok (.baload, 1) := by decide +kernel
theorem dX3_stuck_14 : decode cX3_stuck 14 = .ok (.iload_n 2, 1) := by decide +kernel
theorem dX3_stuck_15 : decode cX3_stuck 15 = .ok (.invokestatic 141, 3) := by decide +kernel
theorem dX3_stuck_18 : decode cX3_stuck 18 = .ok (.aload_n 0, 1) := by decide +kernel
theorem dX3_stuck_19 : decode cX3_stuck 19 = .ok (.getfield 25, 3) := by decide +kernel
theorem dX3_stuck_22 : decode cX3_stuck 22 = .ok (.getfield 127, 3) := by decide +kernel
theorem dX3_stuck_25 : decode cX3_stuck 25 = .ok (.iload_n 1, 1) := by decide +kernel
theorem dX3_stuck_26 : decode cX3_stuck 26 = .ok (.iload_n 2, 1) := by decide +kernel
theorem dX3_stuck_27 : decode cX3_stuck 27 = .ok (.bastore, 1) := by decide +kernel
theorem dX3_stuck_28 : decode cX3_stuck 28 = .ok (.iload_n 2, 1) := by decide +kernel
theorem dX3_stuck_29 : decode cX3_stuck 29 = .ok (.ifCond .eq 9, 3) := by decide +kernel
theorem dX3_stuck_32 : decode cX3_stuck 32 = .ok (.aload_n 0, 1) := by decide +kernel
theorem dX3_stuck_33 : decode cX3_stuck 33 = .ok (.iload_n 1, 1) := by decide +kernel
theorem dX3_stuck_34 : decode cX3_stuck 34 = .ok (.invokevirtual 150, 3) := by decide +kernel
theorem dX3_stuck_37 : decode cX3_stuck 37 = .ok (.pop, 1) := by decide +kernel
theorem dX3_stuck_38 : decode cX3_stuck 38 = .ok (.aload_n 0, 1) := by decide +kernel
theorem dX3_stuck_39 : decode cX3_stuck 39 = .ok (.getfield 32, 3) := by decide +kernel
theorem dX3_stuck_42 : decode cX3_stuck 42 = .ok (.iconst 1, 1) := by decide +kernel
theorem dX3_stuck_43 : decode cX3_stuck 43 = .ok (.iload_n 1, 1) := by decide +kernel
theorem dX3_stuck_44 : decode cX3_stuck 44 = .ok (.invokevirtual 124, 3) := by decide +kernel
theorem dX3_stuck_47 : decode cX3_stuck 47 = .ok (.ireturn, 1) := by decide +kernel
set_option maxRecDepth 20000 in
theorem ggX3_reserved_X3_refuseNoLift : GoodIn wsX3_reserved wsX3_refuseNoLift := goodIn_ca (goodIn_r _ [7, 8, 9, 1, 37, 38, 39, 40, 41, 42, 43, 44, 45, 46, 47, 48, 49, 50] (by decide +kernel) (by decide +kernel)) (goodIn_sub (fun _ h => List.mem_cons_of_mem _ (List.mem_append_left _ (List.mem_append_right _ h))) (by decide +kernel))
set_option maxRecDepth 20000 in
theorem gX3_reserved_X3_refuseNoLift : GoodIn wsX3_reserved (wsV RX3 107 RX3 yX3_refuseNoLift wsX3_refuseNoLift) := goodIn_app (goodIn_of _ (by decide +kernel)) ggX3_reserved_X3_refuseNoLift
set_option maxRecDepth 20000 in
theorem ggX3_reserved_X3_refuseUnchanged : GoodIn wsX3_reserved wsX3_refuseUnchanged := goodIn_ca (goodIn_r _ [12, 13, 14] (by decide +kernel) (by decide +kernel)) (goodIn_sub (fun _ h => List.mem_cons_of_mem _ (List.mem_append_right _ h)) (by decide +kernel))
set_option maxRecDepth 20000 in
theorem gX3_reserved_X3_refuseUnchanged : GoodIn wsX3_reserved (va_wsS RX3 141 yX3_refuseUnchanged wsX3_refuseUnchanged) := goodIn_app (goodIn_of _ (by decide +kernel)) ggX3_reserved_X3_refuseUnchanged
set_option maxRecDepth 20000 in
theorem ggX3_reserved_X0_number : GoodIn wsX3_reserved wsX0_number := goodIn_r _ [18, 19, 20, 21, 16, 22, 23, 24, 25, 26, 27, 28, 29, 30, 31, 32, 33, 34, 35, 36, 51, 52, 53, 54, 55, 56, 57, 58, 59, 60] (by decide +kernel) (by decide +kernel)
set_option maxRecDepth 20000 in
theorem gX3_reserved_X0_number_n124 : GoodIn wsX3_reserved (wsX0_number) := ggX3_reserved_X0_number
theorem dX3_reserved_0 : decode cX3_reserved 0 = .ok (.aload_n 0, 1) := by decide +kernel
theorem dX3_reserved_1 : decode cX3_reserved 1 = .ok (.iload_n 1, 1) := by decide +kernel
theorem dX3_reserved_2 : decode cX3_reserved 2 = .ok (.invokevirtual 107, 3) := by decide +kernel
theorem dX3_reserved_5 : decode cX3_reserved 5 = .ok (.aload_n 0, 1) := by decide +kernel
theorem dX3_reserved_6 : decode cX3_reserved 6 = .ok (.getfield 25, 3) := by decide +kernel
theorem dX3_reserved_9 : decode cX3_reserved 9 = .ok (.getfield 135, 3) := by decide +kernel
theorem dX3_reserved_12 : decode cX3_reserved 12 = .ok (.iload_n 1, 1) := by decide +kernel
theorem dX3_reserved_13 : decode cX3_reserved 13 = .ok (.baload, 1) := by decide +kernel
theorem dX3_reserved_14 : decode cX3_reserved 14 = .ok (.iload_n 2, 1) := by decide +kernel
theorem dX3_reserved_15 : decode cX3_reserved 15 = .ok (.invokestatic 141, 3) := by decide +kernel
theorem dX3_reserved_18 : decode cX3_reserved 18 = .ok (.aload_n 0, 1) := by decide +kernel
theorem dX3_reserved_19 : decode cX3_reserved 19 = .ok (.getfield 25, 3) := by decide +kernel
theorem dX3_reserved_22 : decode cX3_reserved 22 = .ok (.getfield 135, 3) := by decide +kernel
theorem dX3_reserved_25 : decode cX3_reserved 25 = .ok (.iload_n 1, 1) := by decide +kernel
theorem dX3_reserved_26 : decode cX3_reserved 26 = .ok (.iload_n 2, 1) := by decide +kernel
theorem dX3_reserved_27 : decode cX3_reserved 27 = .ok (.bastore, 1) := by decide +kernel
theorem dX3_reserved_28 : decode cX3_reserved 28 = .ok (.aload_n 0, 1) := by decide +kernel
theorem dX3_reserved_29 : decode cX3_reserved 29 = .ok (.getfield 32, 3) := by decide +kernel
theorem dX3_reserved_32 : decode cX3_reserved 32 = .ok (.iconst 1, 1) := by decide +kernel
theorem dX3_reserved_33 : decode cX3_reserved 33 = .ok (.iload_n 1, 1) := by decide +kernel
theorem dX3_reserved_34 : decode cX3_reserved 34 = .ok (.invokevirtual 124, 3) := by decide +kernel
theorem dX3_reserved_37 : decode cX3_reserved 37 = .ok (.aload_n 0, 1) := by decide +kernel
theorem dX3_reserved_38 : decode cX3_reserved 38 = .ok (.getfield 32, 3) := by decide +kernel
theorem dX3_reserved_41 : decode cX3_reserved 41 = .ok (.iconst 0, 1) := by decide +kernel
theorem dX3_reserved_42 : decode cX3_reserved 42 = .ok (.iload_n 1, 1) := by decide +kernel
theorem dX3_reserved_43 : decode cX3_reserved 43 = .ok (.invokevirtual 124, 3) := by decide +kernel
theorem dX3_reserved_46 : decode cX3_reserved 46 = .ok (.iadd, 1) := by decide +kernel
theorem dX3_reserved_47 : decode cX3_reserved 47 = .ok (.ireturn, 1) := by decide +kernel
set_option maxRecDepth 20000 in
theorem ggX3_freed_X3_giveAnew : GoodIn wsX3_freed wsX3_giveAnew := goodIn_r _ [5, 6, 7, 8, 9, 10, 11, 12, 13, 14, 15, 4, 16, 17, 18, 19, 20, 21, 22, 23, 24, 25, 26, 27, 28, 29, 30, 31, 32, 33, 34, 35, 36, 37, 38, 39, 40, 41, 42, 43, 44, 45, 46, 47, 48, 49, 50, 51, 52, 53, 54, 55] (by decide +kernel) (by decide +kernel)
set_option maxRecDepth 20000 in
theorem gX3_freed_X3_giveAnew : GoodIn wsX3_freed (wsV RX3 150 RX3 yX3_giveAnew wsX3_giveAnew) := goodIn_app (goodIn_of _ (by decide +kernel)) ggX3_freed_X3_giveAnew
theorem dX3_freed_0 : decode cX3_freed 0 = .ok (.aload_n 0, 1) := by decide +kernel
theorem dX3_freed_1 : decode cX3_freed 1 = .ok (.iconst (-1), 1) := by decide +kernel
theorem dX3_freed_2 : decode cX3_freed 2 = .ok (.invokevirtual 150, 3) := by decide +kernel
theorem dX3_freed_5 : decode cX3_freed 5 = .ok (.ireturn, 1) := by decide +kernel
set_option maxRecDepth 20000 in
theorem ggX3_served_X3_refuseNoCall : GoodIn wsX3_served wsX3_refuseNoCall := goodIn_ca (goodIn_r _ [6, 7, 8, 1, 9, 10, 11, 12, 13, 14, 15, 16, 17, 18, 19, 20, 21, 22, 23] (by decide +kernel) (by decide +kernel)) (goodIn_sub (fun _ h => List.mem_cons_of_mem _ (List.mem_append_right _ h)) (by decide +kernel))
set_option maxRecDepth 20000 in
theorem gX3_served_X3_refuseNoCall : GoodIn wsX3_served (wsV RX3 153 RX3 yX3_refuseNoCall wsX3_refuseNoCall) := goodIn_app (goodIn_of _ (by decide +kernel)) ggX3_served_X3_refuseNoCall
theorem dX3_served_0 : decode cX3_served 0 = .ok (.aload_n 0, 1) := by decide +kernel
theorem dX3_served_1 : decode cX3_served 1 = .ok (.iload_n 1, 1) := by decide +kernel
theorem dX3_served_2 : decode cX3_served 2 = .ok (.invokevirtual 153, 3) := by decide +kernel
theorem dX3_served_5 : decode cX3_served 5 = .ok (.aload_n 0, 1) := by decide +kernel
theorem dX3_served_6 : decode cX3_served 6 = .ok (.getfield 32, 3) := by decide +kernel
theorem dX3_served_9 : decode cX3_served 9 = .ok (.getfield 156, 3) := by decide +kernel
theorem dX3_served_12 : decode cX3_served 12 = .ok (.iload_n 1, 1) := by decide +kernel
theorem dX3_served_13 : decode cX3_served 13 = .ok (.iaload, 1) := by decide +kernel
theorem dX3_served_14 : decode cX3_served 14 = .ok (.ireturn, 1) := by decide +kernel
set_option maxRecDepth 20000 in
theorem ggX3_waits_X3_refuseNoCall : GoodIn wsX3_waits wsX3_refuseNoCall := goodIn_ca (goodIn_r _ [7, 8, 9, 1, 10, 11, 12, 13, 14, 15, 16, 17, 18, 19, 20, 21, 22, 23, 24] (by decide +kernel) (by decide +kernel)) (goodIn_sub (fun _ h => List.mem_cons_of_mem _ (List.mem_append_right _ h)) (by decide +kernel))
set_option maxRecDepth 20000 in
theorem gX3_waits_X3_refuseNoCall : GoodIn wsX3_waits (wsV RX3 153 RX3 yX3_refuseNoCall wsX3_refuseNoCall) := goodIn_app (goodIn_of _ (by decide +kernel)) ggX3_waits_X3_refuseNoCall
theorem dX3_waits_0 : decode cX3_waits 0 = .ok (.aload_n 0, 1) := by decide +kernel
theorem dX3_waits_1 : decode cX3_waits 1 = .ok (.iload_n 1, 1) := by decide +kernel
theorem dX3_waits_2 : decode cX3_waits 2 = .ok (.invokevirtual 153, 3) := by decide +kernel
theorem dX3_waits_5 : decode cX3_waits 5 = .ok (.aload_n 0, 1) := by decide +kernel
theorem dX3_waits_6 : decode cX3_waits 6 = .ok (.getfield 32, 3) := by decide +kernel
theorem dX3_waits_9 : decode cX3_waits 9 = .ok (.getfield 159, 3) := by decide +kernel
theorem dX3_waits_12 : decode cX3_waits 12 = .ok (.iload_n 1, 1) := by decide +kernel
theorem dX3_waits_13 : decode cX3_waits 13 = .ok (.iaload, 1) := by decide +kernel
theorem dX3_waits_14 : decode cX3_waits 14 = .ok (.ifCond .ne 10, 3) := by decide +kernel
theorem dX3_waits_17 : decode cX3_waits 17 = .ok (.aload_n 0, 1) := by decide +kernel
theorem dX3_waits_18 : decode cX3_waits 18 = .ok (.getfield 43, 3) := by decide +kernel
theorem dX3_waits_21 : decode cX3_waits 21 = .ok (.goto 12, 3) := by decide +kernel
theorem dX3_waits_24 : decode cX3_waits 24 = .ok (.aload_n 0, 1) := by decide +kernel
theorem dX3_waits_25 : decode cX3_waits 25 = .ok (.getfield 32, 3) := by decide +kernel
theorem dX3_waits_28 : decode cX3_waits 28 = .ok (.getfield 162, 3) := by decide +kernel
theorem dX3_waits_31 : decode cX3_waits 31 = .ok (.iload_n 1, 1) := by decide +kernel
theorem dX3_waits_32 : decode cX3_waits 32 = .ok (.iaload, 1) := by decide +kernel
theorem dX3_waits_33 : decode cX3_waits 33 = .ok (.istore_n 2, 1) := by decide +kernel
theorem dX3_waits_34 : decode cX3_waits 34 = .ok (.iload_n 2, 1) := by decide +kernel
theorem dX3_waits_35 : decode cX3_waits 35 = .ok (.aload_n 0, 1) := by decide +kernel
theorem dX3_waits_36 : decode cX3_waits 36 = .ok (.getfield 32, 3) := by decide +kernel
theorem dX3_waits_39 : decode cX3_waits 39 = .ok (.getfield 165, 3) := by decide +kernel
theorem dX3_waits_42 : decode cX3_waits 42 = .ok (.iload_n 1, 1) := by decide +kernel
theorem dX3_waits_43 : decode cX3_waits 43 = .ok (.iaload, 1) := by decide +kernel
theorem dX3_waits_44 : decode cX3_waits 44 = .ok (.isub, 1) := by decide +kernel
theorem dX3_waits_45 : decode cX3_waits 45 = .ok (.ireturn, 1) := by decide +kernel
set_option maxRecDepth 20000 in
theorem ggX3_least_X3_refuseNoLift : GoodIn wsX3_least wsX3_refuseNoLift := goodIn_ca (goodIn_r _ [7, 8, 9, 2, 47, 48, 49, 50, 51, 52, 53, 54, 55, 56, 57, 58, 59, 60] (by decide +kernel) (by decide +kernel)) (goodIn_sub (fun _ h => List.mem_cons_of_mem _ (List.mem_append_right _ h)) (by decide +kernel))
set_option maxRecDepth 20000 in
theorem gX3_least_X3_refuseNoLift : GoodIn wsX3_least (wsV RX3 107 RX3 yX3_refuseNoLift wsX3_refuseNoLift) := goodIn_app (goodIn_of _ (by decide +kernel)) ggX3_least_X3_refuseNoLift
set_option maxRecDepth 20000 in
theorem ggX3_least_X0_setOf : GoodIn wsX3_least wsX0_setOf := goodIn_r _ [13, 14, 15, 16, 17, 11, 18, 19, 20, 61, 62, 63, 64, 65, 66, 67, 68, 69, 70] (by decide +kernel) (by decide +kernel)
set_option maxRecDepth 20000 in
theorem gX3_least_X0_setOf_n168 : GoodIn wsX3_least (wsX0_setOf) := ggX3_least_X0_setOf
set_option maxRecDepth 20000 in
theorem ggX3_least_J6_bitCount_0f7a4 : GoodIn wsX3_least wsJ6_bitCount_0f7a4 := goodIn_r _ [24, 25, 26, 27] (by decide +kernel) (by decide +kernel)
set_option maxRecDepth 20000 in
theorem gX3_least_J6_bitCount_0f7a4 : GoodIn wsX3_least (va_wsS RX3 171 yJ6_bitCount_0f7a4 wsJ6_bitCount_0f7a4) := goodIn_app (goodIn_of _ (by decide +kernel)) ggX3_least_J6_bitCount_0f7a4
set_option maxRecDepth 20000 in
theorem ggX3_least_X3_leastWay : GoodIn wsX3_least wsX3_leastWay := goodIn_r _ [30, 31, 32, 33, 34, 35, 36, 11, 37, 38, 14, 39, 40, 41, 42, 43, 44, 45, 46, 28, 29, 6, 61, 62, 63, 64, 65, 66, 67, 68, 69, 70] (by decide +kernel) (by decide +kernel)
set_option maxRecDepth 20000 in
theorem gX3_least_X3_leastWay : GoodIn wsX3_least (va_wsS RX3 176 yX3_leastWay wsX3_leastWay) := goodIn_app (goodIn_of _ (by decide +kernel)) ggX3_least_X3_leastWay
theorem dX3_least_0 : decode cX3_least 0 = .ok (.aload_n 0, 1) := by decide +kernel
theorem dX3_least_1 : decode cX3_least 1 = .ok (.iload_n 1, 1) := by decide +kernel
theorem dX3_least_2 : decode cX3_least 2 = .ok (.invokevirtual 107, 3) := by decide +kernel
theorem dX3_least_5 : decode cX3_least 5 = .ok (.aload_n 0, 1) := by decide +kernel
theorem dX3_least_6 : decode cX3_least 6 = .ok (.getfield 32, 3) := by decide +kernel
theorem dX3_least_9 : decode cX3_least 9 = .ok (.iconst 0, 1) := by decide +kernel
theorem dX3_least_10 : decode cX3_least 10 = .ok (.iload_n 1, 1) := by decide +kernel
theorem dX3_least_11 : decode cX3_least 11 = .ok (.invokevirtual 168, 3) := by decide +kernel
theorem dX3_least_14 : decode cX3_least 14 = .ok (.istore_n 2, 1) := by decide +kernel
theorem dX3_least_15 : decode cX3_least 15 = .ok (.aload_n 0, 1) := by decide +kernel
theorem dX3_least_16 : decode cX3_least 16 = .ok (.getfield 32, 3) := by decide +kernel
theorem dX3_least_19 : decode cX3_least 19 = .ok (.iconst 1, 1) := by decide +kernel
theorem dX3_least_20 : decode cX3_least 20 = .ok (.iload_n 1, 1) := by decide +kernel
theorem dX3_least_21 : decode cX3_least 21 = .ok (.invokevirtual 168, 3) := by decide +kernel
theorem dX3_least_24 : decode cX3_least 24 = .ok (.istore_n 3, 1) := by decide +kernel
theorem dX3_least_25 : decode cX3_least 25 = .ok (.iload_n 2, 1) := by decide +kernel
theorem dX3_least_26 : decode cX3_least 26 = .ok (.iload_n 3, 1) := by decide +kernel
theorem dX3_least_27 : decode cX3_least 27 = .ok (.ior, 1) := by decide +kernel
theorem dX3_least_28 : decode cX3_least 28 = .ok (.invokestatic 171, 3) := by decide +kernel
theorem dX3_least_31 : decode cX3_least 31 = .ok (.iconst 4, 1) := by decide +kernel
theorem dX3_least_32 : decode cX3_least 32 = .ok (.if_icmp .le 5, 3) := by decide +kernel
theorem dX3_least_35 : decode cX3_least 35 = .ok (.iconst (-1), 1) := by decide +kernel
theorem dX3_least_36 : decode cX3_least 36 = .ok (.ireturn, 1) := by decide +kernel
theorem dX3_least_37 : decode cX3_least 37 = .ok (.aload_n 0, 1) := by decide +kernel
theorem dX3_least_38 : decode cX3_least 38 = .ok (.getfield 32, 3) := by decide +kernel
theorem dX3_least_41 : decode cX3_least 41 = .ok (.aload_n 0, 1) := by decide +kernel
theorem dX3_least_42 : decode cX3_least 42 = .ok (.getfield 25, 3) := by decide +kernel
theorem dX3_least_45 : decode cX3_least 45 = .ok (.getfield 111, 3) := by decide +kernel
theorem dX3_least_48 : decode cX3_least 48 = .ok (.iload_n 1, 1) := by decide +kernel
theorem dX3_least_49 : decode cX3_least 49 = .ok (.iaload, 1) := by decide +kernel
theorem dX3_least_50 : decode cX3_least 50 = .ok (.iload_n 2, 1) := by decide +kernel
theorem dX3_least_51 : decode cX3_least 51 = .ok (.iload_n 3, 1) := by decide +kernel
theorem dX3_least_52 : decode cX3_least 52 = .ok (.iconst 0, 1) := by decide +kernel
theorem dX3_least_53 : decode cX3_least 53 = .ok (.invokestatic 176, 3) := by decide +kernel
theorem dX3_least_56 : decode cX3_least 56 = .ok (.ireturn, 1) := by decide +kernel
set_option maxRecDepth 20000 in
theorem ggX3_joins_X3_refuseNoCall : GoodIn wsX3_joins wsX3_refuseNoCall := goodIn_ca (goodIn_r _ [8, 9, 10, 3, 11, 12, 13, 14, 15, 16, 17, 18, 19, 20, 21, 22, 23, 24, 25] (by decide +kernel) (by decide +kernel)) (goodIn_sub (fun _ h => List.mem_cons_of_mem _ (List.mem_append_right _ h)) (by decide +kernel))
set_option maxRecDepth 20000 in
theorem gX3_joins_X3_refuseNoCall : GoodIn wsX3_joins (wsV RX3 153 RX3 yX3_refuseNoCall wsX3_refuseNoCall) := goodIn_app (goodIn_of _ (by decide +kernel)) ggX3_joins_X3_refuseNoCall
theorem dX3_joins_0 : decode cX3_joins 0 = .ok (.aload_n 0, 1) := by decide +kernel
theorem dX3_joins_1 : decode cX3_joins 1 = .ok (.iload_n 1, 1) := by decide +kernel
theorem dX3_joins_2 : decode cX3_joins 2 = .ok (.invokevirtual 153, 3) := by decide +kernel
theorem dX3_joins_5 : decode cX3_joins 5 = .ok (.aload_n 0, 1) := by decide +kernel
theorem dX3_joins_6 : decode cX3_joins 6 = .ok (.iload_n 2, 1) := by decide +kernel
theorem dX3_joins_7 : decode cX3_joins 7 = .ok (.invokevirtual 153, 3) := by decide +kernel
theorem dX3_joins_10 : decode cX3_joins 10 = .ok (.aload_n 0, 1) := by decide +kernel
theorem dX3_joins_11 : decode cX3_joins 11 = .ok (.getfield 32, 3) := by decide +kernel
theorem dX3_joins_14 : decode cX3_joins 14 = .ok (.getfield 159, 3) := by decide +kernel
theorem dX3_joins_17 : decode cX3_joins 17 = .ok (.iload_n 1, 1) := by decide +kernel
theorem dX3_joins_18 : decode cX3_joins 18 = .ok (.iaload, 1) := by decide +kernel
theorem dX3_joins_19 : decode cX3_joins 19 = .ok (.ifCond .ne 15, 3) := by decide +kernel
theorem dX3_joins_22 : decode cX3_joins 22 = .ok (.aload_n 0, 1) := by decide +kernel
theorem dX3_joins_23 : decode cX3_joins 23 = .ok (.getfield 32, 3) := by decide +kernel
theorem dX3_joins_26 : decode cX3_joins 26 = .ok (.getfield 159, 3) := by decide +kernel
theorem dX3_joins_29 : decode cX3_joins 29 = .ok (.iload_n 2, 1) := by decide +kernel
theorem dX3_joins_30 : decode cX3_joins 30 = .ok (.iaload, 1) := by decide +kernel
theorem dX3_joins_31 : decode cX3_joins 31 = .ok (.ifCond .eq 13, 3) := by decide +kernel
theorem dX3_joins_34 : decode cX3_joins 34 = .ok (.new 145, 3) := by decide +kernel
theorem dX3_joins_37 : decode cX3_joins 37 = .ok (.dup, 1) := by decide +kernel
theorem dX3_joins_38 : decode cX3_joins 38 = .ok (.ldc 180, 2) := by decide +kernel
theorem dX3_joins_40 : decode cX3_joins 40 = .ok (.invokespecial 149, 3) := by decide +kernel
theorem dX3_joins_43 : decode cX3_joins 43 = .ok (.athrow, 1) := by decide +kernel
theorem dX3_joins_44 : decode cX3_joins 44 = .ok (.aload_n 0, 1) := by decide +kernel
theorem dX3_joins_45 : decode cX3_joins 45 = .ok (.getfield 32, 3) := by decide +kernel
theorem dX3_joins_48 : decode cX3_joins 48 = .ok (.getfield 182, 3) := by decide +kernel
theorem dX3_joins_51 : decode cX3_joins 51 = .ok (.iload_n 1, 1) := by decide +kernel
theorem dX3_joins_52 : decode cX3_joins 52 = .ok (.iaload, 1) := by decide +kernel
theorem dX3_joins_53 : decode cX3_joins 53 = .ok (.aload_n 0, 1) := by decide +kernel
theorem dX3_joins_54 : decode cX3_joins 54 = .ok (.getfield 32, 3) := by decide +kernel
theorem dX3_joins_57 : decode cX3_joins 57 = .ok (.getfield 182, 3) := by decide +kernel
theorem dX3_joins_60 : decode cX3_joins 60 = .ok (.iload_n 2, 1) := by decide +kernel
theorem dX3_joins_61 : decode cX3_joins 61 = .ok (.iaload, 1) := by decide +kernel
theorem dX3_joins_62 : decode cX3_joins 62 = .ok (.if_icmp .ne 28, 3) := by decide +kernel
theorem dX3_joins_65 : decode cX3_joins 65 = .ok (.aload_n 0, 1) := by decide +kernel
theorem dX3_joins_66 : decode cX3_joins 66 = .ok (.getfield 32, 3) := by decide +kernel
theorem dX3_joins_69 : decode cX3_joins 69 = .ok (.getfield 185, 3) := by decide +kernel
theorem dX3_joins_72 : decode cX3_joins 72 = .ok (.iload_n 1, 1) := by decide +kernel
theorem dX3_joins_73 : decode cX3_joins 73 = .ok (.iaload, 1) := by decide +kernel
theorem dX3_joins_74 : decode cX3_joins 74 = .ok (.aload_n 0, 1) := by decide +kernel
theorem dX3_joins_75 : decode cX3_joins 75 = .ok (.getfield 32, 3) := by decide +kernel
theorem dX3_joins_78 : decode cX3_joins 78 = .ok (.getfield 185, 3) := by decide +kernel
theorem dX3_joins_81 : decode cX3_joins 81 = .ok (.iload_n 2, 1) := by decide +kernel
theorem dX3_joins_82 : decode cX3_joins 82 = .ok (.iaload, 1) := by decide +kernel
theorem dX3_joins_83 : decode cX3_joins 83 = .ok (.if_icmp .ne 7, 3) := by decide +kernel
theorem dX3_joins_86 : decode cX3_joins 86 = .ok (.iconst 1, 1) := by decide +kernel
theorem dX3_joins_87 : decode cX3_joins 87 = .ok (.goto 4, 3) := by decide +kernel
theorem dX3_joins_90 : decode cX3_joins 90 = .ok (.iconst 0, 1) := by decide +kernel
theorem dX3_joins_91 : decode cX3_joins 91 = .ok (.ireturn, 1) := by decide +kernel
set_option maxRecDepth 20000 in
theorem ggX3_known_X3_refuseNoCall : GoodIn wsX3_known wsX3_refuseNoCall := goodIn_ca (goodIn_r _ [6, 7, 8, 1, 14, 15, 16, 17, 18, 19, 20, 21, 22, 23, 24, 25, 26, 27, 28] (by decide +kernel) (by decide +kernel)) (goodIn_sub (fun _ h => List.mem_cons_of_mem _ (List.mem_append_left _ (List.mem_append_right _ h))) (by decide +kernel))
set_option maxRecDepth 20000 in
theorem gX3_known_X3_refuseNoCall : GoodIn wsX3_known (wsV RX3 153 RX3 yX3_refuseNoCall wsX3_refuseNoCall) := goodIn_app (goodIn_of _ (by decide +kernel)) ggX3_known_X3_refuseNoCall
set_option maxRecDepth 20000 in
theorem ggX3_known_X3_refuseOutside : GoodIn wsX3_known wsX3_refuseOutside := goodIn_ca (goodIn_r _ [11, 12, 13] (by decide +kernel) (by decide +kernel)) (goodIn_sub (fun _ h => List.mem_cons_of_mem _ (List.mem_append_right _ h)) (by decide +kernel))
set_option maxRecDepth 20000 in
theorem gX3_known_X3_refuseOutside : GoodIn wsX3_known (va_wsS RX3 46 yX3_refuseOutside wsX3_refuseOutside) := goodIn_app (goodIn_of _ (by decide +kernel)) ggX3_known_X3_refuseOutside
theorem dX3_known_0 : decode cX3_known 0 = .ok (.aload_n 0, 1) := by decide +kernel
theorem dX3_known_1 : decode cX3_known 1 = .ok (.iload_n 1, 1) := by decide +kernel
theorem dX3_known_2 : decode cX3_known 2 = .ok (.invokevirtual 153, 3) := by decide +kernel
theorem dX3_known_5 : decode cX3_known 5 = .ok (.iload_n 2, 1) := by decide +kernel
theorem dX3_known_6 : decode cX3_known 6 = .ok (.iconst 0, 1) := by decide +kernel
theorem dX3_known_7 : decode cX3_known 7 = .ok (.iconst 5, 1) := by decide +kernel
theorem dX3_known_8 : decode cX3_known 8 = .ok (.invokestatic 46, 3) := by decide +kernel
theorem dX3_known_11 : decode cX3_known 11 = .ok (.iload_n 2, 1) := by decide +kernel
theorem dX3_known_12 : decode cX3_known 12 = .ok (.tableswitch 86 0 4 #[36, 46, 56, 66, 76], 36) := by decide +kernel
theorem dX3_known_48 : decode cX3_known 48 = .ok (.aload_n 0, 1) := by decide +kernel
theorem dX3_known_49 : decode cX3_known 49 = .ok (.getfield 32, 3) := by decide +kernel
theorem dX3_known_52 : decode cX3_known 52 = .ok (.getfield 159, 3) := by decide +kernel
theorem dX3_known_55 : decode cX3_known 55 = .ok (.iload_n 1, 1) := by decide +kernel
theorem dX3_known_56 : decode cX3_known 56 = .ok (.iaload, 1) := by decide +kernel
theorem dX3_known_57 : decode cX3_known 57 = .ok (.ireturn, 1) := by decide +kernel
theorem dX3_known_58 : decode cX3_known 58 = .ok (.aload_n 0, 1) := by decide +kernel
theorem dX3_known_59 : decode cX3_known 59 = .ok (.getfield 32, 3) := by decide +kernel
theorem dX3_known_62 : decode cX3_known 62 = .ok (.getfield 74, 3) := by decide +kernel
theorem dX3_known_65 : decode cX3_known 65 = .ok (.iload_n 1, 1) := by decide +kernel
theorem dX3_known_66 : decode cX3_known 66 = .ok (.iaload, 1) := by decide +kernel
theorem dX3_known_67 : decode cX3_known 67 = .ok (.ireturn, 1) := by decide +kernel
theorem dX3_known_68 : decode cX3_known 68 = .ok (.aload_n 0, 1) := by decide +kernel
theorem dX3_known_69 : decode cX3_known 69 = .ok (.getfield 32, 3) := by decide +kernel
theorem dX3_known_72 : decode cX3_known 72 = .ok (.getfield 182, 3) := by decide +kernel
theorem dX3_known_75 : decode cX3_known 75 = .ok (.iload_n 1, 1) := by decide +kernel
theorem dX3_known_76 : decode cX3_known 76 = .ok (.iaload, 1) := by decide +kernel
theorem dX3_known_77 : decode cX3_known 77 = .ok (.ireturn, 1) := by decide +kernel
theorem dX3_known_78 : decode cX3_known 78 = .ok (.aload_n 0, 1) := by decide +kernel
theorem dX3_known_79 : decode cX3_known 79 = .ok (.getfield 32, 3) := by decide +kernel
theorem dX3_known_82 : decode cX3_known 82 = .ok (.getfield 185, 3) := by decide +kernel
theorem dX3_known_85 : decode cX3_known 85 = .ok (.iload_n 1, 1) := by decide +kernel
theorem dX3_known_86 : decode cX3_known 86 = .ok (.iaload, 1) := by decide +kernel
theorem dX3_known_87 : decode cX3_known 87 = .ok (.ireturn, 1) := by decide +kernel
theorem dX3_known_88 : decode cX3_known 88 = .ok (.aload_n 0, 1) := by decide +kernel
theorem dX3_known_89 : decode cX3_known 89 = .ok (.getfield 32, 3) := by decide +kernel
theorem dX3_known_92 : decode cX3_known 92 = .ok (.getfield 188, 3) := by decide +kernel
theorem dX3_known_95 : decode cX3_known 95 = .ok (.iload_n 1, 1) := by decide +kernel
theorem dX3_known_96 : decode cX3_known 96 = .ok (.iaload, 1) := by decide +kernel
theorem dX3_known_97 : decode cX3_known 97 = .ok (.ireturn, 1) := by decide +kernel
theorem dX3_known_98 : decode cX3_known 98 = .ok (.aload_n 0, 1) := by decide +kernel
theorem dX3_known_99 : decode cX3_known 99 = .ok (.getfield 32, 3) := by decide +kernel
theorem dX3_known_102 : decode cX3_known 102 = .ok (.getfield 191, 3) := by decide +kernel
theorem dX3_known_105 : decode cX3_known 105 = .ok (.iload_n 1, 1) := by decide +kernel
theorem dX3_known_106 : decode cX3_known 106 = .ok (.iaload, 1) := by decide +kernel
theorem dX3_known_107 : decode cX3_known 107 = .ok (.ireturn, 1) := by decide +kernel
set_option maxRecDepth 20000 in
theorem ggX3_count_X0_numberWaiting : GoodIn wsX3_count wsX0_numberWaiting := goodIn_r _ [9, 10, 11, 12, 13, 14, 52, 53, 54, 55, 56, 57, 58, 59, 60, 61] (by decide +kernel) (by decide +kernel)
set_option maxRecDepth 20000 in
theorem gX3_count_X0_numberWaiting_n194 : GoodIn wsX3_count (wsX0_numberWaiting) := ggX3_count_X0_numberWaiting
set_option maxRecDepth 20000 in
theorem ggX3_count_X0_number : GoodIn wsX3_count wsX0_number := goodIn_r _ [17, 18, 19, 20, 7, 21, 10, 22, 23, 24, 25, 11, 26, 27, 28, 29, 30, 31, 32, 33, 52, 53, 54, 55, 56, 57, 58, 59, 60, 61] (by decide +kernel) (by decide +kernel)
set_option maxRecDepth 20000 in
theorem gX3_count_X0_number_n124 : GoodIn wsX3_count (wsX0_number) := ggX3_count_X0_number
set_option maxRecDepth 20000 in
theorem ggX3_count_X0_levelsWithWaiting : GoodIn wsX3_count wsX0_levelsWithWaiting := goodIn_r _ [36, 10, 11, 37, 52, 53, 54, 55, 56, 57, 58, 59, 60, 61] (by decide +kernel) (by decide +kernel)
set_option maxRecDepth 20000 in
theorem gX3_count_X0_levelsWithWaiting_n198 : GoodIn wsX3_count (wsX0_levelsWithWaiting) := ggX3_count_X0_levelsWithWaiting
theorem dX3_count_0 : decode cX3_count 0 = .ok (.iload_n 1, 1) := by decide +kernel
theorem dX3_count_1 : decode cX3_count 1 = .ok (.tableswitch 119 0 8 #[51, 56, 64, 72, 80, 85, 93, 103, 111], 51) := by decide +kernel
theorem dX3_count_52 : decode cX3_count 52 = .ok (.aload_n 0, 1) := by decide +kernel
theorem dX3_count_53 : decode cX3_count 53 = .ok (.getfield 18, 3) := by decide +kernel
theorem dX3_count_56 : decode cX3_count 56 = .ok (.ireturn, 1) := by decide +kernel
theorem dX3_count_57 : decode cX3_count 57 = .ok (.aload_n 0, 1) := by decide +kernel
theorem dX3_count_58 : decode cX3_count 58 = .ok (.getfield 25, 3) := by decide +kernel
theorem dX3_count_61 : decode cX3_count 61 = .ok (.getfield 50, 3) := by decide +kernel
theorem dX3_count_64 : decode cX3_count 64 = .ok (.ireturn, 1) := by decide +kernel
theorem dX3_count_65 : decode cX3_count 65 = .ok (.aload_n 0, 1) := by decide +kernel
theorem dX3_count_66 : decode cX3_count 66 = .ok (.getfield 32, 3) := by decide +kernel
theorem dX3_count_69 : decode cX3_count 69 = .ok (.getfield 68, 3) := by decide +kernel
theorem dX3_count_72 : decode cX3_count 72 = .ok (.ireturn, 1) := by decide +kernel
theorem dX3_count_73 : decode cX3_count 73 = .ok (.aload_n 0, 1) := by decide +kernel
theorem dX3_count_74 : decode cX3_count 74 = .ok (.getfield 39, 3) := by decide +kernel
theorem dX3_count_77 : decode cX3_count 77 = .ok (.getfield 81, 3) := by decide +kernel
theorem dX3_count_80 : decode cX3_count 80 = .ok (.ireturn, 1) := by decide +kernel
theorem dX3_count_81 : decode cX3_count 81 = .ok (.aload_n 0, 1) := by decide +kernel
theorem dX3_count_82 : decode cX3_count 82 = .ok (.getfield 43, 3) := by decide +kernel
theorem dX3_count_85 : decode cX3_count 85 = .ok (.ireturn, 1) := by decide +kernel
theorem dX3_count_86 : decode cX3_count 86 = .ok (.aload_n 0, 1) := by decide +kernel
theorem dX3_count_87 : decode cX3_count 87 = .ok (.getfield 32, 3) := by decide +kernel
theorem dX3_count_90 : decode cX3_count 90 = .ok (.invokevirtual 194, 3) := by decide +kernel
theorem dX3_count_93 : decode cX3_count 93 = .ok (.ireturn, 1) := by decide +kernel
theorem dX3_count_94 : decode cX3_count 94 = .ok (.aload_n 0, 1) := by decide +kernel
theorem dX3_count_95 : decode cX3_count 95 = .ok (.getfield 32, 3) := by decide +kernel
theorem dX3_count_98 : decode cX3_count 98 = .ok (.iconst 0, 1) := by decide +kernel
theorem dX3_count_99 : decode cX3_count 99 = .ok (.iconst (-1), 1) := by decide +kernel
theorem dX3_count_100 : decode cX3_count 100 = .ok (.invokevirtual 124, 3) := by decide +kernel
theorem dX3_count_103 : decode cX3_count 103 = .ok (.ireturn, 1) := by decide +kernel
theorem dX3_count_104 : decode cX3_count 104 = .ok (.aload_n 0, 1) := by decide +kernel
theorem dX3_count_105 : decode cX3_count 105 = .ok (.getfield 32, 3) := by decide +kernel
theorem dX3_count_108 : decode cX3_count 108 = .ok (.invokevirtual 198, 3) := by decide +kernel
theorem dX3_count_111 : decode cX3_count 111 = .ok (.ireturn, 1) := by decide +kernel
theorem dX3_count_112 : decode cX3_count 112 = .ok (.aload_n 0, 1) := by decide +kernel
theorem dX3_count_113 : decode cX3_count 113 = .ok (.getfield 25, 3) := by decide +kernel
theorem dX3_count_116 : decode cX3_count 116 = .ok (.getfield 201, 3) := by decide +kernel
theorem dX3_count_119 : decode cX3_count 119 = .ok (.ireturn, 1) := by decide +kernel
theorem dX3_count_120 : decode cX3_count 120 = .ok (.iconst (-1), 1) := by decide +kernel
theorem dX3_count_121 : decode cX3_count 121 = .ok (.ireturn, 1) := by decide +kernel
theorem dX3_refuseOutside_0 : decode cX3_refuseOutside 0 = .ok (.iload_n 0, 1) := by decide +kernel
theorem dX3_refuseOutside_1 : decode cX3_refuseOutside 1 = .ok (.iload_n 1, 1) := by decide +kernel
theorem dX3_refuseOutside_2 : decode cX3_refuseOutside 2 = .ok (.if_icmp .lt 8, 3) := by decide +kernel
theorem dX3_refuseOutside_5 : decode cX3_refuseOutside 5 = .ok (.iload_n 0, 1) := by decide +kernel
theorem dX3_refuseOutside_6 : decode cX3_refuseOutside 6 = .ok (.iload_n 2, 1) := by decide +kernel
theorem dX3_refuseOutside_7 : decode cX3_refuseOutside 7 = .ok (.if_icmp .le 13, 3) := by decide +kernel
theorem dX3_refuseOutside_10 : decode cX3_refuseOutside 10 = .ok (.new 63, 3) := by decide +kernel
theorem dX3_refuseOutside_13 : decode cX3_refuseOutside 13 = .ok (.dup, 1) := by decide +kernel
theorem dX3_refuseOutside_14 : decode cX3_refuseOutside 14 = .ok (.ldc 204, 2) := by decide +kernel
theorem dX3_refuseOutside_16 : decode cX3_refuseOutside 16 = .ok (.invokespecial 67, 3) := by decide +kernel
theorem dX3_refuseOutside_19 : decode cX3_refuseOutside 19 = .ok (.athrow, 1) := by decide +kernel
theorem dX3_refuseOutside_20 : decode cX3_refuseOutside 20 = .ok (.return_, 1) := by decide +kernel
theorem dX3_refuseUnchanged_0 : decode cX3_refuseUnchanged 0 = .ok (.iload_n 0, 1) := by decide +kernel
theorem dX3_refuseUnchanged_1 : decode cX3_refuseUnchanged 1 = .ok (.iload_n 1, 1) := by decide +kernel
theorem dX3_refuseUnchanged_2 : decode cX3_refuseUnchanged 2 = .ok (.if_icmp .ne 13, 3) := by decide +kernel
theorem dX3_refuseUnchanged_5 : decode cX3_refuseUnchanged 5 = .ok (.new 145, 3) := by decide +kernel
theorem dX3_refuseUnchanged_8 : decode cX3_refuseUnchanged 8 = .ok (.dup, 1) := by decide +kernel
theorem dX3_refuseUnchanged_9 : decode cX3_refuseUnchanged 9 = .ok (.ldc 206, 2) := by decide +kernel
theorem dX3_refuseUnchanged_11 : decode cX3_refuseUnchanged 11 = .ok (.invokespecial 149, 3) := by decide +kernel
theorem dX3_refuseUnchanged_14 : decode cX3_refuseUnchanged 14 = .ok (.athrow, 1) := by decide +kernel
theorem dX3_refuseUnchanged_15 : decode cX3_refuseUnchanged 15 = .ok (.return_, 1) := by decide +kernel
theorem dX3_refuseNoLift_0 : decode cX3_refuseNoLift 0 = .ok (.iload_n 1, 1) := by decide +kernel
theorem dX3_refuseNoLift_1 : decode cX3_refuseNoLift 1 = .ok (.ifCond .lt 14, 3) := by decide +kernel
theorem dX3_refuseNoLift_4 : decode cX3_refuseNoLift 4 = .ok (.iload_n 1, 1) := by decide +kernel
theorem dX3_refuseNoLift_5 : decode cX3_refuseNoLift 5 = .ok (.aload_n 0, 1) := by decide +kernel
theorem dX3_refuseNoLift_6 : decode cX3_refuseNoLift 6 = .ok (.getfield 25, 3) := by decide +kernel
theorem dX3_refuseNoLift_9 : decode cX3_refuseNoLift 9 = .ok (.getfield 50, 3) := by decide +kernel
theorem dX3_refuseNoLift_12 : decode cX3_refuseNoLift 12 = .ok (.if_icmp .lt 13, 3) := by decide +kernel
theorem dX3_refuseNoLift_15 : decode cX3_refuseNoLift 15 = .ok (.new 85, 3) := by decide +kernel
theorem dX3_refuseNoLift_18 : decode cX3_refuseNoLift 18 = .ok (.dup, 1) := by decide +kernel
theorem dX3_refuseNoLift_19 : decode cX3_refuseNoLift 19 = .ok (.ldc 208, 2) := by decide +kernel
theorem dX3_refuseNoLift_21 : decode cX3_refuseNoLift 21 = .ok (.invokespecial 89, 3) := by decide +kernel
theorem dX3_refuseNoLift_24 : decode cX3_refuseNoLift 24 = .ok (.athrow, 1) := by decide +kernel
theorem dX3_refuseNoLift_25 : decode cX3_refuseNoLift 25 = .ok (.return_, 1) := by decide +kernel
theorem dX3_refuseNoCall_0 : decode cX3_refuseNoCall 0 = .ok (.iload_n 1, 1) := by decide +kernel
theorem dX3_refuseNoCall_1 : decode cX3_refuseNoCall 1 = .ok (.ifCond .lt 14, 3) := by decide +kernel
theorem dX3_refuseNoCall_4 : decode cX3_refuseNoCall 4 = .ok (.iload_n 1, 1) := by decide +kernel
theorem dX3_refuseNoCall_5 : decode cX3_refuseNoCall 5 = .ok (.aload_n 0, 1) := by decide +kernel
theorem dX3_refuseNoCall_6 : decode cX3_refuseNoCall 6 = .ok (.getfield 32, 3) := by decide +kernel
theorem dX3_refuseNoCall_9 : decode cX3_refuseNoCall 9 = .ok (.getfield 68, 3) := by decide +kernel
theorem dX3_refuseNoCall_12 : decode cX3_refuseNoCall 12 = .ok (.if_icmp .lt 13, 3) := by decide +kernel
theorem dX3_refuseNoCall_15 : decode cX3_refuseNoCall 15 = .ok (.new 85, 3) := by decide +kernel
theorem dX3_refuseNoCall_18 : decode cX3_refuseNoCall 18 = .ok (.dup, 1) := by decide +kernel
theorem dX3_refuseNoCall_19 : decode cX3_refuseNoCall 19 = .ok (.ldc 210, 2) := by decide +kernel
theorem dX3_refuseNoCall_21 : decode cX3_refuseNoCall 21 = .ok (.invokespecial 89, 3) := by decide +kernel
theorem dX3_refuseNoCall_24 : decode cX3_refuseNoCall 24 = .ok (.athrow, 1) := by decide +kernel
theorem dX3_refuseNoCall_25 : decode cX3_refuseNoCall 25 = .ok (.return_, 1) := by decide +kernel
theorem dX3_asNumber_0 : decode cX3_asNumber 0 = .ok (.iload_n 0, 1) := by decide +kernel
theorem dX3_asNumber_1 : decode cX3_asNumber 1 = .ok (.ifCond .eq 7, 3) := by decide +kernel
theorem dX3_asNumber_4 : decode cX3_asNumber 4 = .ok (.iconst 1, 1) := by decide +kernel
theorem dX3_asNumber_5 : decode cX3_asNumber 5 = .ok (.goto 4, 3) := by decide +kernel
theorem dX3_asNumber_8 : decode cX3_asNumber 8 = .ok (.iconst 0, 1) := by decide +kernel
theorem dX3_asNumber_9 : decode cX3_asNumber 9 = .ok (.ireturn, 1) := by decide +kernel
set_option maxRecDepth 20000 in
theorem ggX3_nearestLift_X2_mayGet : GoodIn wsX3_nearestLift wsX2_mayGet := goodIn_r _ [9, 10, 11, 12, 18, 19, 20, 21, 22, 23, 24, 25, 26] (by decide +kernel) (by decide +kernel)
set_option maxRecDepth 20000 in
theorem gX3_nearestLift_X2_mayGet_n215 : GoodIn wsX3_nearestLift (wsX2_mayGet) := ggX3_nearestLift_X2_mayGet
theorem dX3_nearestLift_0 : decode cX3_nearestLift 0 = .ok (.iconst (-1), 1) := by decide +kernel
theorem dX3_nearestLift_1 : decode cX3_nearestLift 1 = .ok (.istore_n 3, 1) := by decide +kernel
theorem dX3_nearestLift_2 : decode cX3_nearestLift 2 = .ok (.bipush 20, 2) := by decide +kernel
theorem dX3_nearestLift_4 : decode cX3_nearestLift 4 = .ok (.istore 4, 2) := by decide +kernel
theorem dX3_nearestLift_6 : decode cX3_nearestLift 6 = .ok (.iconst 0, 1) := by decide +kernel
theorem dX3_nearestLift_7 : decode cX3_nearestLift 7 = .ok (.istore 5, 2) := by decide +kernel
theorem dX3_nearestLift_9 : decode cX3_nearestLift 9 = .ok (.iload 5, 2) := by decide +kernel
theorem dX3_nearestLift_11 : decode cX3_nearestLift 11 = .ok (.aload_n 0, 1) := by decide +kernel
theorem dX3_nearestLift_12 : decode cX3_nearestLift 12 = .ok (.getfield 25, 3) := by decide +kernel
theorem dX3_nearestLift_15 : decode cX3_nearestLift 15 = .ok (.getfield 50, 3) := by decide +kernel
theorem dX3_nearestLift_18 : decode cX3_nearestLift 18 = .ok (.if_icmp .ge 53, 3) := by decide +kernel
theorem dX3_nearestLift_21 : decode cX3_nearestLift 21 = .ok (.aload_n 0, 1) := by decide +kernel
theorem dX3_nearestLift_22 : decode cX3_nearestLift 22 = .ok (.getfield 25, 3) := by decide +kernel
theorem dX3_nearestLift_25 : decode cX3_nearestLift 25 = .ok (.getfield 111, 3) := by decide +kernel
theorem dX3_nearestLift_28 : decode cX3_nearestLift 28 = .ok (.iload 5, 2) := by decide +kernel
theorem dX3_nearestLift_30 : decode cX3_nearestLift 30 = .ok (.iaload, 1) := by decide +kernel
theorem dX3_nearestLift_31 : decode cX3_nearestLift 31 = .ok (.iload_n 1, 1) := by decide +kernel
theorem dX3_nearestLift_32 : decode cX3_nearestLift 32 = .ok (.isub, 1) := by decide +kernel
theorem dX3_nearestLift_33 : decode cX3_nearestLift 33 = .ok (.invokestatic 212, 3) := by decide +kernel
theorem dX3_nearestLift_36 : decode cX3_nearestLift 36 = .ok (.istore 6, 2) := by decide +kernel
theorem dX3_nearestLift_38 : decode cX3_nearestLift 38 = .ok (.aload_n 0, 1) := by decide +kernel
theorem dX3_nearestLift_39 : decode cX3_nearestLift 39 = .ok (.getfield 25, 3) := by decide +kernel
theorem dX3_nearestLift_42 : decode cX3_nearestLift 42 = .ok (.iload 5, 2) := by decide +kernel
theorem dX3_nearestLift_44 : decode cX3_nearestLift 44 = .ok (.iload_n 2, 1) := by decide +kernel
theorem dX3_nearestLift_45 : decode cX3_nearestLift 45 = .ok (.invokevirtual 215, 3) := by decide +kernel
theorem dX3_nearestLift_48 : decode cX3_nearestLift 48 = .ok (.ifCond .eq 17, 3) := by decide +kernel
theorem dX3_nearestLift_51 : decode cX3_nearestLift 51 = .ok (.iload 6, 2) := by decide +kernel
theorem dX3_nearestLift_53 : decode cX3_nearestLift 53 = .ok (.iload 4, 2) := by decide +kernel
theorem dX3_nearestLift_55 : decode cX3_nearestLift 55 = .ok (.if_icmp .ge 10, 3) := by decide +kernel
theorem dX3_nearestLift_58 : decode cX3_nearestLift 58 = .ok (.iload 5, 2) := by decide +kernel
theorem dX3_nearestLift_60 : decode cX3_nearestLift 60 = .ok (.istore_n 3, 1) := by decide +kernel
theorem dX3_nearestLift_61 : decode cX3_nearestLift 61 = .ok (.iload 6, 2) := by decide +kernel
theorem dX3_nearestLift_63 : decode cX3_nearestLift 63 = .ok (.istore 4, 2) := by decide +kernel
theorem dX3_nearestLift_65 : decode cX3_nearestLift 65 = .ok (.iinc 5 1, 3) := by decide +kernel
theorem dX3_nearestLift_68 : decode cX3_nearestLift 68 = .ok (.goto (-59), 3) := by decide +kernel
theorem dX3_nearestLift_71 : decode cX3_nearestLift 71 = .ok (.iload_n 3, 1) := by decide +kernel
theorem dX3_nearestLift_72 : decode cX3_nearestLift 72 = .ok (.ireturn, 1) := by decide +kernel
set_option maxRecDepth 20000 in
theorem ggX3_giveAnew_X0_is : GoodIn wsX3_giveAnew wsX0_is := goodIn_r _ [5, 6, 7, 33, 34, 35, 36, 37, 38, 39, 40, 41, 42] (by decide +kernel) (by decide +kernel)
set_option maxRecDepth 20000 in
theorem gX3_giveAnew_X0_is_n219 : GoodIn wsX3_giveAnew (wsX0_is) := ggX3_giveAnew_X0_is
set_option maxRecDepth 20000 in
theorem ggX3_giveAnew_X3_nearestLift : GoodIn wsX3_giveAnew wsX3_nearestLift := goodIn_r _ [12, 13, 14, 15, 16, 17, 18, 19, 20, 21, 22, 23, 24, 28, 29, 30, 31, 32, 43, 44, 45, 46, 47, 48, 49, 50, 51] (by decide +kernel) (by decide +kernel)
set_option maxRecDepth 20000 in
theorem gX3_giveAnew_X3_nearestLift : GoodIn wsX3_giveAnew (wsV RX3 78 RX3 yX3_nearestLift wsX3_nearestLift) := goodIn_app (goodIn_of _ (by decide +kernel)) ggX3_giveAnew_X3_nearestLift
set_option maxRecDepth 20000 in
theorem ggX3_giveAnew_X3_asNumber : GoodIn wsX3_giveAnew wsX3_asNumber := goodIn_r _ [27] (by decide +kernel) (by decide +kernel)
set_option maxRecDepth 20000 in
theorem gX3_giveAnew_X3_asNumber : GoodIn wsX3_giveAnew (va_wsS RX3 131 yX3_asNumber wsX3_asNumber) := goodIn_app (goodIn_of _ (by decide +kernel)) ggX3_giveAnew_X3_asNumber
theorem dX3_giveAnew_0 : decode cX3_giveAnew 0 = .ok (.iconst 0, 1) := by decide +kernel
theorem dX3_giveAnew_1 : decode cX3_giveAnew 1 = .ok (.istore_n 2, 1) := by decide +kernel
theorem dX3_giveAnew_2 : decode cX3_giveAnew 2 = .ok (.iconst 0, 1) := by decide +kernel
theorem dX3_giveAnew_3 : decode cX3_giveAnew 3 = .ok (.istore_n 3, 1) := by decide +kernel
theorem dX3_giveAnew_4 : decode cX3_giveAnew 4 = .ok (.iload_n 3, 1) := by decide +kernel
theorem dX3_giveAnew_5 : decode cX3_giveAnew 5 = .ok (.aload_n 0, 1) := by decide +kernel
theorem dX3_giveAnew_6 : decode cX3_giveAnew 6 = .ok (.getfield 32, 3) := by decide +kernel
theorem dX3_giveAnew_9 : decode cX3_giveAnew 9 = .ok (.getfield 68, 3) := by decide +kernel
theorem dX3_giveAnew_12 : decode cX3_giveAnew 12 = .ok (.if_icmp .ge 77, 3) := by decide +kernel
theorem dX3_giveAnew_15 : decode cX3_giveAnew 15 = .ok (.aload_n 0, 1) := by decide +kernel
theorem dX3_giveAnew_16 : decode cX3_giveAnew 16 = .ok (.getfield 32, 3) := by decide +kernel
theorem dX3_giveAnew_19 : decode cX3_giveAnew 19 = .ok (.iload_n 3, 1) := by decide +kernel
theorem dX3_giveAnew_20 : decode cX3_giveAnew 20 = .ok (.iconst 0, 1) := by decide +kernel
theorem dX3_giveAnew_21 : decode cX3_giveAnew 21 = .ok (.iload_n 1, 1) := by decide +kernel
theorem dX3_giveAnew_22 : decode cX3_giveAnew 22 = .ok (.invokevirtual 219, 3) := by decide +kernel
theorem dX3_giveAnew_25 : decode cX3_giveAnew 25 = .ok (.ifCond .eq 58, 3) := by decide +kernel
theorem dX3_giveAnew_28 : decode cX3_giveAnew 28 = .ok (.aload_n 0, 1) := by decide +kernel
theorem dX3_giveAnew_29 : decode cX3_giveAnew 29 = .ok (.getfield 32, 3) := by decide +kernel
theorem dX3_giveAnew_32 : decode cX3_giveAnew 32 = .ok (.getfield 74, 3) := by decide +kernel
theorem dX3_giveAnew_35 : decode cX3_giveAnew 35 = .ok (.iload_n 3, 1) := by decide +kernel
theorem dX3_giveAnew_36 : decode cX3_giveAnew 36 = .ok (.aload_n 0, 1) := by decide +kernel
theorem dX3_giveAnew_37 : decode cX3_giveAnew 37 = .ok (.aload_n 0, 1) := by decide +kernel
theorem dX3_giveAnew_38 : decode cX3_giveAnew 38 = .ok (.getfield 32, 3) := by decide +kernel
theorem dX3_giveAnew_41 : decode cX3_giveAnew 41 = .ok (.getfield 182, 3) := by decide +kernel
theorem dX3_giveAnew_44 : decode cX3_giveAnew 44 = .ok (.iload_n 3, 1) := by decide +kernel
theorem dX3_giveAnew_45 : decode cX3_giveAnew 45 = .ok (.iaload, 1) := by decide +kernel
theorem dX3_giveAnew_46 : decode cX3_giveAnew 46 = .ok (.aload_n 0, 1) := by decide +kernel
theorem dX3_giveAnew_47 : decode cX3_giveAnew 47 = .ok (.getfield 32, 3) := by decide +kernel
theorem dX3_giveAnew_50 : decode cX3_giveAnew 50 = .ok (.getfield 191, 3) := by decide +kernel
theorem dX3_giveAnew_53 : decode cX3_giveAnew 53 = .ok (.iload_n 3, 1) := by decide +kernel
theorem dX3_giveAnew_54 : decode cX3_giveAnew 54 = .ok (.iaload, 1) := by decide +kernel
theorem dX3_giveAnew_55 : decode cX3_giveAnew 55 = .ok (.invokevirtual 78, 3) := by decide +kernel
theorem dX3_giveAnew_58 : decode cX3_giveAnew 58 = .ok (.iastore, 1) := by decide +kernel
theorem dX3_giveAnew_59 : decode cX3_giveAnew 59 = .ok (.iload_n 2, 1) := by decide +kernel
theorem dX3_giveAnew_60 : decode cX3_giveAnew 60 = .ok (.aload_n 0, 1) := by decide +kernel
theorem dX3_giveAnew_61 : decode cX3_giveAnew 61 = .ok (.getfield 32, 3) := by decide +kernel
theorem dX3_giveAnew_64 : decode cX3_giveAnew 64 = .ok (.getfield 74, 3) := by decide +kernel
theorem dX3_giveAnew_67 : decode cX3_giveAnew 67 = .ok (.iload_n 3, 1) := by decide +kernel
theorem dX3_giveAnew_68 : decode cX3_giveAnew 68 = .ok (.iaload, 1) := by decide +kernel
theorem dX3_giveAnew_69 : decode cX3_giveAnew 69 = .ok (.iconst (-1), 1) := by decide +kernel
theorem dX3_giveAnew_70 : decode cX3_giveAnew 70 = .ok (.if_icmp .eq 7, 3) := by decide +kernel
theorem dX3_giveAnew_73 : decode cX3_giveAnew 73 = .ok (.iconst 1, 1) := by decide +kernel
theorem dX3_giveAnew_74 : decode cX3_giveAnew 74 = .ok (.goto 4, 3) := by decide +kernel
theorem dX3_giveAnew_77 : decode cX3_giveAnew 77 = .ok (.iconst 0, 1) := by decide +kernel
theorem dX3_giveAnew_78 : decode cX3_giveAnew 78 = .ok (.invokestatic 131, 3) := by decide +kernel
theorem dX3_giveAnew_81 : decode cX3_giveAnew 81 = .ok (.iadd, 1) := by decide +kernel
theorem dX3_giveAnew_82 : decode cX3_giveAnew 82 = .ok (.istore_n 2, 1) := by decide +kernel
theorem dX3_giveAnew_83 : decode cX3_giveAnew 83 = .ok (.iinc 3 1, 3) := by decide +kernel
theorem dX3_giveAnew_86 : decode cX3_giveAnew 86 = .ok (.goto (-82), 3) := by decide +kernel
theorem dX3_giveAnew_89 : decode cX3_giveAnew 89 = .ok (.iload_n 2, 1) := by decide +kernel
theorem dX3_giveAnew_90 : decode cX3_giveAnew 90 = .ok (.ireturn, 1) := by decide +kernel
set_option maxRecDepth 20000 in
theorem ggX3_passSecond_X3_doOneThing : GoodIn wsX3_passSecond wsX3_doOneThing := goodIn_r _ [7, 2, 8, 9, 10, 11, 12, 13, 14, 15, 16, 17, 18, 19, 20, 21, 6, 22, 23, 24, 25, 26, 27, 28, 29, 30, 31, 32, 33, 34, 35, 36, 37, 38, 39, 40, 41, 42, 43, 44, 45, 46, 1, 47, 48, 49, 50, 51, 52, 53, 54, 55, 56, 57, 58, 59, 60, 61, 62, 63, 64, 65, 66, 67, 68, 69, 70, 71, 72, 73, 74, 75, 76, 77, 78, 79, 80, 81, 82, 83, 84, 85, 86, 87, 88, 89, 90, 91, 92, 93, 94, 95, 96, 97, 98, 99, 100, 101, 102, 103, 104, 105, 106, 107, 108, 109, 110, 111, 112, 113] (by decide +kernel) (by decide +kernel)
set_option maxRecDepth 20000 in
theorem gX3_passSecond_X3_doOneThing : GoodIn wsX3_passSecond (wsV RX3 223 RX3 yX3_doOneThing wsX3_doOneThing) := goodIn_app (goodIn_of _ (by decide +kernel)) ggX3_passSecond_X3_doOneThing
theorem dX3_passSecond_0 : decode cX3_passSecond 0 = .ok (.aload_n 0, 1) := by decide +kernel
theorem dX3_passSecond_1 : decode cX3_passSecond 1 = .ok (.dup, 1) := by decide +kernel
theorem dX3_passSecond_2 : decode cX3_passSecond 2 = .ok (.getfield 43, 3) := by decide +kernel
theorem dX3_passSecond_5 : decode cX3_passSecond 5 = .ok (.iconst 1, 1) := by decide +kernel
theorem dX3_passSecond_6 : decode cX3_passSecond 6 = .ok (.iadd, 1) := by decide +kernel
theorem dX3_passSecond_7 : decode cX3_passSecond 7 = .ok (.putfield 43, 3) := by decide +kernel
theorem dX3_passSecond_10 : decode cX3_passSecond 10 = .ok (.iconst 0, 1) := by decide +kernel
theorem dX3_passSecond_11 : decode cX3_passSecond 11 = .ok (.istore_n 1, 1) := by decide +kernel
theorem dX3_passSecond_12 : decode cX3_passSecond 12 = .ok (.iload_n 1, 1) := by decide +kernel
theorem dX3_passSecond_13 : decode cX3_passSecond 13 = .ok (.aload_n 0, 1) := by decide +kernel
theorem dX3_passSecond_14 : decode cX3_passSecond 14 = .ok (.getfield 25, 3) := by decide +kernel
theorem dX3_passSecond_17 : decode cX3_passSecond 17 = .ok (.getfield 50, 3) := by decide +kernel
theorem dX3_passSecond_20 : decode cX3_passSecond 20 = .ok (.if_icmp .ge 26, 3) := by decide +kernel
theorem dX3_passSecond_23 : decode cX3_passSecond 23 = .ok (.aload_n 0, 1) := by decide +kernel
theorem dX3_passSecond_24 : decode cX3_passSecond 24 = .ok (.getfield 25, 3) := by decide +kernel
theorem dX3_passSecond_27 : decode cX3_passSecond 27 = .ok (.getfield 127, 3) := by decide +kernel
theorem dX3_passSecond_30 : decode cX3_passSecond 30 = .ok (.iload_n 1, 1) := by decide +kernel
theorem dX3_passSecond_31 : decode cX3_passSecond 31 = .ok (.baload, 1) := by decide +kernel
theorem dX3_passSecond_32 : decode cX3_passSecond 32 = .ok (.ifCond .ne 8, 3) := by decide +kernel
theorem dX3_passSecond_35 : decode cX3_passSecond 35 = .ok (.aload_n 0, 1) := by decide +kernel
theorem dX3_passSecond_36 : decode cX3_passSecond 36 = .ok (.iload_n 1, 1) := by decide +kernel
theorem dX3_passSecond_37 : decode cX3_passSecond 37 = .ok (.invokevirtual 223, 3) := by decide +kernel
theorem dX3_passSecond_40 : decode cX3_passSecond 40 = .ok (.iinc 1 1, 3) := by decide +kernel
theorem dX3_passSecond_43 : decode cX3_passSecond 43 = .ok (.goto (-31), 3) := by decide +kernel
theorem dX3_passSecond_46 : decode cX3_passSecond 46 = .ok (.return_, 1) := by decide +kernel
set_option maxRecDepth 20000 in
theorem ggX3_doOneThing_X2_passOpenSecond : GoodIn wsX3_doOneThing wsX2_passOpenSecond := goodIn_r _ [6, 7, 8, 9, 10, 11, 12, 86, 87, 88, 89, 90, 91, 92, 93, 94] (by decide +kernel) (by decide +kernel)
set_option maxRecDepth 20000 in
theorem gX3_doOneThing_X2_passOpenSecond_n226 : GoodIn wsX3_doOneThing (wsX2_passOpenSecond) := ggX3_doOneThing_X2_passOpenSecond
set_option maxRecDepth 20000 in
theorem ggX3_doOneThing_X3_opensHere : GoodIn wsX3_doOneThing wsX3_opensHere := goodIn_r _ [17, 1, 2, 18, 19, 20, 21, 22, 23, 24, 25, 26, 27, 28, 29, 30, 31, 32, 33, 34, 35, 36, 37, 81, 82, 83, 84, 85, 86, 87, 88, 89, 90, 91, 92, 93, 94, 95, 96, 97, 98, 99, 100, 101, 102, 103, 104] (by decide +kernel) (by decide +kernel)
set_option maxRecDepth 20000 in
theorem gX3_doOneThing_X3_opensHere : GoodIn wsX3_doOneThing (wsV RX3 229 RX3 yX3_opensHere wsX3_opensHere) := goodIn_app (goodIn_of _ (by decide +kernel)) ggX3_doOneThing_X3_opensHere
set_option maxRecDepth 20000 in
theorem ggX3_doOneThing_X3_letOut : GoodIn wsX3_doOneThing wsX3_letOut := goodIn_r _ [41, 2, 1, 42, 43, 31, 19, 32, 33, 23, 25, 26, 27, 28, 29, 30, 44, 45, 46, 47, 48, 49, 50, 51, 52, 81, 82, 83, 84, 85, 95, 96, 97, 98, 99, 100, 101, 102, 103, 104, 86, 87, 88, 89, 90, 91, 92, 93, 94, 105, 106, 107, 108, 109] (by decide +kernel) (by decide +kernel)
set_option maxRecDepth 20000 in
theorem gX3_doOneThing_X3_letOut : GoodIn wsX3_doOneThing (wsV RX3 233 RX3 yX3_letOut wsX3_letOut) := goodIn_app (goodIn_of _ (by decide +kernel)) ggX3_doOneThing_X3_letOut
set_option maxRecDepth 20000 in
theorem ggX3_doOneThing_X3_letIn : GoodIn wsX3_doOneThing wsX3_letIn := goodIn_r _ [56, 1, 2, 42, 43, 57, 19, 58, 59, 60, 18, 20, 21, 22, 23, 24, 25, 26, 27, 28, 29, 30, 34, 35, 36, 37, 44, 45, 46, 47, 48, 49, 50, 51, 52, 81, 82, 83, 84, 85, 86, 87, 88, 89, 90, 91, 92, 93, 94, 95, 96, 97, 98, 99, 100, 101, 102, 103, 104, 105, 106, 107, 108, 109] (by decide +kernel) (by decide +kernel)
set_option maxRecDepth 20000 in
theorem gX3_doOneThing_X3_letIn : GoodIn wsX3_doOneThing (wsV RX3 236 RX3 yX3_letIn wsX3_letIn) := goodIn_app (goodIn_of _ (by decide +kernel)) ggX3_doOneThing_X3_letIn
set_option maxRecDepth 20000 in
theorem ggX3_doOneThing_X0_hasWork : GoodIn wsX3_doOneThing wsX0_hasWork := goodIn_r _ [63, 64, 65, 66, 19, 67, 22, 25, 26, 27, 28, 29, 30, 68, 69, 70, 71, 37, 23, 95, 96, 97, 98, 99, 100, 101, 102, 103, 104] (by decide +kernel) (by decide +kernel)
set_option maxRecDepth 20000 in
theorem gX3_doOneThing_X0_hasWork_n239 : GoodIn wsX3_doOneThing (wsX0_hasWork) := ggX3_doOneThing_X0_hasWork
set_option maxRecDepth 20000 in
theorem ggX3_doOneThing_X2_go : GoodIn wsX3_doOneThing wsX2_go := goodIn_r _ [74, 75, 76, 77, 78, 79, 11, 80, 86, 87, 88, 89, 90, 91, 92, 93, 94] (by decide +kernel) (by decide +kernel)
set_option maxRecDepth 20000 in
theorem gX3_doOneThing_X2_go_n242 : GoodIn wsX3_doOneThing (wsX2_go) := ggX3_doOneThing_X2_go
theorem dX3_doOneThing_0 : decode cX3_doOneThing 0 = .ok (.aload_n 0, 1) := by decide +kernel
theorem dX3_doOneThing_1 : decode cX3_doOneThing 1 = .ok (.getfield 25, 3) := by decide +kernel
theorem dX3_doOneThing_4 : decode cX3_doOneThing 4 = .ok (.getfield 121, 3) := by decide +kernel
theorem dX3_doOneThing_7 : decode cX3_doOneThing 7 = .ok (.iload_n 1, 1) := by decide +kernel
theorem dX3_doOneThing_8 : decode cX3_doOneThing 8 = .ok (.iaload, 1) := by decide +kernel
theorem dX3_doOneThing_9 : decode cX3_doOneThing 9 = .ok (.ifCond .le 14, 3) := by decide +kernel
theorem dX3_doOneThing_12 : decode cX3_doOneThing 12 = .ok (.aload_n 0, 1) := by decide +kernel
theorem dX3_doOneThing_13 : decode cX3_doOneThing 13 = .ok (.getfield 25, 3) := by decide +kernel
theorem dX3_doOneThing_16 : decode cX3_doOneThing 16 = .ok (.iload_n 1, 1) := by decide +kernel
theorem dX3_doOneThing_17 : decode cX3_doOneThing 17 = .ok (.invokevirtual 226, 3) := by decide +kernel
theorem dX3_doOneThing_20 : decode cX3_doOneThing 20 = .ok (.goto 82, 3) := by decide +kernel
theorem dX3_doOneThing_23 : decode cX3_doOneThing 23 = .ok (.aload_n 0, 1) := by decide +kernel
theorem dX3_doOneThing_24 : decode cX3_doOneThing 24 = .ok (.iload_n 1, 1) := by decide +kernel
theorem dX3_doOneThing_25 : decode cX3_doOneThing 25 = .ok (.invokevirtual 229, 3) := by decide +kernel
theorem dX3_doOneThing_28 : decode cX3_doOneThing 28 = .ok (.ifCond .eq 26, 3) := by decide +kernel
theorem dX3_doOneThing_31 : decode cX3_doOneThing 31 = .ok (.aload_n 0, 1) := by decide +kernel
theorem dX3_doOneThing_32 : decode cX3_doOneThing 32 = .ok (.iload_n 1, 1) := by decide +kernel
theorem dX3_doOneThing_33 : decode cX3_doOneThing 33 = .ok (.invokevirtual 233, 3) := by decide +kernel
theorem dX3_doOneThing_36 : decode cX3_doOneThing 36 = .ok (.aload_n 0, 1) := by decide +kernel
theorem dX3_doOneThing_37 : decode cX3_doOneThing 37 = .ok (.iload_n 1, 1) := by decide +kernel
theorem dX3_doOneThing_38 : decode cX3_doOneThing 38 = .ok (.invokevirtual 236, 3) := by decide +kernel
theorem dX3_doOneThing_41 : decode cX3_doOneThing 41 = .ok (.aload_n 0, 1) := by decide +kernel
theorem dX3_doOneThing_42 : decode cX3_doOneThing 42 = .ok (.getfield 25, 3) := by decide +kernel
theorem dX3_doOneThing_45 : decode cX3_doOneThing 45 = .ok (.getfield 121, 3) := by decide +kernel
theorem dX3_doOneThing_48 : decode cX3_doOneThing 48 = .ok (.iload_n 1, 1) := by decide +kernel
theorem dX3_doOneThing_49 : decode cX3_doOneThing 49 = .ok (.iconst 3, 1) := by decide +kernel
theorem dX3_doOneThing_50 : decode cX3_doOneThing 50 = .ok (.iastore, 1) := by decide +kernel
theorem dX3_doOneThing_51 : decode cX3_doOneThing 51 = .ok (.goto 51, 3) := by decide +kernel
theorem dX3_doOneThing_54 : decode cX3_doOneThing 54 = .ok (.aload_n 0, 1) := by decide +kernel
theorem dX3_doOneThing_55 : decode cX3_doOneThing 55 = .ok (.getfield 32, 3) := by decide +kernel
theorem dX3_doOneThing_58 : decode cX3_doOneThing 58 = .ok (.iload_n 1, 1) := by decide +kernel
theorem dX3_doOneThing_59 : decode cX3_doOneThing 59 = .ok (.aload_n 0, 1) := by decide +kernel
theorem dX3_doOneThing_60 : decode cX3_doOneThing 60 = .ok (.getfield 25, 3) := by decide +kernel
theorem dX3_doOneThing_63 : decode cX3_doOneThing 63 = .ok (.getfield 111, 3) := by decide +kernel
theorem dX3_doOneThing_66 : decode cX3_doOneThing 66 = .ok (.iload_n 1, 1) := by decide +kernel
theorem dX3_doOneThing_67 : decode cX3_doOneThing 67 = .ok (.iaload, 1) := by decide +kernel
theorem dX3_doOneThing_68 : decode cX3_doOneThing 68 = .ok (.iconst 1, 1) := by decide +kernel
theorem dX3_doOneThing_69 : decode cX3_doOneThing 69 = .ok (.invokevirtual 239, 3) := by decide +kernel
theorem dX3_doOneThing_72 : decode cX3_doOneThing 72 = .ok (.istore_n 2, 1) := by decide +kernel
theorem dX3_doOneThing_73 : decode cX3_doOneThing 73 = .ok (.aload_n 0, 1) := by decide +kernel
theorem dX3_doOneThing_74 : decode cX3_doOneThing 74 = .ok (.getfield 32, 3) := by decide +kernel
theorem dX3_doOneThing_77 : decode cX3_doOneThing 77 = .ok (.iload_n 1, 1) := by decide +kernel
theorem dX3_doOneThing_78 : decode cX3_doOneThing 78 = .ok (.aload_n 0, 1) := by decide +kernel
theorem dX3_doOneThing_79 : decode cX3_doOneThing 79 = .ok (.getfield 25, 3) := by decide +kernel
theorem dX3_doOneThing_82 : decode cX3_doOneThing 82 = .ok (.getfield 111, 3) := by decide +kernel
theorem dX3_doOneThing_85 : decode cX3_doOneThing 85 = .ok (.iload_n 1, 1) := by decide +kernel
theorem dX3_doOneThing_86 : decode cX3_doOneThing 86 = .ok (.iaload, 1) := by decide +kernel
theorem dX3_doOneThing_87 : decode cX3_doOneThing 87 = .ok (.iconst (-1), 1) := by decide +kernel
theorem dX3_doOneThing_88 : decode cX3_doOneThing 88 = .ok (.invokevirtual 239, 3) := by decide +kernel
theorem dX3_doOneThing_91 : decode cX3_doOneThing 91 = .ok (.istore_n 3, 1) := by decide +kernel
theorem dX3_doOneThing_92 : decode cX3_doOneThing 92 = .ok (.aload_n 0, 1) := by decide +kernel
theorem dX3_doOneThing_93 : decode cX3_doOneThing 93 = .ok (.getfield 25, 3) := by decide +kernel
theorem dX3_doOneThing_96 : decode cX3_doOneThing 96 = .ok (.iload_n 1, 1) := by decide +kernel
theorem dX3_doOneThing_97 : decode cX3_doOneThing 97 = .ok (.iload_n 2, 1) := by decide +kernel
theorem dX3_doOneThing_98 : decode cX3_doOneThing 98 = .ok (.iload_n 3, 1) := by decide +kernel
theorem dX3_doOneThing_99 : decode cX3_doOneThing 99 = .ok (.invokevirtual 242, 3) := by decide +kernel
theorem dX3_doOneThing_102 : decode cX3_doOneThing 102 = .ok (.return_, 1) := by decide +kernel
set_option maxRecDepth 20000 in
theorem ggX3_opensHere_X0_loadStaying : GoodIn wsX3_opensHere wsX0_loadStaying := goodIn_r _ [6, 7, 8, 9, 10, 11, 12, 4, 13, 14, 15, 37, 38, 39, 40, 41, 42, 43, 44, 45, 46] (by decide +kernel) (by decide +kernel)
set_option maxRecDepth 20000 in
theorem gX3_opensHere_X0_loadStaying_n249 : GoodIn wsX3_opensHere (wsX0_loadStaying) := ggX3_opensHere_X0_loadStaying
set_option maxRecDepth 20000 in
theorem ggX3_opensHere_X0_getsOut : GoodIn wsX3_opensHere wsX0_getsOut := goodIn_r _ [18, 8, 10, 11, 12, 4, 13, 14, 15, 37, 38, 39, 40, 41, 42, 43, 44, 45, 46] (by decide +kernel) (by decide +kernel)
set_option maxRecDepth 20000 in
theorem gX3_opensHere_X0_getsOut_n252 : GoodIn wsX3_opensHere (wsX0_getsOut) := ggX3_opensHere_X0_getsOut
set_option maxRecDepth 20000 in
theorem ggX3_opensHere_X0_fitsIn : GoodIn wsX3_opensHere wsX0_fitsIn := goodIn_r _ [21, 22, 9, 10, 11, 12, 4, 13, 14, 15, 37, 38, 39, 40, 41, 42, 43, 44, 45, 46] (by decide +kernel) (by decide +kernel)
set_option maxRecDepth 20000 in
theorem gX3_opensHere_X0_fitsIn_n255 : GoodIn wsX3_opensHere (wsX0_fitsIn) := ggX3_opensHere_X0_fitsIn
theorem dX3_opensHere_0 : decode cX3_opensHere 0 = .ok (.aload_n 0, 1) := by decide +kernel
theorem dX3_opensHere_1 : decode cX3_opensHere 1 = .ok (.getfield 25, 3) := by decide +kernel
theorem dX3_opensHere_4 : decode cX3_opensHere 4 = .ok (.getfield 111, 3) := by decide +kernel
theorem dX3_opensHere_7 : decode cX3_opensHere 7 = .ok (.iload_n 1, 1) := by decide +kernel
theorem dX3_opensHere_8 : decode cX3_opensHere 8 = .ok (.iaload, 1) := by decide +kernel
theorem dX3_opensHere_9 : decode cX3_opensHere 9 = .ok (.istore_n 2, 1) := by decide +kernel
theorem dX3_opensHere_10 : decode cX3_opensHere 10 = .ok (.aload_n 0, 1) := by decide +kernel
theorem dX3_opensHere_11 : decode cX3_opensHere 11 = .ok (.getfield 25, 3) := by decide +kernel
theorem dX3_opensHere_14 : decode cX3_opensHere 14 = .ok (.getfield 246, 3) := by decide +kernel
theorem dX3_opensHere_17 : decode cX3_opensHere 17 = .ok (.iload_n 1, 1) := by decide +kernel
theorem dX3_opensHere_18 : decode cX3_opensHere 18 = .ok (.iaload, 1) := by decide +kernel
theorem dX3_opensHere_19 : decode cX3_opensHere 19 = .ok (.aload_n 0, 1) := by decide +kernel
theorem dX3_opensHere_20 : decode cX3_opensHere 20 = .ok (.getfield 32, 3) := by decide +kernel
theorem dX3_opensHere_23 : decode cX3_opensHere 23 = .ok (.iload_n 1, 1) := by decide +kernel
theorem dX3_opensHere_24 : decode cX3_opensHere 24 = .ok (.iload_n 2, 1) := by decide +kernel
theorem dX3_opensHere_25 : decode cX3_opensHere 25 = .ok (.invokevirtual 249, 3) := by decide +kernel
theorem dX3_opensHere_28 : decode cX3_opensHere 28 = .ok (.isub, 1) := by decide +kernel
theorem dX3_opensHere_29 : decode cX3_opensHere 29 = .ok (.istore_n 3, 1) := by decide +kernel
theorem dX3_opensHere_30 : decode cX3_opensHere 30 = .ok (.iconst 0, 1) := by decide +kernel
theorem dX3_opensHere_31 : decode cX3_opensHere 31 = .ok (.istore 4, 2) := by decide +kernel
theorem dX3_opensHere_33 : decode cX3_opensHere 33 = .ok (.iload 4, 2) := by decide +kernel
theorem dX3_opensHere_35 : decode cX3_opensHere 35 = .ok (.aload_n 0, 1) := by decide +kernel
theorem dX3_opensHere_36 : decode cX3_opensHere 36 = .ok (.getfield 32, 3) := by decide +kernel
theorem dX3_opensHere_39 : decode cX3_opensHere 39 = .ok (.getfield 68, 3) := by decide +kernel
theorem dX3_opensHere_42 : decode cX3_opensHere 42 = .ok (.if_icmp .ge 40, 3) := by decide +kernel
theorem dX3_opensHere_45 : decode cX3_opensHere 45 = .ok (.aload_n 0, 1) := by decide +kernel
theorem dX3_opensHere_46 : decode cX3_opensHere 46 = .ok (.getfield 32, 3) := by decide +kernel
theorem dX3_opensHere_49 : decode cX3_opensHere 49 = .ok (.iload 4, 2) := by decide +kernel
theorem dX3_opensHere_51 : decode cX3_opensHere 51 = .ok (.iload_n 1, 1) := by decide +kernel
theorem dX3_opensHere_52 : decode cX3_opensHere 52 = .ok (.iload_n 2, 1) := by decide +kernel
theorem dX3_opensHere_53 : decode cX3_opensHere 53 = .ok (.invokevirtual 252, 3) := by decide +kernel
theorem dX3_opensHere_56 : decode cX3_opensHere 56 = .ok (.ifCond .ne 18, 3) := by decide +kernel
theorem dX3_opensHere_59 : decode cX3_opensHere 59 = .ok (.aload_n 0, 1) := by decide +kernel
theorem dX3_opensHere_60 : decode cX3_opensHere 60 = .ok (.getfield 32, 3) := by decide +kernel
theorem dX3_opensHere_63 : decode cX3_opensHere 63 = .ok (.iload 4, 2) := by decide +kernel
theorem dX3_opensHere_65 : decode cX3_opensHere 65 = .ok (.iload_n 1, 1) := by decide +kernel
theorem dX3_opensHere_66 : decode cX3_opensHere 66 = .ok (.iload_n 2, 1) := by decide +kernel
theorem dX3_opensHere_67 : decode cX3_opensHere 67 = .ok (.iload_n 3, 1) := by decide +kernel
theorem dX3_opensHere_68 : decode cX3_opensHere 68 = .ok (.invokevirtual 255, 3) := by decide +kernel
theorem dX3_opensHere_71 : decode cX3_opensHere 71 = .ok (.ifCond .eq 5, 3) := by decide +kernel
theorem dX3_opensHere_74 : decode cX3_opensHere 74 = .ok (.iconst 1, 1) := by decide +kernel
theorem dX3_opensHere_75 : decode cX3_opensHere 75 = .ok (.ireturn, 1) := by decide +kernel
theorem dX3_opensHere_76 : decode cX3_opensHere 76 = .ok (.iinc 4 1, 3) := by decide +kernel
theorem dX3_opensHere_79 : decode cX3_opensHere 79 = .ok (.goto (-46), 3) := by decide +kernel
theorem dX3_opensHere_82 : decode cX3_opensHere 82 = .ok (.iconst 0, 1) := by decide +kernel
theorem dX3_opensHere_83 : decode cX3_opensHere 83 = .ok (.ireturn, 1) := by decide +kernel
set_option maxRecDepth 20000 in
theorem ggX3_letOut_X0_getsOut : GoodIn wsX3_letOut wsX0_getsOut := goodIn_r _ [8, 9, 10, 11, 12, 6, 13, 14, 15, 30, 31, 32, 33, 34, 35, 36, 37, 38, 39] (by decide +kernel) (by decide +kernel)
set_option maxRecDepth 20000 in
theorem gX3_letOut_X0_getsOut_n252 : GoodIn wsX3_letOut (wsX0_getsOut) := ggX3_letOut_X0_getsOut
set_option maxRecDepth 20000 in
theorem ggX3_letOut_X1_add : GoodIn wsX3_letOut wsX1_add := goodIn_r _ [19, 20, 21, 22, 23, 24, 49, 50, 51, 52, 53] (by decide +kernel) (by decide +kernel)
set_option maxRecDepth 20000 in
theorem gX3_letOut_X1_add_n259 : GoodIn wsX3_letOut (wsX1_add) := ggX3_letOut_X1_add
theorem dX3_letOut_0 : decode cX3_letOut 0 = .ok (.iconst 0, 1) := by decide +kernel
theorem dX3_letOut_1 : decode cX3_letOut 1 = .ok (.istore_n 2, 1) := by decide +kernel
theorem dX3_letOut_2 : decode cX3_letOut 2 = .ok (.iload_n 2, 1) := by decide +kernel
theorem dX3_letOut_3 : decode cX3_letOut 3 = .ok (.aload_n 0, 1) := by decide +kernel
theorem dX3_letOut_4 : decode cX3_letOut 4 = .ok (.getfield 32, 3) := by decide +kernel
theorem dX3_letOut_7 : decode cX3_letOut 7 = .ok (.getfield 68, 3) := by decide +kernel
theorem dX3_letOut_10 : decode cX3_letOut 10 = .ok (.if_icmp .ge 67, 3) := by decide +kernel
theorem dX3_letOut_13 : decode cX3_letOut 13 = .ok (.aload_n 0, 1) := by decide +kernel
theorem dX3_letOut_14 : decode cX3_letOut 14 = .ok (.getfield 32, 3) := by decide +kernel
theorem dX3_letOut_17 : decode cX3_letOut 17 = .ok (.iload_n 2, 1) := by decide +kernel
theorem dX3_letOut_18 : decode cX3_letOut 18 = .ok (.iload_n 1, 1) := by decide +kernel
theorem dX3_letOut_19 : decode cX3_letOut 19 = .ok (.aload_n 0, 1) := by decide +kernel
theorem dX3_letOut_20 : decode cX3_letOut 20 = .ok (.getfield 25, 3) := by decide +kernel
theorem dX3_letOut_23 : decode cX3_letOut 23 = .ok (.getfield 111, 3) := by decide +kernel
theorem dX3_letOut_26 : decode cX3_letOut 26 = .ok (.iload_n 1, 1) := by decide +kernel
theorem dX3_letOut_27 : decode cX3_letOut 27 = .ok (.iaload, 1) := by decide +kernel
theorem dX3_letOut_28 : decode cX3_letOut 28 = .ok (.invokevirtual 252, 3) := by decide +kernel
theorem dX3_letOut_31 : decode cX3_letOut 31 = .ok (.ifCond .eq 40, 3) := by decide +kernel
theorem dX3_letOut_34 : decode cX3_letOut 34 = .ok (.aload_n 0, 1) := by decide +kernel
theorem dX3_letOut_35 : decode cX3_letOut 35 = .ok (.getfield 32, 3) := by decide +kernel
theorem dX3_letOut_38 : decode cX3_letOut 38 = .ok (.getfield 159, 3) := by decide +kernel
theorem dX3_letOut_41 : decode cX3_letOut 41 = .ok (.iload_n 2, 1) := by decide +kernel
theorem dX3_letOut_42 : decode cX3_letOut 42 = .ok (.iconst 2, 1) := by decide +kernel
theorem dX3_letOut_43 : decode cX3_letOut 43 = .ok (.iastore, 1) := by decide +kernel
theorem dX3_letOut_44 : decode cX3_letOut 44 = .ok (.aload_n 0, 1) := by decide +kernel
theorem dX3_letOut_45 : decode cX3_letOut 45 = .ok (.getfield 32, 3) := by decide +kernel
theorem dX3_letOut_48 : decode cX3_letOut 48 = .ok (.getfield 156, 3) := by decide +kernel
theorem dX3_letOut_51 : decode cX3_letOut 51 = .ok (.iload_n 2, 1) := by decide +kernel
theorem dX3_letOut_52 : decode cX3_letOut 52 = .ok (.aload_n 0, 1) := by decide +kernel
theorem dX3_letOut_53 : decode cX3_letOut 53 = .ok (.getfield 43, 3) := by decide +kernel
theorem dX3_letOut_56 : decode cX3_letOut 56 = .ok (.iastore, 1) := by decide +kernel
theorem dX3_letOut_57 : decode cX3_letOut 57 = .ok (.aload_n 0, 1) := by decide +kernel
theorem dX3_letOut_58 : decode cX3_letOut 58 = .ok (.getfield 39, 3) := by decide +kernel
theorem dX3_letOut_61 : decode cX3_letOut 61 = .ok (.aload_n 0, 1) := by decide +kernel
theorem dX3_letOut_62 : decode cX3_letOut 62 = .ok (.getfield 43, 3) := by decide +kernel
theorem dX3_letOut_65 : decode cX3_letOut 65 = .ok (.iload_n 1, 1) := by decide +kernel
theorem dX3_letOut_66 : decode cX3_letOut 66 = .ok (.iload_n 2, 1) := by decide +kernel
theorem dX3_letOut_67 : decode cX3_letOut 67 = .ok (.iconst 1, 1) := by decide +kernel
theorem dX3_letOut_68 : decode cX3_letOut 68 = .ok (.invokevirtual 259, 3) := by decide +kernel
theorem dX3_letOut_71 : decode cX3_letOut 71 = .ok (.iinc 2 1, 3) := by decide +kernel
theorem dX3_letOut_74 : decode cX3_letOut 74 = .ok (.goto (-72), 3) := by decide +kernel
theorem dX3_letOut_77 : decode cX3_letOut 77 = .ok (.return_, 1) := by decide +kernel
set_option maxRecDepth 20000 in
theorem ggX3_letIn_X0_loadAboard : GoodIn wsX3_letIn wsX0_loadAboard := goodIn_r _ [8, 9, 10, 11, 6, 12, 13, 14, 15, 16, 17, 18, 19, 20, 21, 49, 50, 51, 52, 53, 54, 55, 56, 57, 58] (by decide +kernel) (by decide +kernel)
set_option maxRecDepth 20000 in
theorem gX3_letIn_X0_loadAboard_n114 : GoodIn wsX3_letIn (wsX0_loadAboard) := ggX3_letIn_X0_loadAboard
set_option maxRecDepth 20000 in
theorem ggX3_letIn_X0_fitsIn : GoodIn wsX3_letIn wsX0_fitsIn := goodIn_r _ [24, 25, 15, 16, 17, 18, 6, 19, 20, 21, 49, 50, 51, 52, 53, 54, 55, 56, 57, 58] (by decide +kernel) (by decide +kernel)
set_option maxRecDepth 20000 in
theorem gX3_letIn_X0_fitsIn_n255 : GoodIn wsX3_letIn (wsX0_fitsIn) := ggX3_letIn_X0_fitsIn
set_option maxRecDepth 20000 in
theorem ggX3_letIn_X1_add : GoodIn wsX3_letIn wsX1_add := goodIn_r _ [29, 30, 31, 32, 33, 34, 59, 60, 61, 62, 63] (by decide +kernel) (by decide +kernel)
set_option maxRecDepth 20000 in
theorem gX3_letIn_X1_add_n259 : GoodIn wsX3_letIn (wsX1_add) := ggX3_letIn_X1_add
theorem dX3_letIn_0 : decode cX3_letIn 0 = .ok (.aload_n 0, 1) := by decide +kernel
theorem dX3_letIn_1 : decode cX3_letIn 1 = .ok (.getfield 25, 3) := by decide +kernel
theorem dX3_letIn_4 : decode cX3_letIn 4 = .ok (.getfield 246, 3) := by decide +kernel
theorem dX3_letIn_7 : decode cX3_letIn 7 = .ok (.iload_n 1, 1) := by decide +kernel
theorem dX3_letIn_8 : decode cX3_letIn 8 = .ok (.iaload, 1) := by decide +kernel
theorem dX3_letIn_9 : decode cX3_letIn 9 = .ok (.aload_n 0, 1) := by decide +kernel
theorem dX3_letIn_10 : decode cX3_letIn 10 = .ok (.getfield 32, 3) := by decide +kernel
theorem dX3_letIn_13 : decode cX3_letIn 13 = .ok (.iload_n 1, 1) := by decide +kernel
theorem dX3_letIn_14 : decode cX3_letIn 14 = .ok (.invokevirtual 114, 3) := by decide +kernel
theorem dX3_letIn_17 : decode cX3_letIn 17 = .ok (.isub, 1) := by decide +kernel
theorem dX3_letIn_18 : decode cX3_letIn 18 = .ok (.istore_n 2, 1) := by decide +kernel
theorem dX3_letIn_19 : decode cX3_letIn 19 = .ok (.iconst 1, 1) := by decide +kernel
theorem dX3_letIn_20 : decode cX3_letIn 20 = .ok (.istore_n 3, 1) := by decide +kernel
theorem dX3_letIn_21 : decode cX3_letIn 21 = .ok (.iload_n 3, 1) := by decide +kernel
theorem dX3_letIn_22 : decode cX3_letIn 22 = .ok (.iconst 3, 1) := by decide +kernel
theorem dX3_letIn_23 : decode cX3_letIn 23 = .ok (.if_icmp .gt 120, 3) := by decide +kernel
theorem dX3_letIn_26 : decode cX3_letIn 26 = .ok (.iconst 0, 1) := by decide +kernel
theorem dX3_letIn_27 : decode cX3_letIn 27 = .ok (.istore 4, 2) := by decide +kernel
theorem dX3_letIn_29 : decode cX3_letIn 29 = .ok (.iload 4, 2) := by decide +kernel
theorem dX3_letIn_31 : decode cX3_letIn 31 = .ok (.aload_n 0, 1) := by decide +kernel
theorem dX3_letIn_32 : decode cX3_letIn 32 = .ok (.getfield 32, 3) := by decide +kernel
theorem dX3_letIn_35 : decode cX3_letIn 35 = .ok (.getfield 68, 3) := by decide +kernel
theorem dX3_letIn_38 : decode cX3_letIn 38 = .ok (.if_icmp .ge 99, 3) := by decide +kernel
theorem dX3_letIn_41 : decode cX3_letIn 41 = .ok (.aload_n 0, 1) := by decide +kernel
theorem dX3_letIn_42 : decode cX3_letIn 42 = .ok (.getfield 32, 3) := by decide +kernel
theorem dX3_letIn_45 : decode cX3_letIn 45 = .ok (.getfield 188, 3) := by decide +kernel
theorem dX3_letIn_48 : decode cX3_letIn 48 = .ok (.iload 4, 2) := by decide +kernel
theorem dX3_letIn_50 : decode cX3_letIn 50 = .ok (.iaload, 1) := by decide +kernel
theorem dX3_letIn_51 : decode cX3_letIn 51 = .ok (.iload_n 3, 1) := by decide +kernel
theorem dX3_letIn_52 : decode cX3_letIn 52 = .ok (.if_icmp .ne 79, 3) := by decide +kernel
theorem dX3_letIn_55 : decode cX3_letIn 55 = .ok (.aload_n 0, 1) := by decide +kernel
theorem dX3_letIn_56 : decode cX3_letIn 56 = .ok (.getfield 32, 3) := by decide +kernel
theorem dX3_letIn_59 : decode cX3_letIn 59 = .ok (.iload 4, 2) := by decide +kernel
theorem dX3_letIn_61 : decode cX3_letIn 61 = .ok (.iload_n 1, 1) := by decide +kernel
theorem dX3_letIn_62 : decode cX3_letIn 62 = .ok (.aload_n 0, 1) := by decide +kernel
theorem dX3_letIn_63 : decode cX3_letIn 63 = .ok (.getfield 25, 3) := by decide +kernel
theorem dX3_letIn_66 : decode cX3_letIn 66 = .ok (.getfield 111, 3) := by decide +kernel
theorem dX3_letIn_69 : decode cX3_letIn 69 = .ok (.iload_n 1, 1) := by decide +kernel
theorem dX3_letIn_70 : decode cX3_letIn 70 = .ok (.iaload, 1) := by decide +kernel
theorem dX3_letIn_71 : decode cX3_letIn 71 = .ok (.iload_n 2, 1) := by decide +kernel
theorem dX3_letIn_72 : decode cX3_letIn 72 = .ok (.invokevirtual 255, 3) := by decide +kernel
theorem dX3_letIn_75 : decode cX3_letIn 75 = .ok (.ifCond .eq 56, 3) := by decide +kernel
theorem dX3_letIn_78 : decode cX3_letIn 78 = .ok (.aload_n 0, 1) := by decide +kernel
theorem dX3_letIn_79 : decode cX3_letIn 79 = .ok (.getfield 32, 3) := by decide +kernel
theorem dX3_letIn_82 : decode cX3_letIn 82 = .ok (.getfield 159, 3) := by decide +kernel
theorem dX3_letIn_85 : decode cX3_letIn 85 = .ok (.iload 4, 2) := by decide +kernel
theorem dX3_letIn_87 : decode cX3_letIn 87 = .ok (.iconst 1, 1) := by decide +kernel
theorem dX3_letIn_88 : decode cX3_letIn 88 = .ok (.iastore, 1) := by decide +kernel
theorem dX3_letIn_89 : decode cX3_letIn 89 = .ok (.aload_n 0, 1) := by decide +kernel
theorem dX3_letIn_90 : decode cX3_letIn 90 = .ok (.getfield 32, 3) := by decide +kernel
theorem dX3_letIn_93 : decode cX3_letIn 93 = .ok (.getfield 162, 3) := by decide +kernel
theorem dX3_letIn_96 : decode cX3_letIn 96 = .ok (.iload 4, 2) := by decide +kernel
theorem dX3_letIn_98 : decode cX3_letIn 98 = .ok (.aload_n 0, 1) := by decide +kernel
theorem dX3_letIn_99 : decode cX3_letIn 99 = .ok (.getfield 43, 3) := by decide +kernel
theorem dX3_letIn_102 : decode cX3_letIn 102 = .ok (.iastore, 1) := by decide +kernel
theorem dX3_letIn_103 : decode cX3_letIn 103 = .ok (.aload_n 0, 1) := by decide +kernel
theorem dX3_letIn_104 : decode cX3_letIn 104 = .ok (.getfield 39, 3) := by decide +kernel
theorem dX3_letIn_107 : decode cX3_letIn 107 = .ok (.aload_n 0, 1) := by decide +kernel
theorem dX3_letIn_108 : decode cX3_letIn 108 = .ok (.getfield 43, 3) := by decide +kernel
theorem dX3_letIn_111 : decode cX3_letIn 111 = .ok (.iload_n 1, 1) := by decide +kernel
theorem dX3_letIn_112 : decode cX3_letIn 112 = .ok (.iload 4, 2) := by decide +kernel
theorem dX3_letIn_114 : decode cX3_letIn 114 = .ok (.iconst 0, 1) := by decide +kernel
theorem dX3_letIn_115 : decode cX3_letIn 115 = .ok (.invokevirtual 259, 3) := by decide +kernel
theorem dX3_letIn_118 : decode cX3_letIn 118 = .ok (.iload_n 2, 1) := by decide +kernel
theorem dX3_letIn_119 : decode cX3_letIn 119 = .ok (.aload_n 0, 1) := by decide +kernel
theorem dX3_letIn_120 : decode cX3_letIn 120 = .ok (.getfield 32, 3) := by decide +kernel
theorem dX3_letIn_123 : decode cX3_letIn 123 = .ok (.getfield 191, 3) := by decide +kernel
theorem dX3_letIn_126 : decode cX3_letIn 126 = .ok (.iload 4, 2) := by decide +kernel
theorem dX3_letIn_128 : decode cX3_letIn 128 = .ok (.iaload, 1) := by decide +kernel
theorem dX3_letIn_129 : decode cX3_letIn 129 = .ok (.isub, 1) := by decide +kernel
theorem dX3_letIn_130 : decode cX3_letIn 130 = .ok (.istore_n 2, 1) := by decide +kernel
theorem dX3_letIn_131 : decode cX3_letIn 131 = .ok (.iinc 4 1, 3) := by decide +kernel
theorem dX3_letIn_134 : decode cX3_letIn 134 = .ok (.goto (-105), 3) := by decide +kernel
theorem dX3_letIn_137 : decode cX3_letIn 137 = .ok (.iinc 3 1, 3) := by decide +kernel
theorem dX3_letIn_140 : decode cX3_letIn 140 = .ok (.goto (-119), 3) := by decide +kernel
theorem dX3_letIn_143 : decode cX3_letIn 143 = .ok (.return_, 1) := by decide +kernel
set_option maxRecDepth 20000 in
theorem ggX3_leastWay_X0_setFrom : GoodIn wsX3_leastWay wsX0_setFrom := goodIn_r _ [9, 10, 11, 22, 23, 24, 25, 26, 27, 28, 29, 30, 31] (by decide +kernel) (by decide +kernel)
set_option maxRecDepth 20000 in
theorem gX3_leastWay_X0_setFrom_n262 : GoodIn wsX3_leastWay (wsX0_setFrom) := ggX3_leastWay_X0_setFrom
set_option maxRecDepth 20000 in
theorem ggX3_leastWay_X0_setTo : GoodIn wsX3_leastWay wsX0_setTo := goodIn_r _ [14, 10, 15, 22, 23, 24, 25, 26, 27, 28, 29, 30, 31] (by decide +kernel) (by decide +kernel)
set_option maxRecDepth 20000 in
theorem gX3_leastWay_X0_setTo_n265 : GoodIn wsX3_leastWay (wsX0_setTo) := ggX3_leastWay_X0_setTo
set_option maxRecDepth 20000 in
theorem ggX3_leastWay_X0_nearestStop : GoodIn wsX3_leastWay wsX0_nearestStop := goodIn_r _ [18, 10, 11, 15, 22, 23, 24, 25, 26, 27, 28, 29, 30, 31] (by decide +kernel) (by decide +kernel)
set_option maxRecDepth 20000 in
theorem gX3_leastWay_X0_nearestStop_n268 : GoodIn wsX3_leastWay (wsX0_nearestStop) := ggX3_leastWay_X0_nearestStop
set_option maxRecDepth 20000 in
theorem ggX3_leastWay_X3_leastWay : GoodIn wsX3_leastWay wsX3_leastWay := goodIn_r _ [0, 1, 2, 3, 4, 5, 6, 7, 8, 9, 10, 11, 12, 13, 14, 15, 16, 17, 18, 19, 20, 21, 22, 23, 24, 25, 26, 27, 28, 29, 30, 31] (by decide +kernel) (by decide +kernel)
set_option maxRecDepth 20000 in
theorem gX3_leastWay_X3_leastWay : GoodIn wsX3_leastWay (va_wsS RX3 176 yX3_leastWay wsX3_leastWay) := goodIn_app (goodIn_of _ (by decide +kernel)) ggX3_leastWay_X3_leastWay
theorem dX3_leastWay_0 : decode cX3_leastWay 0 = .ok (.iload_n 2, 1) := by decide +kernel
theorem dX3_leastWay_1 : decode cX3_leastWay 1 = .ok (.aload_n 0, 1) := by decide +kernel
theorem dX3_leastWay_2 : decode cX3_leastWay 2 = .ok (.iload_n 1, 1) := by decide +kernel
theorem dX3_leastWay_3 : decode cX3_leastWay 3 = .ok (.invokevirtual 262, 3) := by decide +kernel
theorem dX3_leastWay_6 : decode cX3_leastWay 6 = .ok (.iconst (-1), 1) := by decide +kernel
theorem dX3_leastWay_7 : decode cX3_leastWay 7 = .ok (.ixor, 1) := by decide +kernel
theorem dX3_leastWay_8 : decode cX3_leastWay 8 = .ok (.iand, 1) := by decide +kernel
theorem dX3_leastWay_9 : decode cX3_leastWay 9 = .ok (.istore 5, 2) := by decide +kernel
theorem dX3_leastWay_11 : decode cX3_leastWay 11 = .ok (.iload_n 2, 1) := by decide +kernel
theorem dX3_leastWay_12 : decode cX3_leastWay 12 = .ok (.iload 5, 2) := by decide +kernel
theorem dX3_leastWay_14 : decode cX3_leastWay 14 = .ok (.iconst (-1), 1) := by decide +kernel
theorem dX3_leastWay_15 : decode cX3_leastWay 15 = .ok (.ixor, 1) := by decide +kernel
theorem dX3_leastWay_16 : decode cX3_leastWay 16 = .ok (.iand, 1) := by decide +kernel
theorem dX3_leastWay_17 : decode cX3_leastWay 17 = .ok (.istore 6, 2) := by decide +kernel
theorem dX3_leastWay_19 : decode cX3_leastWay 19 = .ok (.iload_n 3, 1) := by decide +kernel
theorem dX3_leastWay_20 : decode cX3_leastWay 20 = .ok (.iload 6, 2) := by decide +kernel
theorem dX3_leastWay_22 : decode cX3_leastWay 22 = .ok (.ior, 1) := by decide +kernel
theorem dX3_leastWay_23 : decode cX3_leastWay 23 = .ok (.aload_n 0, 1) := by decide +kernel
theorem dX3_leastWay_24 : decode cX3_leastWay 24 = .ok (.iload_n 1, 1) := by decide +kernel
theorem dX3_leastWay_25 : decode cX3_leastWay 25 = .ok (.invokevirtual 265, 3) := by decide +kernel
theorem dX3_leastWay_28 : decode cX3_leastWay 28 = .ok (.iconst (-1), 1) := by decide +kernel
theorem dX3_leastWay_29 : decode cX3_leastWay 29 = .ok (.ixor, 1) := by decide +kernel
theorem dX3_leastWay_30 : decode cX3_leastWay 30 = .ok (.iand, 1) := by decide +kernel
theorem dX3_leastWay_31 : decode cX3_leastWay 31 = .ok (.istore 7, 2) := by decide +kernel
theorem dX3_leastWay_33 : decode cX3_leastWay 33 = .ok (.iload 5, 2) := by decide +kernel
theorem dX3_leastWay_35 : decode cX3_leastWay 35 = .ok (.iload 7, 2) := by decide +kernel
theorem dX3_leastWay_37 : decode cX3_leastWay 37 = .ok (.ior, 1) := by decide +kernel
theorem dX3_leastWay_38 : decode cX3_leastWay 38 = .ok (.ifCond .eq 10, 3) := by decide +kernel
theorem dX3_leastWay_41 : decode cX3_leastWay 41 = .ok (.iload 4, 2) := by decide +kernel
theorem dX3_leastWay_43 : decode cX3_leastWay 43 = .ok (.bipush 8, 2) := by decide +kernel
theorem dX3_leastWay_45 : decode cX3_leastWay 45 = .ok (.if_icmp .lt 5, 3) := by decide +kernel
theorem dX3_leastWay_48 : decode cX3_leastWay 48 = .ok (.iconst 0, 1) := by decide +kernel
theorem dX3_leastWay_49 : decode cX3_leastWay 49 = .ok (.ireturn, 1) := by decide +kernel
theorem dX3_leastWay_50 : decode cX3_leastWay 50 = .ok (.aload_n 0, 1) := by decide +kernel
theorem dX3_leastWay_51 : decode cX3_leastWay 51 = .ok (.iload_n 1, 1) := by decide +kernel
theorem dX3_leastWay_52 : decode cX3_leastWay 52 = .ok (.iconst 1, 1) := by decide +kernel
theorem dX3_leastWay_53 : decode cX3_leastWay 53 = .ok (.iload 5, 2) := by decide +kernel
theorem dX3_leastWay_55 : decode cX3_leastWay 55 = .ok (.iload 7, 2) := by decide +kernel
theorem dX3_leastWay_57 : decode cX3_leastWay 57 = .ok (.invokevirtual 268, 3) := by decide +kernel
theorem dX3_leastWay_60 : decode cX3_leastWay 60 = .ok (.istore 8, 2) := by decide +kernel
theorem dX3_leastWay_62 : decode cX3_leastWay 62 = .ok (.aload_n 0, 1) := by decide +kernel
theorem dX3_leastWay_63 : decode cX3_leastWay 63 = .ok (.iload_n 1, 1) := by decide +kernel
theorem dX3_leastWay_64 : decode cX3_leastWay 64 = .ok (.iconst (-1), 1) := by decide +kernel
theorem dX3_leastWay_65 : decode cX3_leastWay 65 = .ok (.iload 5, 2) := by decide +kernel
theorem dX3_leastWay_67 : decode cX3_leastWay 67 = .ok (.iload 7, 2) := by decide +kernel
theorem dX3_leastWay_69 : decode cX3_leastWay 69 = .ok (.invokevirtual 268, 3) := by decide +kernel
theorem dX3_leastWay_72 : decode cX3_leastWay 72 = .ok (.istore 9, 2) := by decide +kernel
theorem dX3_leastWay_74 : decode cX3_leastWay 74 = .ok (.iload 8, 2) := by decide +kernel
theorem dX3_leastWay_76 : decode cX3_leastWay 76 = .ok (.iconst (-1), 1) := by decide +kernel
theorem dX3_leastWay_77 : decode cX3_leastWay 77 = .ok (.if_icmp .ne 9, 3) := by decide +kernel
theorem dX3_leastWay_80 : decode cX3_leastWay 80 = .ok (.ldc_w 272, 3) := by decide +kernel
theorem dX3_leastWay_83 : decode cX3_leastWay 83 = .ok (.goto 22, 3) := by decide +kernel
theorem dX3_leastWay_86 : decode cX3_leastWay 86 = .ok (.iload 8, 2) := by decide +kernel
theorem dX3_leastWay_88 : decode cX3_leastWay 88 = .ok (.iload_n 1, 1) := by decide +kernel
theorem dX3_leastWay_89 : decode cX3_leastWay 89 = .ok (.isub, 1) := by decide +kernel
theorem dX3_leastWay_90 : decode cX3_leastWay 90 = .ok (.aload_n 0, 1) := by decide +kernel
theorem dX3_leastWay_91 : decode cX3_leastWay 91 = .ok (.iload 8, 2) := by decide +kernel
theorem dX3_leastWay_93 : decode cX3_leastWay 93 = .ok (.iload 5, 2) := by decide +kernel
theorem dX3_leastWay_95 : decode cX3_leastWay 95 = .ok (.iload 7, 2) := by decide +kernel
theorem dX3_leastWay_97 : decode cX3_leastWay 97 = .ok (.iload 4, 2) := by decide +kernel
theorem dX3_leastWay_99 : decode cX3_leastWay 99 = .ok (.iconst 1, 1) := by decide +kernel
theorem dX3_leastWay_100 : decode cX3_leastWay 100 = .ok (.iadd, 1) := by decide +kernel
theorem dX3_leastWay_101 : decode cX3_leastWay 101 = .ok (.invokestatic 176, 3) := by decide +kernel
theorem dX3_leastWay_104 : decode cX3_leastWay 104 = .ok (.iadd, 1) := by decide +kernel
theorem dX3_leastWay_105 : decode cX3_leastWay 105 = .ok (.istore 10, 2) := by decide +kernel
theorem dX3_leastWay_107 : decode cX3_leastWay 107 = .ok (.iload 9, 2) := by decide +kernel
theorem dX3_leastWay_109 : decode cX3_leastWay 109 = .ok (.iconst (-1), 1) := by decide +kernel
theorem dX3_leastWay_110 : decode cX3_leastWay 110 = .ok (.if_icmp .ne 9, 3) := by decide +kernel
theorem dX3_leastWay_113 : decode cX3_leastWay 113 = .ok (.ldc_w 272, 3) := by decide +kernel
theorem dX3_leastWay_116 : decode cX3_leastWay 116 = .ok (.goto 22, 3) := by decide +kernel
theorem dX3_leastWay_119 : decode cX3_leastWay 119 = .ok (.iload_n 1, 1) := by decide +kernel
theorem dX3_leastWay_120 : decode cX3_leastWay 120 = .ok (.iload 9, 2) := by decide +kernel
theorem dX3_leastWay_122 : decode cX3_leastWay 122 = .ok (.isub, 1) := by decide +kernel
theorem dX3_leastWay_123 : decode cX3_leastWay 123 = .ok (.aload_n 0, 1) := by decide +kernel
theorem dX3_leastWay_124 : decode cX3_leastWay 124 = .ok (.iload 9, 2) := by decide +kernel
theorem dX3_leastWay_126 : decode cX3_leastWay 126 = .ok (.iload 5, 2) := by decide +kernel
theorem dX3_leastWay_128 : decode cX3_leastWay 128 = .ok (.iload 7, 2) := by decide +kernel
theorem dX3_leastWay_130 : decode cX3_leastWay 130 = .ok (.iload 4, 2) := by decide +kernel
theorem dX3_leastWay_132 : decode cX3_leastWay 132 = .ok (.iconst 1, 1) := by decide +kernel
theorem dX3_leastWay_133 : decode cX3_leastWay 133 = .ok (.iadd, 1) := by decide +kernel
theorem dX3_leastWay_134 : decode cX3_leastWay 134 = .ok (.invokestatic 176, 3) := by decide +kernel
theorem dX3_leastWay_137 : decode cX3_leastWay 137 = .ok (.iadd, 1) := by decide +kernel
theorem dX3_leastWay_138 : decode cX3_leastWay 138 = .ok (.istore 11, 2) := by decide +kernel
theorem dX3_leastWay_140 : decode cX3_leastWay 140 = .ok (.iload 10, 2) := by decide +kernel
theorem dX3_leastWay_142 : decode cX3_leastWay 142 = .ok (.iload 11, 2) := by decide +kernel
theorem dX3_leastWay_144 : decode cX3_leastWay 144 = .ok (.invokestatic 9, 3) := by decide +kernel
theorem dX3_leastWay_147 : decode cX3_leastWay 147 = .ok (.ireturn, 1) := by decide +kernel
