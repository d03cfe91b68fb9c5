theorem dX5_why_0 : decode cX5_why 0 = .ok (.iload_n 1, 1) := by decide +kernel
theorem dX5_why_1 : decode cX5_why 1 = .ok (.bipush 8, 2) := by decide +kernel
theorem dX5_why_3 : decode cX5_why 3 = .ok (.idiv, 1) := by decide +kernel
theorem dX5_why_4 : decode cX5_why 4 = .ok (.istore 4, 2) := by decide +kernel
theorem dX5_why_6 : decode cX5_why 6 = .ok (.iload_n 3, 1) := by decide +kernel
theorem dX5_why_7 : decode cX5_why 7 = .ok (.aload_n 0, 1) := by decide +kernel
theorem dX5_why_8 : decode cX5_why 8 = .ok (.getfield 22, 3) := by decide +kernel
theorem dX5_why_11 : decode cX5_why 11 = .ok (.iload 4, 2) := by decide +kernel
theorem dX5_why_13 : decode cX5_why 13 = .ok (.iaload, 1) := by decide +kernel
theorem dX5_why_14 : decode cX5_why 14 = .ok (.aload_n 0, 1) := by decide +kernel
theorem dX5_why_15 : decode cX5_why 15 = .ok (.getfield 16, 3) := by decide +kernel
theorem dX5_why_18 : decode cX5_why 18 = .ok (.iload_n 2, 1) := by decide +kernel
theorem dX5_why_19 : decode cX5_why 19 = .ok (.iaload, 1) := by decide +kernel
theorem dX5_why_20 : decode cX5_why 20 = .ok (.iadd, 1) := by decide +kernel
theorem dX5_why_21 : decode cX5_why 21 = .ok (.if_icmp .le 7, 3) := by decide +kernel
theorem dX5_why_24 : decode cX5_why 24 = .ok (.iconst 1, 1) := by decide +kernel
theorem dX5_why_25 : decode cX5_why 25 = .ok (.goto 4, 3) := by decide +kernel
theorem dX5_why_28 : decode cX5_why 28 = .ok (.iconst 0, 1) := by decide +kernel
theorem dX5_why_29 : decode cX5_why 29 = .ok (.istore 5, 2) := by decide +kernel
theorem dX5_why_31 : decode cX5_why 31 = .ok (.iload 5, 2) := by decide +kernel
theorem dX5_why_33 : decode cX5_why 33 = .ok (.ifCond .eq 7, 3) := by decide +kernel
theorem dX5_why_36 : decode cX5_why 36 = .ok (.iconst 1, 1) := by decide +kernel
theorem dX5_why_37 : decode cX5_why 37 = .ok (.goto 54, 3) := by decide +kernel
theorem dX5_why_40 : decode cX5_why 40 = .ok (.aload_n 0, 1) := by decide +kernel
theorem dX5_why_41 : decode cX5_why 41 = .ok (.iload_n 1, 1) := by decide +kernel
theorem dX5_why_42 : decode cX5_why 42 = .ok (.iload_n 2, 1) := by decide +kernel
theorem dX5_why_43 : decode cX5_why 43 = .ok (.iload_n 3, 1) := by decide +kernel
theorem dX5_why_44 : decode cX5_why 44 = .ok (.invokevirtual 159, 3) := by decide +kernel
theorem dX5_why_47 : decode cX5_why 47 = .ok (.ifCond .eq 7, 3) := by decide +kernel
theorem dX5_why_50 : decode cX5_why 50 = .ok (.iconst 2, 1) := by decide +kernel
theorem dX5_why_51 : decode cX5_why 51 = .ok (.goto 40, 3) := by decide +kernel
theorem dX5_why_54 : decode cX5_why 54 = .ok (.aload_n 0, 1) := by decide +kernel
theorem dX5_why_55 : decode cX5_why 55 = .ok (.iload_n 1, 1) := by decide +kernel
theorem dX5_why_56 : decode cX5_why 56 = .ok (.iload_n 2, 1) := by decide +kernel
theorem dX5_why_57 : decode cX5_why 57 = .ok (.iconst 5, 1) := by decide +kernel
theorem dX5_why_58 : decode cX5_why 58 = .ok (.iload_n 3, 1) := by decide +kernel
theorem dX5_why_59 : decode cX5_why 59 = .ok (.invokevirtual 162, 3) := by decide +kernel
theorem dX5_why_62 : decode cX5_why 62 = .ok (.ifCond .ne 7, 3) := by decide +kernel
theorem dX5_why_65 : decode cX5_why 65 = .ok (.iconst 3, 1) := by decide +kernel
theorem dX5_why_66 : decode cX5_why 66 = .ok (.goto 25, 3) := by decide +kernel
theorem dX5_why_69 : decode cX5_why 69 = .ok (.aload_n 0, 1) := by decide +kernel
theorem dX5_why_70 : decode cX5_why 70 = .ok (.getfield 13, 3) := by decide +kernel
theorem dX5_why_73 : decode cX5_why 73 = .ok (.iload_n 2, 1) := by decide +kernel
theorem dX5_why_74 : decode cX5_why 74 = .ok (.iaload, 1) := by decide +kernel
theorem dX5_why_75 : decode cX5_why 75 = .ok (.aload_n 0, 1) := by decide +kernel
theorem dX5_why_76 : decode cX5_why 76 = .ok (.getfield 28, 3) := by decide +kernel
theorem dX5_why_79 : decode cX5_why 79 = .ok (.iload 4, 2) := by decide +kernel
theorem dX5_why_81 : decode cX5_why 81 = .ok (.iaload, 1) := by decide +kernel
theorem dX5_why_82 : decode cX5_why 82 = .ok (.iadd, 1) := by decide +kernel
theorem dX5_why_83 : decode cX5_why 83 = .ok (.ifCond .gt 7, 3) := by decide +kernel
theorem dX5_why_86 : decode cX5_why 86 = .ok (.iconst 4, 1) := by decide +kernel
theorem dX5_why_87 : decode cX5_why 87 = .ok (.goto 4, 3) := by decide +kernel
theorem dX5_why_90 : decode cX5_why 90 = .ok (.iconst 0, 1) := by decide +kernel
theorem dX5_why_91 : decode cX5_why 91 = .ok (.ireturn, 1) := by decide +kernel
set_option maxRecDepth 20000 in
theorem ggX5_isRight_X5_size : GoodIn wsX5_isRight wsX5_size := goodIn_r _ [6] (by decide +kernel) (by decide +kernel)
set_option maxRecDepth 20000 in
theorem gX5_isRight_X5_size : GoodIn wsX5_isRight (va_wsS RX5 166 yX5_size wsX5_size) := goodIn_app (goodIn_of _ (by decide +kernel)) ggX5_isRight_X5_size
set_option maxRecDepth 20000 in
theorem ggX5_isRight_X5_in : GoodIn wsX5_isRight wsX5_in := goodIn_r _ [9] (by decide +kernel) (by decide +kernel)
set_option maxRecDepth 20000 in
theorem gX5_isRight_X5_in : GoodIn wsX5_isRight (va_wsS RX5 114 yX5_in wsX5_in) := goodIn_app (goodIn_of _ (by decide +kernel)) ggX5_isRight_X5_in
set_option maxRecDepth 20000 in
theorem ggX5_isRight_X5_has : GoodIn wsX5_isRight wsX5_has := goodIn_r _ [12] (by decide +kernel) (by decide +kernel)
set_option maxRecDepth 20000 in
theorem gX5_isRight_X5_has : GoodIn wsX5_isRight (va_wsS RX5 124 yX5_has wsX5_has) := goodIn_app (goodIn_of _ (by decide +kernel)) ggX5_isRight_X5_has
set_option maxRecDepth 20000 in
theorem ggX5_isRight_X5_why : GoodIn wsX5_isRight wsX5_why := goodIn_r _ [16, 17, 18, 19, 20, 21, 22, 23, 5, 24, 25, 1, 26, 27, 28, 10, 11, 12, 29, 30, 31, 32, 33, 34, 35, 36, 37, 38, 39, 40, 41, 42, 43, 44, 45, 46, 47, 48, 49, 50, 51, 52, 53, 54, 55, 56, 57, 58, 59, 60, 61, 62, 63, 64, 65, 66, 67, 68, 69, 70, 71, 72, 73, 74, 75, 76, 77, 78, 79, 80, 81, 82, 83, 84, 85, 86, 87] (by decide +kernel) (by decide +kernel)
set_option maxRecDepth 20000 in
theorem gX5_isRight_X5_why : GoodIn wsX5_isRight (wsV RX5 170 RX5 yX5_why wsX5_why) := goodIn_app (goodIn_of _ (by decide +kernel)) ggX5_isRight_X5_why
set_option maxRecDepth 20000 in
theorem ggX5_isRight_X5_areOver : GoodIn wsX5_isRight wsX5_areOver := goodIn_r _ [32, 33, 50, 51, 52, 53, 54, 55, 56, 57, 58, 59, 60, 61, 62, 63, 64, 65, 66, 67, 68, 69, 70, 71, 72, 73, 74, 75, 76, 77, 78, 79, 80, 81, 82, 83, 84, 85, 86, 87] (by decide +kernel) (by decide +kernel)
set_option maxRecDepth 20000 in
theorem gX5_isRight_X5_areOver : GoodIn wsX5_isRight (wsV RX5 156 RX5 yX5_areOver wsX5_areOver) := goodIn_app (goodIn_of _ (by decide +kernel)) ggX5_isRight_X5_areOver
theorem dX5_isRight_0 : decode cX5_isRight 0 = .ok (.iload_n 2, 1) := by decide +kernel
theorem dX5_isRight_1 : decode cX5_isRight 1 = .ok (.invokestatic 166, 3) := by decide +kernel
theorem dX5_isRight_4 : decode cX5_isRight 4 = .ok (.iconst 1, 1) := by decide +kernel
theorem dX5_isRight_5 : decode cX5_isRight 5 = .ok (.iconst 3, 1) := by decide +kernel
theorem dX5_isRight_6 : decode cX5_isRight 6 = .ok (.invokestatic 114, 3) := by decide +kernel
theorem dX5_isRight_9 : decode cX5_isRight 9 = .ok (.istore 4, 2) := by decide +kernel
theorem dX5_isRight_11 : decode cX5_isRight 11 = .ok (.iconst 0, 1) := by decide +kernel
theorem dX5_isRight_12 : decode cX5_isRight 12 = .ok (.istore 5, 2) := by decide +kernel
theorem dX5_isRight_14 : decode cX5_isRight 14 = .ok (.iload 5, 2) := by decide +kernel
theorem dX5_isRight_16 : decode cX5_isRight 16 = .ok (.aload_n 0, 1) := by decide +kernel
theorem dX5_isRight_17 : decode cX5_isRight 17 = .ok (.getfield 111, 3) := by decide +kernel
theorem dX5_isRight_20 : decode cX5_isRight 20 = .ok (.if_icmp .ge 104, 3) := by decide +kernel
theorem dX5_isRight_23 : decode cX5_isRight 23 = .ok (.iload 4, 2) := by decide +kernel
theorem dX5_isRight_25 : decode cX5_isRight 25 = .ok (.ifCond .eq 99, 3) := by decide +kernel
theorem dX5_isRight_28 : decode cX5_isRight 28 = .ok (.iload_n 2, 1) := by decide +kernel
theorem dX5_isRight_29 : decode cX5_isRight 29 = .ok (.iload 5, 2) := by decide +kernel
theorem dX5_isRight_31 : decode cX5_isRight 31 = .ok (.invokestatic 124, 3) := by decide +kernel
theorem dX5_isRight_34 : decode cX5_isRight 34 = .ok (.ifCond .eq 84, 3) := by decide +kernel
theorem dX5_isRight_37 : decode cX5_isRight 37 = .ok (.aload_n 0, 1) := by decide +kernel
theorem dX5_isRight_38 : decode cX5_isRight 38 = .ok (.iload_n 1, 1) := by decide +kernel
theorem dX5_isRight_39 : decode cX5_isRight 39 = .ok (.iload 5, 2) := by decide +kernel
theorem dX5_isRight_41 : decode cX5_isRight 41 = .ok (.iload_n 3, 1) := by decide +kernel
theorem dX5_isRight_42 : decode cX5_isRight 42 = .ok (.invokevirtual 170, 3) := by decide +kernel
theorem dX5_isRight_45 : decode cX5_isRight 45 = .ok (.ifCond .ne 7, 3) := by decide +kernel
theorem dX5_isRight_48 : decode cX5_isRight 48 = .ok (.iconst 1, 1) := by decide +kernel
theorem dX5_isRight_49 : decode cX5_isRight 49 = .ok (.goto 4, 3) := by decide +kernel
theorem dX5_isRight_52 : decode cX5_isRight 52 = .ok (.iconst 0, 1) := by decide +kernel
theorem dX5_isRight_53 : decode cX5_isRight 53 = .ok (.istore 4, 2) := by decide +kernel
theorem dX5_isRight_55 : decode cX5_isRight 55 = .ok (.iconst 0, 1) := by decide +kernel
theorem dX5_isRight_56 : decode cX5_isRight 56 = .ok (.istore 6, 2) := by decide +kernel
theorem dX5_isRight_58 : decode cX5_isRight 58 = .ok (.iload 6, 2) := by decide +kernel
theorem dX5_isRight_60 : decode cX5_isRight 60 = .ok (.iload 5, 2) := by decide +kernel
theorem dX5_isRight_62 : decode cX5_isRight 62 = .ok (.if_icmp .ge 56, 3) := by decide +kernel
theorem dX5_isRight_65 : decode cX5_isRight 65 = .ok (.iload 4, 2) := by decide +kernel
theorem dX5_isRight_67 : decode cX5_isRight 67 = .ok (.ifCond .eq 42, 3) := by decide +kernel
theorem dX5_isRight_70 : decode cX5_isRight 70 = .ok (.iload_n 2, 1) := by decide +kernel
theorem dX5_isRight_71 : decode cX5_isRight 71 = .ok (.iload 6, 2) := by decide +kernel
theorem dX5_isRight_73 : decode cX5_isRight 73 = .ok (.invokestatic 124, 3) := by decide +kernel
theorem dX5_isRight_76 : decode cX5_isRight 76 = .ok (.ifCond .eq 29, 3) := by decide +kernel
theorem dX5_isRight_79 : decode cX5_isRight 79 = .ok (.aload_n 0, 1) := by decide +kernel
theorem dX5_isRight_80 : decode cX5_isRight 80 = .ok (.getfield 19, 3) := by decide +kernel
theorem dX5_isRight_83 : decode cX5_isRight 83 = .ok (.iload 5, 2) := by decide +kernel
theorem dX5_isRight_85 : decode cX5_isRight 85 = .ok (.iaload, 1) := by decide +kernel
theorem dX5_isRight_86 : decode cX5_isRight 86 = .ok (.iload 6, 2) := by decide +kernel
theorem dX5_isRight_88 : decode cX5_isRight 88 = .ok (.invokestatic 124, 3) := by decide +kernel
theorem dX5_isRight_91 : decode cX5_isRight 91 = .ok (.ifCond .ne 18, 3) := by decide +kernel
theorem dX5_isRight_94 : decode cX5_isRight 94 = .ok (.aload_n 0, 1) := by decide +kernel
theorem dX5_isRight_95 : decode cX5_isRight 95 = .ok (.iload 5, 2) := by decide +kernel
theorem dX5_isRight_97 : decode cX5_isRight 97 = .ok (.iload 6, 2) := by decide +kernel
theorem dX5_isRight_99 : decode cX5_isRight 99 = .ok (.invokevirtual 156, 3) := by decide +kernel
theorem dX5_isRight_102 : decode cX5_isRight 102 = .ok (.ifCond .ne 7, 3) := by decide +kernel
theorem dX5_isRight_105 : decode cX5_isRight 105 = .ok (.iconst 1, 1) := by decide +kernel
theorem dX5_isRight_106 : decode cX5_isRight 106 = .ok (.goto 4, 3) := by decide +kernel
theorem dX5_isRight_109 : decode cX5_isRight 109 = .ok (.iconst 0, 1) := by decide +kernel
theorem dX5_isRight_110 : decode cX5_isRight 110 = .ok (.istore 4, 2) := by decide +kernel
theorem dX5_isRight_112 : decode cX5_isRight 112 = .ok (.iinc 6 1, 3) := by decide +kernel
theorem dX5_isRight_115 : decode cX5_isRight 115 = .ok (.goto (-57), 3) := by decide +kernel
theorem dX5_isRight_118 : decode cX5_isRight 118 = .ok (.iinc 5 1, 3) := by decide +kernel
theorem dX5_isRight_121 : decode cX5_isRight 121 = .ok (.goto (-107), 3) := by decide +kernel
theorem dX5_isRight_124 : decode cX5_isRight 124 = .ok (.iload 4, 2) := by decide +kernel
theorem dX5_isRight_126 : decode cX5_isRight 126 = .ok (.ireturn, 1) := by decide +kernel
set_option maxRecDepth 20000 in
theorem ggX5_heavy_X5_has : GoodIn wsX5_heavy wsX5_has := goodIn_r _ [6] (by decide +kernel) (by decide +kernel)
set_option maxRecDepth 20000 in
theorem gX5_heavy_X5_has : GoodIn wsX5_heavy (va_wsS RX5 124 yX5_has wsX5_has) := goodIn_app (goodIn_of _ (by decide +kernel)) ggX5_heavy_X5_has
theorem dX5_heavy_0 : decode cX5_heavy 0 = .ok (.iconst 0, 1) := by decide +kernel
theorem dX5_heavy_1 : decode cX5_heavy 1 = .ok (.istore_n 2, 1) := by decide +kernel
theorem dX5_heavy_2 : decode cX5_heavy 2 = .ok (.iconst 0, 1) := by decide +kernel
theorem dX5_heavy_3 : decode cX5_heavy 3 = .ok (.istore_n 3, 1) := by decide +kernel
theorem dX5_heavy_4 : decode cX5_heavy 4 = .ok (.iload_n 3, 1) := by decide +kernel
theorem dX5_heavy_5 : decode cX5_heavy 5 = .ok (.aload_n 0, 1) := by decide +kernel
theorem dX5_heavy_6 : decode cX5_heavy 6 = .ok (.getfield 111, 3) := by decide +kernel
theorem dX5_heavy_9 : decode cX5_heavy 9 = .ok (.if_icmp .ge 30, 3) := by decide +kernel
theorem dX5_heavy_12 : decode cX5_heavy 12 = .ok (.iload_n 2, 1) := by decide +kernel
theorem dX5_heavy_13 : decode cX5_heavy 13 = .ok (.iload_n 1, 1) := by decide +kernel
theorem dX5_heavy_14 : decode cX5_heavy 14 = .ok (.iload_n 3, 1) := by decide +kernel
theorem dX5_heavy_15 : decode cX5_heavy 15 = .ok (.invokestatic 124, 3) := by decide +kernel
theorem dX5_heavy_18 : decode cX5_heavy 18 = .ok (.ifCond .eq 12, 3) := by decide +kernel
theorem dX5_heavy_21 : decode cX5_heavy 21 = .ok (.aload_n 0, 1) := by decide +kernel
theorem dX5_heavy_22 : decode cX5_heavy 22 = .ok (.getfield 13, 3) := by decide +kernel
theorem dX5_heavy_25 : decode cX5_heavy 25 = .ok (.iload_n 3, 1) := by decide +kernel
theorem dX5_heavy_26 : decode cX5_heavy 26 = .ok (.iaload, 1) := by decide +kernel
theorem dX5_heavy_27 : decode cX5_heavy 27 = .ok (.goto 4, 3) := by decide +kernel
theorem dX5_heavy_30 : decode cX5_heavy 30 = .ok (.iconst 0, 1) := by decide +kernel
theorem dX5_heavy_31 : decode cX5_heavy 31 = .ok (.iadd, 1) := by decide +kernel
theorem dX5_heavy_32 : decode cX5_heavy 32 = .ok (.istore_n 2, 1) := by decide +kernel
theorem dX5_heavy_33 : decode cX5_heavy 33 = .ok (.iinc 3 1, 3) := by decide +kernel
theorem dX5_heavy_36 : decode cX5_heavy 36 = .ok (.goto (-32), 3) := by decide +kernel
theorem dX5_heavy_39 : decode cX5_heavy 39 = .ok (.iload_n 2, 1) := by decide +kernel
theorem dX5_heavy_40 : decode cX5_heavy 40 = .ok (.ireturn, 1) := by decide +kernel
set_option maxRecDepth 20000 in
theorem ggX5_bestOf_X5_heavy : GoodIn wsX5_bestOf wsX5_heavy := goodIn_r _ [6, 1, 7, 8, 9, 5, 10, 58, 59, 60, 61, 62, 63, 64, 65, 66, 67, 68, 69, 70, 71, 72, 73, 74, 75, 76, 77, 78, 79, 80, 81, 82, 83, 84, 85, 86, 87, 88, 89, 90, 91, 92, 93, 94, 95] (by decide +kernel) (by decide +kernel)
set_option maxRecDepth 20000 in
theorem gX5_bestOf_X5_heavy : GoodIn wsX5_bestOf (wsV RX5 173 RX5 yX5_heavy wsX5_heavy) := goodIn_app (goodIn_of _ (by decide +kernel)) ggX5_bestOf_X5_heavy
set_option maxRecDepth 20000 in
theorem ggX5_bestOf_X5_size : GoodIn wsX5_bestOf wsX5_size := goodIn_r _ [13] (by decide +kernel) (by decide +kernel)
set_option maxRecDepth 20000 in
theorem gX5_bestOf_X5_size : GoodIn wsX5_bestOf (va_wsS RX5 166 yX5_size wsX5_size) := goodIn_app (goodIn_of _ (by decide +kernel)) ggX5_bestOf_X5_size
set_option maxRecDepth 20000 in
theorem ggX5_bestOf_X5_isRight : GoodIn wsX5_bestOf wsX5_isRight := goodIn_r _ [17, 1, 18, 11, 12, 5, 13, 19, 20, 21, 8, 9, 10, 22, 23, 24, 25, 26, 27, 7, 28, 29, 30, 31, 32, 33, 34, 35, 36, 37, 38, 39, 40, 41, 42, 43, 44, 45, 46, 47, 48, 49, 50, 51, 52, 53, 54, 55, 56, 57, 58, 59, 60, 61, 62, 63, 64, 65, 66, 67, 68, 69, 70, 71, 72, 73, 74, 75, 76, 77, 78, 79, 80, 81, 82, 83, 84, 85, 86, 87, 88, 89, 90, 91, 92, 93, 94, 95] (by decide +kernel) (by decide +kernel)
set_option maxRecDepth 20000 in
theorem gX5_bestOf_X5_isRight : GoodIn wsX5_bestOf (wsV RX5 176 RX5 yX5_isRight wsX5_isRight) := goodIn_app (goodIn_of _ (by decide +kernel)) ggX5_bestOf_X5_isRight
theorem dX5_bestOf_0 : decode cX5_bestOf 0 = .ok (.iconst 0, 1) := by decide +kernel
theorem dX5_bestOf_1 : decode cX5_bestOf 1 = .ok (.istore_n 3, 1) := by decide +kernel
theorem dX5_bestOf_2 : decode cX5_bestOf 2 = .ok (.iconst 1, 1) := by decide +kernel
theorem dX5_bestOf_3 : decode cX5_bestOf 3 = .ok (.istore 4, 2) := by decide +kernel
theorem dX5_bestOf_5 : decode cX5_bestOf 5 = .ok (.iload 4, 2) := by decide +kernel
theorem dX5_bestOf_7 : decode cX5_bestOf 7 = .ok (.iconst 1, 1) := by decide +kernel
theorem dX5_bestOf_8 : decode cX5_bestOf 8 = .ok (.aload_n 0, 1) := by decide +kernel
theorem dX5_bestOf_9 : decode cX5_bestOf 9 = .ok (.getfield 111, 3) := by decide +kernel
theorem dX5_bestOf_12 : decode cX5_bestOf 12 = .ok (.ishl, 1) := by decide +kernel
theorem dX5_bestOf_13 : decode cX5_bestOf 13 = .ok (.if_icmp .ge 79, 3) := by decide +kernel
theorem dX5_bestOf_16 : decode cX5_bestOf 16 = .ok (.aload_n 0, 1) := by decide +kernel
theorem dX5_bestOf_17 : decode cX5_bestOf 17 = .ok (.iload 4, 2) := by decide +kernel
theorem dX5_bestOf_19 : decode cX5_bestOf 19 = .ok (.invokevirtual 173, 3) := by decide +kernel
theorem dX5_bestOf_22 : decode cX5_bestOf 22 = .ok (.aload_n 0, 1) := by decide +kernel
theorem dX5_bestOf_23 : decode cX5_bestOf 23 = .ok (.iload_n 3, 1) := by decide +kernel
theorem dX5_bestOf_24 : decode cX5_bestOf 24 = .ok (.invokevirtual 173, 3) := by decide +kernel
theorem dX5_bestOf_27 : decode cX5_bestOf 27 = .ok (.if_icmp .gt 29, 3) := by decide +kernel
theorem dX5_bestOf_30 : decode cX5_bestOf 30 = .ok (.aload_n 0, 1) := by decide +kernel
theorem dX5_bestOf_31 : decode cX5_bestOf 31 = .ok (.iload 4, 2) := by decide +kernel
theorem dX5_bestOf_33 : decode cX5_bestOf 33 = .ok (.invokevirtual 173, 3) := by decide +kernel
theorem dX5_bestOf_36 : decode cX5_bestOf 36 = .ok (.aload_n 0, 1) := by decide +kernel
theorem dX5_bestOf_37 : decode cX5_bestOf 37 = .ok (.iload_n 3, 1) := by decide +kernel
theorem dX5_bestOf_38 : decode cX5_bestOf 38 = .ok (.invokevirtual 173, 3) := by decide +kernel
theorem dX5_bestOf_41 : decode cX5_bestOf 41 = .ok (.if_icmp .ne 19, 3) := by decide +kernel
theorem dX5_bestOf_44 : decode cX5_bestOf 44 = .ok (.iload 4, 2) := by decide +kernel
theorem dX5_bestOf_46 : decode cX5_bestOf 46 = .ok (.invokestatic 166, 3) := by decide +kernel
theorem dX5_bestOf_49 : decode cX5_bestOf 49 = .ok (.iload_n 3, 1) := by decide +kernel
theorem dX5_bestOf_50 : decode cX5_bestOf 50 = .ok (.invokestatic 166, 3) := by decide +kernel
theorem dX5_bestOf_53 : decode cX5_bestOf 53 = .ok (.if_icmp .ge 7, 3) := by decide +kernel
theorem dX5_bestOf_56 : decode cX5_bestOf 56 = .ok (.iconst 1, 1) := by decide +kernel
theorem dX5_bestOf_57 : decode cX5_bestOf 57 = .ok (.goto 4, 3) := by decide +kernel
theorem dX5_bestOf_60 : decode cX5_bestOf 60 = .ok (.iconst 0, 1) := by decide +kernel
theorem dX5_bestOf_61 : decode cX5_bestOf 61 = .ok (.istore 5, 2) := by decide +kernel
theorem dX5_bestOf_63 : decode cX5_bestOf 63 = .ok (.iload 5, 2) := by decide +kernel
theorem dX5_bestOf_65 : decode cX5_bestOf 65 = .ok (.ifCond .eq 19, 3) := by decide +kernel
theorem dX5_bestOf_68 : decode cX5_bestOf 68 = .ok (.aload_n 0, 1) := by decide +kernel
theorem dX5_bestOf_69 : decode cX5_bestOf 69 = .ok (.iload_n 1, 1) := by decide +kernel
theorem dX5_bestOf_70 : decode cX5_bestOf 70 = .ok (.iload 4, 2) := by decide +kernel
theorem dX5_bestOf_72 : decode cX5_bestOf 72 = .ok (.iload_n 2, 1) := by decide +kernel
theorem dX5_bestOf_73 : decode cX5_bestOf 73 = .ok (.invokevirtual 176, 3) := by decide +kernel
theorem dX5_bestOf_76 : decode cX5_bestOf 76 = .ok (.ifCond .eq 8, 3) := by decide +kernel
theorem dX5_bestOf_79 : decode cX5_bestOf 79 = .ok (.iload 4, 2) := by decide +kernel
theorem dX5_bestOf_81 : decode cX5_bestOf 81 = .ok (.goto 4, 3) := by decide +kernel
theorem dX5_bestOf_84 : decode cX5_bestOf 84 = .ok (.iload_n 3, 1) := by decide +kernel
theorem dX5_bestOf_85 : decode cX5_bestOf 85 = .ok (.istore_n 3, 1) := by decide +kernel
theorem dX5_bestOf_86 : decode cX5_bestOf 86 = .ok (.iinc 4 1, 3) := by decide +kernel
theorem dX5_bestOf_89 : decode cX5_bestOf 89 = .ok (.goto (-84), 3) := by decide +kernel
theorem dX5_bestOf_92 : decode cX5_bestOf 92 = .ok (.iload_n 3, 1) := by decide +kernel
theorem dX5_bestOf_93 : decode cX5_bestOf 93 = .ok (.ireturn, 1) := by decide +kernel
set_option maxRecDepth 20000 in
theorem ggX5_charge_X5_isIn : GoodIn wsX5_charge wsX5_isIn := goodIn_r _ [10, 11, 12, 13, 14, 9, 15, 16, 17, 18, 78, 79, 80, 81, 82, 83, 84, 85, 86, 87, 88, 89, 90, 91, 92, 93, 94, 95, 96, 97, 98, 99, 100, 101, 102, 103, 104, 105, 106, 107, 108, 109, 110, 111, 112, 113, 114, 115] (by decide +kernel) (by decide +kernel)
set_option maxRecDepth 20000 in
theorem gX5_charge_X5_isIn : GoodIn wsX5_charge (wsV RX5 179 RX5 yX5_isIn wsX5_isIn) := goodIn_app (goodIn_of _ (by decide +kernel)) ggX5_charge_X5_isIn
set_option maxRecDepth 20000 in
theorem ggX5_charge_X5_areThere : GoodIn wsX5_charge wsX5_areThere := goodIn_r _ [22, 23, 78, 79, 80, 81, 82, 83, 84, 85, 86, 87, 88, 89, 90, 91, 92, 93, 94, 95, 96, 97, 98, 99, 100, 101, 102, 103, 104, 105, 106, 107, 108, 109, 110, 111, 112, 113, 114, 115] (by decide +kernel) (by decide +kernel)
set_option maxRecDepth 20000 in
theorem gX5_charge_X5_areThere : GoodIn wsX5_charge (wsV RX5 182 RX5 yX5_areThere wsX5_areThere) := goodIn_app (goodIn_of _ (by decide +kernel)) ggX5_charge_X5_areThere
set_option maxRecDepth 20000 in
theorem ggX5_charge_X5_isRight : GoodIn wsX5_charge wsX5_isRight := goodIn_r _ [27, 23, 28, 29, 30, 9, 31, 13, 14, 15, 16, 17, 18, 32, 33, 34, 35, 36, 37, 38, 39, 40, 41, 42, 43, 44, 45, 46, 47, 48, 49, 50, 51, 52, 53, 54, 55, 56, 57, 58, 59, 60, 61, 62, 63, 64, 65, 66, 67, 68, 78, 79, 80, 81, 82, 83, 84, 85, 86, 87, 88, 89, 90, 91, 92, 93, 94, 95, 96, 97, 98, 99, 100, 101, 102, 103, 104, 105, 106, 107, 108, 109, 110, 111, 112, 113, 114, 115] (by decide +kernel) (by decide +kernel)
set_option maxRecDepth 20000 in
theorem gX5_charge_X5_isRight : GoodIn wsX5_charge (wsV RX5 176 RX5 yX5_isRight wsX5_isRight) := goodIn_app (goodIn_of _ (by decide +kernel)) ggX5_charge_X5_isRight
set_option maxRecDepth 20000 in
theorem ggX5_charge_X5_refused : GoodIn wsX5_charge wsX5_refused := goodIn_r _ [72, 73, 78, 79, 80, 81, 82, 83, 84, 85, 86, 87, 88, 89, 90, 91, 92, 93, 94, 95, 96, 97, 98, 99, 100, 101, 102, 103, 104, 105, 106, 107, 108, 109, 110, 111, 112, 113, 114, 115] (by decide +kernel) (by decide +kernel)
set_option maxRecDepth 20000 in
theorem gX5_charge_X5_refused : GoodIn wsX5_charge (wsV RX5 128 RX5 yX5_refused wsX5_refused) := goodIn_app (goodIn_of _ (by decide +kernel)) ggX5_charge_X5_refused
set_option maxRecDepth 20000 in
theorem ggX5_charge_X5_heavy : GoodIn wsX5_charge wsX5_heavy := goodIn_r _ [77, 23, 38, 16, 17, 9, 18, 78, 79, 80, 81, 82, 83, 84, 85, 86, 87, 88, 89, 90, 91, 92, 93, 94, 95, 96, 97, 98, 99, 100, 101, 102, 103, 104, 105, 106, 107, 108, 109, 110, 111, 112, 113, 114, 115] (by decide +kernel) (by decide +kernel)
set_option maxRecDepth 20000 in
theorem gX5_charge_X5_heavy : GoodIn wsX5_charge (wsV RX5 173 RX5 yX5_heavy wsX5_heavy) := goodIn_app (goodIn_of _ (by decide +kernel)) ggX5_charge_X5_heavy
theorem dX5_charge_0 : decode cX5_charge 0 = .ok (.aload_n 0, 1) := by decide +kernel
theorem dX5_charge_1 : decode cX5_charge 1 = .ok (.iload_n 1, 1) := by decide +kernel
theorem dX5_charge_2 : decode cX5_charge 2 = .ok (.iload_n 2, 1) := by decide +kernel
theorem dX5_charge_3 : decode cX5_charge 3 = .ok (.invokevirtual 179, 3) := by decide +kernel
theorem dX5_charge_6 : decode cX5_charge 6 = .ok (.istore 4, 2) := by decide +kernel
theorem dX5_charge_8 : decode cX5_charge 8 = .ok (.bipush 8, 2) := by decide +kernel
theorem dX5_charge_10 : decode cX5_charge 10 = .ok (.iload_n 1, 1) := by decide +kernel
theorem dX5_charge_11 : decode cX5_charge 11 = .ok (.imul, 1) := by decide +kernel
theorem dX5_charge_12 : decode cX5_charge 12 = .ok (.iload_n 2, 1) := by decide +kernel
theorem dX5_charge_13 : decode cX5_charge 13 = .ok (.iadd, 1) := by decide +kernel
theorem dX5_charge_14 : decode cX5_charge 14 = .ok (.istore 5, 2) := by decide +kernel
theorem dX5_charge_16 : decode cX5_charge 16 = .ok (.aload_n 0, 1) := by decide +kernel
theorem dX5_charge_17 : decode cX5_charge 17 = .ok (.iload_n 3, 1) := by decide +kernel
theorem dX5_charge_18 : decode cX5_charge 18 = .ok (.invokevirtual 182, 3) := by decide +kernel
theorem dX5_charge_21 : decode cX5_charge 21 = .ok (.istore 6, 2) := by decide +kernel
theorem dX5_charge_23 : decode cX5_charge 23 = .ok (.iload 4, 2) := by decide +kernel
theorem dX5_charge_25 : decode cX5_charge 25 = .ok (.ifCond .eq 36, 3) := by decide +kernel
theorem dX5_charge_28 : decode cX5_charge 28 = .ok (.iload 6, 2) := by decide +kernel
theorem dX5_charge_30 : decode cX5_charge 30 = .ok (.ifCond .eq 31, 3) := by decide +kernel
theorem dX5_charge_33 : decode cX5_charge 33 = .ok (.aload_n 0, 1) := by decide +kernel
theorem dX5_charge_34 : decode cX5_charge 34 = .ok (.getfield 62, 3) := by decide +kernel
theorem dX5_charge_37 : decode cX5_charge 37 = .ok (.iload 5, 2) := by decide +kernel
theorem dX5_charge_39 : decode cX5_charge 39 = .ok (.iaload, 1) := by decide +kernel
theorem dX5_charge_40 : decode cX5_charge 40 = .ok (.ifCond .ne 21, 3) := by decide +kernel
theorem dX5_charge_43 : decode cX5_charge 43 = .ok (.aload_n 0, 1) := by decide +kernel
theorem dX5_charge_44 : decode cX5_charge 44 = .ok (.iload 5, 2) := by decide +kernel
theorem dX5_charge_46 : decode cX5_charge 46 = .ok (.iload_n 3, 1) := by decide +kernel
theorem dX5_charge_47 : decode cX5_charge 47 = .ok (.aload_n 0, 1) := by decide +kernel
theorem dX5_charge_48 : decode cX5_charge 48 = .ok (.getfield 135, 3) := by decide +kernel
theorem dX5_charge_51 : decode cX5_charge 51 = .ok (.invokevirtual 176, 3) := by decide +kernel
theorem dX5_charge_54 : decode cX5_charge 54 = .ok (.ifCond .eq 7, 3) := by decide +kernel
theorem dX5_charge_57 : decode cX5_charge 57 = .ok (.iconst 1, 1) := by decide +kernel
theorem dX5_charge_58 : decode cX5_charge 58 = .ok (.goto 4, 3) := by decide +kernel
theorem dX5_charge_61 : decode cX5_charge 61 = .ok (.iconst 0, 1) := by decide +kernel
theorem dX5_charge_62 : decode cX5_charge 62 = .ok (.istore 7, 2) := by decide +kernel
theorem dX5_charge_64 : decode cX5_charge 64 = .ok (.aload_n 0, 1) := by decide +kernel
theorem dX5_charge_65 : decode cX5_charge 65 = .ok (.iload 4, 2) := by decide +kernel
theorem dX5_charge_67 : decode cX5_charge 67 = .ok (.ifCond .ne 7, 3) := by decide +kernel
theorem dX5_charge_70 : decode cX5_charge 70 = .ok (.iconst 1, 1) := by decide +kernel
theorem dX5_charge_71 : decode cX5_charge 71 = .ok (.goto 22, 3) := by decide +kernel
theorem dX5_charge_74 : decode cX5_charge 74 = .ok (.iload 6, 2) := by decide +kernel
theorem dX5_charge_76 : decode cX5_charge 76 = .ok (.ifCond .ne 7, 3) := by decide +kernel
theorem dX5_charge_79 : decode cX5_charge 79 = .ok (.iconst 2, 1) := by decide +kernel
theorem dX5_charge_80 : decode cX5_charge 80 = .ok (.goto 13, 3) := by decide +kernel
theorem dX5_charge_83 : decode cX5_charge 83 = .ok (.iload 7, 2) := by decide +kernel
theorem dX5_charge_85 : decode cX5_charge 85 = .ok (.ifCond .eq 7, 3) := by decide +kernel
theorem dX5_charge_88 : decode cX5_charge 88 = .ok (.iconst 0, 1) := by decide +kernel
theorem dX5_charge_89 : decode cX5_charge 89 = .ok (.goto 4, 3) := by decide +kernel
theorem dX5_charge_92 : decode cX5_charge 92 = .ok (.iconst 3, 1) := by decide +kernel
theorem dX5_charge_93 : decode cX5_charge 93 = .ok (.invokevirtual 128, 3) := by decide +kernel
theorem dX5_charge_96 : decode cX5_charge 96 = .ok (.ifCond .eq 5, 3) := by decide +kernel
theorem dX5_charge_99 : decode cX5_charge 99 = .ok (.iconst 0, 1) := by decide +kernel
theorem dX5_charge_100 : decode cX5_charge 100 = .ok (.ireturn, 1) := by decide +kernel
theorem dX5_charge_101 : decode cX5_charge 101 = .ok (.aload_n 0, 1) := by decide +kernel
theorem dX5_charge_102 : decode cX5_charge 102 = .ok (.getfield 62, 3) := by decide +kernel
theorem dX5_charge_105 : decode cX5_charge 105 = .ok (.iload 5, 2) := by decide +kernel
theorem dX5_charge_107 : decode cX5_charge 107 = .ok (.iconst 2, 1) := by decide +kernel
theorem dX5_charge_108 : decode cX5_charge 108 = .ok (.iastore, 1) := by decide +kernel
theorem dX5_charge_109 : decode cX5_charge 109 = .ok (.aload_n 0, 1) := by decide +kernel
theorem dX5_charge_110 : decode cX5_charge 110 = .ok (.getfield 65, 3) := by decide +kernel
theorem dX5_charge_113 : decode cX5_charge 113 = .ok (.iload 5, 2) := by decide +kernel
theorem dX5_charge_115 : decode cX5_charge 115 = .ok (.iload_n 3, 1) := by decide +kernel
theorem dX5_charge_116 : decode cX5_charge 116 = .ok (.iastore, 1) := by decide +kernel
theorem dX5_charge_117 : decode cX5_charge 117 = .ok (.aload_n 0, 1) := by decide +kernel
theorem dX5_charge_118 : decode cX5_charge 118 = .ok (.getfield 68, 3) := by decide +kernel
theorem dX5_charge_121 : decode cX5_charge 121 = .ok (.iload 5, 2) := by decide +kernel
theorem dX5_charge_123 : decode cX5_charge 123 = .ok (.aload_n 0, 1) := by decide +kernel
theorem dX5_charge_124 : decode cX5_charge 124 = .ok (.getfield 135, 3) := by decide +kernel
theorem dX5_charge_127 : decode cX5_charge 127 = .ok (.iastore, 1) := by decide +kernel
theorem dX5_charge_128 : decode cX5_charge 128 = .ok (.aload_n 0, 1) := by decide +kernel
theorem dX5_charge_129 : decode cX5_charge 129 = .ok (.getfield 80, 3) := by decide +kernel
theorem dX5_charge_132 : decode cX5_charge 132 = .ok (.iload 5, 2) := by decide +kernel
theorem dX5_charge_134 : decode cX5_charge 134 = .ok (.iconst 0, 1) := by decide +kernel
theorem dX5_charge_135 : decode cX5_charge 135 = .ok (.iastore, 1) := by decide +kernel
theorem dX5_charge_136 : decode cX5_charge 136 = .ok (.aload_n 0, 1) := by decide +kernel
theorem dX5_charge_137 : decode cX5_charge 137 = .ok (.iload_n 3, 1) := by decide +kernel
theorem dX5_charge_138 : decode cX5_charge 138 = .ok (.invokevirtual 173, 3) := by decide +kernel
theorem dX5_charge_141 : decode cX5_charge 141 = .ok (.ireturn, 1) := by decide +kernel
set_option maxRecDepth 20000 in
theorem ggX5_drop_X5_isIn : GoodIn wsX5_drop wsX5_isIn := goodIn_r _ [11, 12, 13, 14, 15, 10, 16, 17, 18, 19, 25, 26, 27, 28, 29, 30, 31, 32, 33, 34, 35, 36, 37, 38, 39, 40, 41, 42, 43, 44, 45, 46, 47, 48, 49, 50, 51, 52, 53, 54, 55, 56, 57, 58, 59, 60, 61, 62] (by decide +kernel) (by decide +kernel)
set_option maxRecDepth 20000 in
theorem gX5_drop_X5_isIn : GoodIn wsX5_drop (wsV RX5 179 RX5 yX5_isIn wsX5_isIn) := goodIn_app (goodIn_of _ (by decide +kernel)) ggX5_drop_X5_isIn
set_option maxRecDepth 20000 in
theorem ggX5_drop_X5_refused : GoodIn wsX5_drop wsX5_refused := goodIn_r _ [23, 24, 25, 26, 27, 28, 29, 30, 31, 32, 33, 34, 35, 36, 37, 38, 39, 40, 41, 42, 43, 44, 45, 46, 47, 48, 49, 50, 51, 52, 53, 54, 55, 56, 57, 58, 59, 60, 61, 62] (by decide +kernel) (by decide +kernel)
set_option maxRecDepth 20000 in
theorem gX5_drop_X5_refused : GoodIn wsX5_drop (wsV RX5 128 RX5 yX5_refused wsX5_refused) := goodIn_app (goodIn_of _ (by decide +kernel)) ggX5_drop_X5_refused
theorem dX5_drop_0 : decode cX5_drop 0 = .ok (.aload_n 0, 1) := by decide +kernel
theorem dX5_drop_1 : decode cX5_drop 1 = .ok (.iload_n 1, 1) := by decide +kernel
theorem dX5_drop_2 : decode cX5_drop 2 = .ok (.iload_n 2, 1) := by decide +kernel
theorem dX5_drop_3 : decode cX5_drop 3 = .ok (.invokevirtual 179, 3) := by decide +kernel
theorem dX5_drop_6 : decode cX5_drop 6 = .ok (.istore_n 3, 1) := by decide +kernel
theorem dX5_drop_7 : decode cX5_drop 7 = .ok (.bipush 8, 2) := by decide +kernel
theorem dX5_drop_9 : decode cX5_drop 9 = .ok (.iload_n 1, 1) := by decide +kernel
theorem dX5_drop_10 : decode cX5_drop 10 = .ok (.imul, 1) := by decide +kernel
theorem dX5_drop_11 : decode cX5_drop 11 = .ok (.iload_n 2, 1) := by decide +kernel
theorem dX5_drop_12 : decode cX5_drop 12 = .ok (.iadd, 1) := by decide +kernel
theorem dX5_drop_13 : decode cX5_drop 13 = .ok (.istore 4, 2) := by decide +kernel
theorem dX5_drop_15 : decode cX5_drop 15 = .ok (.aload_n 0, 1) := by decide +kernel
theorem dX5_drop_16 : decode cX5_drop 16 = .ok (.iload_n 3, 1) := by decide +kernel
theorem dX5_drop_17 : decode cX5_drop 17 = .ok (.ifCond .ne 7, 3) := by decide +kernel
theorem dX5_drop_20 : decode cX5_drop 20 = .ok (.iconst 1, 1) := by decide +kernel
theorem dX5_drop_21 : decode cX5_drop 21 = .ok (.goto 18, 3) := by decide +kernel
theorem dX5_drop_24 : decode cX5_drop 24 = .ok (.aload_n 0, 1) := by decide +kernel
theorem dX5_drop_25 : decode cX5_drop 25 = .ok (.getfield 62, 3) := by decide +kernel
theorem dX5_drop_28 : decode cX5_drop 28 = .ok (.iload 4, 2) := by decide +kernel
theorem dX5_drop_30 : decode cX5_drop 30 = .ok (.iaload, 1) := by decide +kernel
theorem dX5_drop_31 : decode cX5_drop 31 = .ok (.ifCond .ne 7, 3) := by decide +kernel
theorem dX5_drop_34 : decode cX5_drop 34 = .ok (.iconst 0, 1) := by decide +kernel
theorem dX5_drop_35 : decode cX5_drop 35 = .ok (.goto 4, 3) := by decide +kernel
theorem dX5_drop_38 : decode cX5_drop 38 = .ok (.iconst 2, 1) := by decide +kernel
theorem dX5_drop_39 : decode cX5_drop 39 = .ok (.invokevirtual 128, 3) := by decide +kernel
theorem dX5_drop_42 : decode cX5_drop 42 = .ok (.ifCond .eq 4, 3) := by decide +kernel
theorem dX5_drop_45 : decode cX5_drop 45 = .ok (.return_, 1) := by decide +kernel
theorem dX5_drop_46 : decode cX5_drop 46 = .ok (.aload_n 0, 1) := by decide +kernel
theorem dX5_drop_47 : decode cX5_drop 47 = .ok (.getfield 62, 3) := by decide +kernel
theorem dX5_drop_50 : decode cX5_drop 50 = .ok (.iload 4, 2) := by decide +kernel
theorem dX5_drop_52 : decode cX5_drop 52 = .ok (.iconst 1, 1) := by decide +kernel
theorem dX5_drop_53 : decode cX5_drop 53 = .ok (.iastore, 1) := by decide +kernel
theorem dX5_drop_54 : decode cX5_drop 54 = .ok (.aload_n 0, 1) := by decide +kernel
theorem dX5_drop_55 : decode cX5_drop 55 = .ok (.getfield 68, 3) := by decide +kernel
theorem dX5_drop_58 : decode cX5_drop 58 = .ok (.iload 4, 2) := by decide +kernel
theorem dX5_drop_60 : decode cX5_drop 60 = .ok (.aload_n 0, 1) := by decide +kernel
theorem dX5_drop_61 : decode cX5_drop 61 = .ok (.getfield 135, 3) := by decide +kernel
theorem dX5_drop_64 : decode cX5_drop 64 = .ok (.iastore, 1) := by decide +kernel
theorem dX5_drop_65 : decode cX5_drop 65 = .ok (.aload_n 0, 1) := by decide +kernel
theorem dX5_drop_66 : decode cX5_drop 66 = .ok (.getfield 71, 3) := by decide +kernel
theorem dX5_drop_69 : decode cX5_drop 69 = .ok (.iload 4, 2) := by decide +kernel
theorem dX5_drop_71 : decode cX5_drop 71 = .ok (.iconst 0, 1) := by decide +kernel
theorem dX5_drop_72 : decode cX5_drop 72 = .ok (.bastore, 1) := by decide +kernel
theorem dX5_drop_73 : decode cX5_drop 73 = .ok (.aload_n 0, 1) := by decide +kernel
theorem dX5_drop_74 : decode cX5_drop 74 = .ok (.getfield 74, 3) := by decide +kernel
theorem dX5_drop_77 : decode cX5_drop 77 = .ok (.iload 4, 2) := by decide +kernel
theorem dX5_drop_79 : decode cX5_drop 79 = .ok (.iconst 0, 1) := by decide +kernel
theorem dX5_drop_80 : decode cX5_drop 80 = .ok (.bastore, 1) := by decide +kernel
theorem dX5_drop_81 : decode cX5_drop 81 = .ok (.aload_n 0, 1) := by decide +kernel
theorem dX5_drop_82 : decode cX5_drop 82 = .ok (.getfield 104, 3) := by decide +kernel
theorem dX5_drop_85 : decode cX5_drop 85 = .ok (.iconst 3, 1) := by decide +kernel
theorem dX5_drop_86 : decode cX5_drop 86 = .ok (.dup2, 1) := by decide +kernel
theorem dX5_drop_87 : decode cX5_drop 87 = .ok (.iaload, 1) := by decide +kernel
theorem dX5_drop_88 : decode cX5_drop 88 = .ok (.iconst 1, 1) := by decide +kernel
theorem dX5_drop_89 : decode cX5_drop 89 = .ok (.iadd, 1) := by decide +kernel
theorem dX5_drop_90 : decode cX5_drop 90 = .ok (.iastore, 1) := by decide +kernel
theorem dX5_drop_91 : decode cX5_drop 91 = .ok (.return_, 1) := by decide +kernel
set_option maxRecDepth 20000 in
theorem ggX5_review_X5_isIn : GoodIn wsX5_review wsX5_isIn := goodIn_r _ [11, 12, 13, 14, 15, 10, 16, 17, 18, 19, 62, 63, 64, 65, 66, 67, 68, 69, 70, 71, 72, 73, 74, 75, 76, 77, 78, 79, 80, 81, 82, 83, 84, 85, 86, 87, 88, 89, 90, 91, 92, 93, 94, 95, 96, 97, 98, 99] (by decide +kernel) (by decide +kernel)
set_option maxRecDepth 20000 in
theorem gX5_review_X5_isIn : GoodIn wsX5_review (wsV RX5 179 RX5 yX5_isIn wsX5_isIn) := goodIn_app (goodIn_of _ (by decide +kernel)) ggX5_review_X5_isIn
set_option maxRecDepth 20000 in
theorem ggX5_review_X5_refused : GoodIn wsX5_review wsX5_refused := goodIn_r _ [23, 24, 62, 63, 64, 65, 66, 67, 68, 69, 70, 71, 72, 73, 74, 75, 76, 77, 78, 79, 80, 81, 82, 83, 84, 85, 86, 87, 88, 89, 90, 91, 92, 93, 94, 95, 96, 97, 98, 99] (by decide +kernel) (by decide +kernel)
set_option maxRecDepth 20000 in
theorem gX5_review_X5_refused : GoodIn wsX5_review (wsV RX5 128 RX5 yX5_refused wsX5_refused) := goodIn_app (goodIn_of _ (by decide +kernel)) ggX5_review_X5_refused
set_option maxRecDepth 20000 in
theorem ggX5_review_X5_why : GoodIn wsX5_review wsX5_why := goodIn_r _ [28, 29, 30, 31, 32, 33, 34, 35, 10, 36, 37, 5, 38, 39, 40, 17, 18, 19, 41, 42, 43, 44, 45, 46, 47, 48, 49, 50, 51, 52, 53, 54, 55, 56, 57, 58, 59, 60, 61, 62, 63, 64, 65, 66, 67, 68, 69, 70, 71, 72, 73, 74, 75, 76, 77, 78, 79, 80, 81, 82, 83, 84, 85, 86, 87, 88, 89, 90, 91, 92, 93, 94, 95, 96, 97, 98, 99] (by decide +kernel) (by decide +kernel)
set_option maxRecDepth 20000 in
theorem gX5_review_X5_why : GoodIn wsX5_review (wsV RX5 170 RX5 yX5_why wsX5_why) := goodIn_app (goodIn_of _ (by decide +kernel)) ggX5_review_X5_why
theorem dX5_review_0 : decode cX5_review 0 = .ok (.aload_n 0, 1) := by decide +kernel
theorem dX5_review_1 : decode cX5_review 1 = .ok (.iload_n 1, 1) := by decide +kernel
theorem dX5_review_2 : decode cX5_review 2 = .ok (.iload_n 2, 1) := by decide +kernel
theorem dX5_review_3 : decode cX5_review 3 = .ok (.invokevirtual 179, 3) := by decide +kernel
theorem dX5_review_6 : decode cX5_review 6 = .ok (.istore_n 3, 1) := by decide +kernel
theorem dX5_review_7 : decode cX5_review 7 = .ok (.bipush 8, 2) := by decide +kernel
theorem dX5_review_9 : decode cX5_review 9 = .ok (.iload_n 1, 1) := by decide +kernel
theorem dX5_review_10 : decode cX5_review 10 = .ok (.imul, 1) := by decide +kernel
theorem dX5_review_11 : decode cX5_review 11 = .ok (.iload_n 2, 1) := by decide +kernel
theorem dX5_review_12 : decode cX5_review 12 = .ok (.iadd, 1) := by decide +kernel
theorem dX5_review_13 : decode cX5_review 13 = .ok (.istore 4, 2) := by decide +kernel
theorem dX5_review_15 : decode cX5_review 15 = .ok (.iload_n 3, 1) := by decide +kernel
theorem dX5_review_16 : decode cX5_review 16 = .ok (.ifCond .eq 45, 3) := by decide +kernel
theorem dX5_review_19 : decode cX5_review 19 = .ok (.aload_n 0, 1) := by decide +kernel
theorem dX5_review_20 : decode cX5_review 20 = .ok (.getfield 62, 3) := by decide +kernel
theorem dX5_review_23 : decode cX5_review 23 = .ok (.iload 4, 2) := by decide +kernel
theorem dX5_review_25 : decode cX5_review 25 = .ok (.iaload, 1) := by decide +kernel
theorem dX5_review_26 : decode cX5_review 26 = .ok (.iconst 1, 1) := by decide +kernel
theorem dX5_review_27 : decode cX5_review 27 = .ok (.if_icmp .ne 34, 3) := by decide +kernel
theorem dX5_review_30 : decode cX5_review 30 = .ok (.aload_n 0, 1) := by decide +kernel
theorem dX5_review_31 : decode cX5_review 31 = .ok (.getfield 135, 3) := by decide +kernel
theorem dX5_review_34 : decode cX5_review 34 = .ok (.aload_n 0, 1) := by decide +kernel
theorem dX5_review_35 : decode cX5_review 35 = .ok (.getfield 68, 3) := by decide +kernel
theorem dX5_review_38 : decode cX5_review 38 = .ok (.iload 4, 2) := by decide +kernel
theorem dX5_review_40 : decode cX5_review 40 = .ok (.iaload, 1) := by decide +kernel
theorem dX5_review_41 : decode cX5_review 41 = .ok (.isub, 1) := by decide +kernel
theorem dX5_review_42 : decode cX5_review 42 = .ok (.bipush 30, 2) := by decide +kernel
theorem dX5_review_44 : decode cX5_review 44 = .ok (.if_icmp .gt 17, 3) := by decide +kernel
theorem dX5_review_47 : decode cX5_review 47 = .ok (.aload_n 0, 1) := by decide +kernel
theorem dX5_review_48 : decode cX5_review 48 = .ok (.getfield 71, 3) := by decide +kernel
theorem dX5_review_51 : decode cX5_review 51 = .ok (.iload 4, 2) := by decide +kernel
theorem dX5_review_53 : decode cX5_review 53 = .ok (.baload, 1) := by decide +kernel
theorem dX5_review_54 : decode cX5_review 54 = .ok (.ifCond .ne 7, 3) := by decide +kernel
theorem dX5_review_57 : decode cX5_review 57 = .ok (.iconst 1, 1) := by decide +kernel
theorem dX5_review_58 : decode cX5_review 58 = .ok (.goto 4, 3) := by decide +kernel
theorem dX5_review_61 : decode cX5_review 61 = .ok (.iconst 0, 1) := by decide +kernel
theorem dX5_review_62 : decode cX5_review 62 = .ok (.istore 5, 2) := by decide +kernel
theorem dX5_review_64 : decode cX5_review 64 = .ok (.aload_n 0, 1) := by decide +kernel
theorem dX5_review_65 : decode cX5_review 65 = .ok (.iload_n 3, 1) := by decide +kernel
theorem dX5_review_66 : decode cX5_review 66 = .ok (.ifCond .ne 7, 3) := by decide +kernel
theorem dX5_review_69 : decode cX5_review 69 = .ok (.iconst 1, 1) := by decide +kernel
theorem dX5_review_70 : decode cX5_review 70 = .ok (.goto 13, 3) := by decide +kernel
theorem dX5_review_73 : decode cX5_review 73 = .ok (.iload 5, 2) := by decide +kernel
theorem dX5_review_75 : decode cX5_review 75 = .ok (.ifCond .eq 7, 3) := by decide +kernel
theorem dX5_review_78 : decode cX5_review 78 = .ok (.iconst 0, 1) := by decide +kernel
theorem dX5_review_79 : decode cX5_review 79 = .ok (.goto 4, 3) := by decide +kernel
theorem dX5_review_82 : decode cX5_review 82 = .ok (.iconst 2, 1) := by decide +kernel
theorem dX5_review_83 : decode cX5_review 83 = .ok (.invokevirtual 128, 3) := by decide +kernel
theorem dX5_review_86 : decode cX5_review 86 = .ok (.ifCond .eq 5, 3) := by decide +kernel
theorem dX5_review_89 : decode cX5_review 89 = .ok (.iconst 0, 1) := by decide +kernel
theorem dX5_review_90 : decode cX5_review 90 = .ok (.ireturn, 1) := by decide +kernel
theorem dX5_review_91 : decode cX5_review 91 = .ok (.aload_n 0, 1) := by decide +kernel
theorem dX5_review_92 : decode cX5_review 92 = .ok (.getfield 71, 3) := by decide +kernel
theorem dX5_review_95 : decode cX5_review 95 = .ok (.iload 4, 2) := by decide +kernel
theorem dX5_review_97 : decode cX5_review 97 = .ok (.iconst 1, 1) := by decide +kernel
theorem dX5_review_98 : decode cX5_review 98 = .ok (.bastore, 1) := by decide +kernel
theorem dX5_review_99 : decode cX5_review 99 = .ok (.iconst 0, 1) := by decide +kernel
theorem dX5_review_100 : decode cX5_review 100 = .ok (.istore 6, 2) := by decide +kernel
theorem dX5_review_102 : decode cX5_review 102 = .ok (.iconst 0, 1) := by decide +kernel
theorem dX5_review_103 : decode cX5_review 103 = .ok (.istore 7, 2) := by decide +kernel
theorem dX5_review_105 : decode cX5_review 105 = .ok (.iload 7, 2) := by decide +kernel
theorem dX5_review_107 : decode cX5_review 107 = .ok (.aload_n 0, 1) := by decide +kernel
theorem dX5_review_108 : decode cX5_review 108 = .ok (.getfield 111, 3) := by decide +kernel
theorem dX5_review_111 : decode cX5_review 111 = .ok (.if_icmp .ge 39, 3) := by decide +kernel
theorem dX5_review_114 : decode cX5_review 114 = .ok (.iload 6, 2) := by decide +kernel
theorem dX5_review_116 : decode cX5_review 116 = .ok (.ifCond .ne 21, 3) := by decide +kernel
theorem dX5_review_119 : decode cX5_review 119 = .ok (.aload_n 0, 1) := by decide +kernel
theorem dX5_review_120 : decode cX5_review 120 = .ok (.iload 4, 2) := by decide +kernel
theorem dX5_review_122 : decode cX5_review 122 = .ok (.iload 7, 2) := by decide +kernel
theorem dX5_review_124 : decode cX5_review 124 = .ok (.aload_n 0, 1) := by decide +kernel
theorem dX5_review_125 : decode cX5_review 125 = .ok (.getfield 68, 3) := by decide +kernel
theorem dX5_review_128 : decode cX5_review 128 = .ok (.iload 4, 2) := by decide +kernel
theorem dX5_review_130 : decode cX5_review 130 = .ok (.iaload, 1) := by decide +kernel
theorem dX5_review_131 : decode cX5_review 131 = .ok (.invokevirtual 170, 3) := by decide +kernel
theorem dX5_review_134 : decode cX5_review 134 = .ok (.ifCond .ne 7, 3) := by decide +kernel
theorem dX5_review_137 : decode cX5_review 137 = .ok (.iconst 1, 1) := by decide +kernel
theorem dX5_review_138 : decode cX5_review 138 = .ok (.goto 4, 3) := by decide +kernel
theorem dX5_review_141 : decode cX5_review 141 = .ok (.iconst 0, 1) := by decide +kernel
theorem dX5_review_142 : decode cX5_review 142 = .ok (.istore 6, 2) := by decide +kernel
theorem dX5_review_144 : decode cX5_review 144 = .ok (.iinc 7 1, 3) := by decide +kernel
theorem dX5_review_147 : decode cX5_review 147 = .ok (.goto (-42), 3) := by decide +kernel
theorem dX5_review_150 : decode cX5_review 150 = .ok (.aload_n 0, 1) := by decide +kernel
theorem dX5_review_151 : decode cX5_review 151 = .ok (.getfield 62, 3) := by decide +kernel
theorem dX5_review_154 : decode cX5_review 154 = .ok (.iload 4, 2) := by decide +kernel
theorem dX5_review_156 : decode cX5_review 156 = .ok (.iload 6, 2) := by decide +kernel
theorem dX5_review_158 : decode cX5_review 158 = .ok (.ifCond .eq 7, 3) := by decide +kernel
theorem dX5_review_161 : decode cX5_review 161 = .ok (.iconst 0, 1) := by decide +kernel
theorem dX5_review_162 : decode cX5_review 162 = .ok (.goto 4, 3) := by decide +kernel
theorem dX5_review_165 : decode cX5_review 165 = .ok (.iconst 1, 1) := by decide +kernel
theorem dX5_review_166 : decode cX5_review 166 = .ok (.iastore, 1) := by decide +kernel
theorem dX5_review_167 : decode cX5_review 167 = .ok (.aload_n 0, 1) := by decide +kernel
theorem dX5_review_168 : decode cX5_review 168 = .ok (.getfield 104, 3) := by decide +kernel
theorem dX5_review_171 : decode cX5_review 171 = .ok (.iconst 4, 1) := by decide +kernel
theorem dX5_review_172 : decode cX5_review 172 = .ok (.dup2, 1) := by decide +kernel
theorem dX5_review_173 : decode cX5_review 173 = .ok (.iaload, 1) := by decide +kernel
theorem dX5_review_174 : decode cX5_review 174 = .ok (.iload 6, 2) := by decide +kernel
theorem dX5_review_176 : decode cX5_review 176 = .ok (.ifCond .eq 7, 3) := by decide +kernel
theorem dX5_review_179 : decode cX5_review 179 = .ok (.iconst 1, 1) := by decide +kernel
theorem dX5_review_180 : decode cX5_review 180 = .ok (.goto 4, 3) := by decide +kernel
theorem dX5_review_183 : decode cX5_review 183 = .ok (.iconst 0, 1) := by decide +kernel
theorem dX5_review_184 : decode cX5_review 184 = .ok (.iadd, 1) := by decide +kernel
theorem dX5_review_185 : decode cX5_review 185 = .ok (.iastore, 1) := by decide +kernel
theorem dX5_review_186 : decode cX5_review 186 = .ok (.iload 6, 2) := by decide +kernel
theorem dX5_review_188 : decode cX5_review 188 = .ok (.ireturn, 1) := by decide +kernel
theorem dX5_spend_0 : decode cX5_spend 0 = .ok (.aload_n 0, 1) := by decide +kernel
theorem dX5_spend_1 : decode cX5_spend 1 = .ok (.getfield 95, 3) := by decide +kernel
theorem dX5_spend_4 : decode cX5_spend 4 = .ok (.aload_n 0, 1) := by decide +kernel
theorem dX5_spend_5 : decode cX5_spend 5 = .ok (.getfield 153, 3) := by decide +kernel
theorem dX5_spend_8 : decode cX5_spend 8 = .ok (.iload_n 1, 1) := by decide +kernel
theorem dX5_spend_9 : decode cX5_spend 9 = .ok (.iastore, 1) := by decide +kernel
theorem dX5_spend_10 : decode cX5_spend 10 = .ok (.aload_n 0, 1) := by decide +kernel
theorem dX5_spend_11 : decode cX5_spend 11 = .ok (.getfield 98, 3) := by decide +kernel
theorem dX5_spend_14 : decode cX5_spend 14 = .ok (.aload_n 0, 1) := by decide +kernel
theorem dX5_spend_15 : decode cX5_spend 15 = .ok (.getfield 153, 3) := by decide +kernel
theorem dX5_spend_18 : decode cX5_spend 18 = .ok (.aload_n 0, 1) := by decide +kernel
theorem dX5_spend_19 : decode cX5_spend 19 = .ok (.getfield 135, 3) := by decide +kernel
theorem dX5_spend_22 : decode cX5_spend 22 = .ok (.iastore, 1) := by decide +kernel
theorem dX5_spend_23 : decode cX5_spend 23 = .ok (.aload_n 0, 1) := by decide +kernel
theorem dX5_spend_24 : decode cX5_spend 24 = .ok (.getfield 101, 3) := by decide +kernel
theorem dX5_spend_27 : decode cX5_spend 27 = .ok (.aload_n 0, 1) := by decide +kernel
theorem dX5_spend_28 : decode cX5_spend 28 = .ok (.getfield 153, 3) := by decide +kernel
theorem dX5_spend_31 : decode cX5_spend 31 = .ok (.aload_n 0, 1) := by decide +kernel
theorem dX5_spend_32 : decode cX5_spend 32 = .ok (.getfield 65, 3) := by decide +kernel
theorem dX5_spend_35 : decode cX5_spend 35 = .ok (.iload_n 1, 1) := by decide +kernel
theorem dX5_spend_36 : decode cX5_spend 36 = .ok (.iaload, 1) := by decide +kernel
theorem dX5_spend_37 : decode cX5_spend 37 = .ok (.iastore, 1) := by decide +kernel
theorem dX5_spend_38 : decode cX5_spend 38 = .ok (.aload_n 0, 1) := by decide +kernel
theorem dX5_spend_39 : decode cX5_spend 39 = .ok (.dup, 1) := by decide +kernel
theorem dX5_spend_40 : decode cX5_spend 40 = .ok (.getfield 153, 3) := by decide +kernel
theorem dX5_spend_43 : decode cX5_spend 43 = .ok (.iconst 1, 1) := by decide +kernel
theorem dX5_spend_44 : decode cX5_spend 44 = .ok (.iadd, 1) := by decide +kernel
theorem dX5_spend_45 : decode cX5_spend 45 = .ok (.putfield 153, 3) := by decide +kernel
theorem dX5_spend_48 : decode cX5_spend 48 = .ok (.aload_n 0, 1) := by decide +kernel
theorem dX5_spend_49 : decode cX5_spend 49 = .ok (.getfield 62, 3) := by decide +kernel
theorem dX5_spend_52 : decode cX5_spend 52 = .ok (.iload_n 1, 1) := by decide +kernel
theorem dX5_spend_53 : decode cX5_spend 53 = .ok (.iconst 0, 1) := by decide +kernel
theorem dX5_spend_54 : decode cX5_spend 54 = .ok (.iastore, 1) := by decide +kernel
theorem dX5_spend_55 : decode cX5_spend 55 = .ok (.aload_n 0, 1) := by decide +kernel
theorem dX5_spend_56 : decode cX5_spend 56 = .ok (.getfield 65, 3) := by decide +kernel
theorem dX5_spend_59 : decode cX5_spend 59 = .ok (.iload_n 1, 1) := by decide +kernel
theorem dX5_spend_60 : decode cX5_spend 60 = .ok (.iconst 0, 1) := by decide +kernel
theorem dX5_spend_61 : decode cX5_spend 61 = .ok (.iastore, 1) := by decide +kernel
theorem dX5_spend_62 : decode cX5_spend 62 = .ok (.aload_n 0, 1) := by decide +kernel
theorem dX5_spend_63 : decode cX5_spend 63 = .ok (.getfield 80, 3) := by decide +kernel
theorem dX5_spend_66 : decode cX5_spend 66 = .ok (.iload_n 1, 1) := by decide +kernel
theorem dX5_spend_67 : decode cX5_spend 67 = .ok (.iconst 0, 1) := by decide +kernel
theorem dX5_spend_68 : decode cX5_spend 68 = .ok (.iastore, 1) := by decide +kernel
theorem dX5_spend_69 : decode cX5_spend 69 = .ok (.aload_n 0, 1) := by decide +kernel
theorem dX5_spend_70 : decode cX5_spend 70 = .ok (.getfield 74, 3) := by decide +kernel
theorem dX5_spend_73 : decode cX5_spend 73 = .ok (.iload_n 1, 1) := by decide +kernel
theorem dX5_spend_74 : decode cX5_spend 74 = .ok (.iconst 0, 1) := by decide +kernel
theorem dX5_spend_75 : decode cX5_spend 75 = .ok (.bastore, 1) := by decide +kernel
theorem dX5_spend_76 : decode cX5_spend 76 = .ok (.return_, 1) := by decide +kernel
set_option maxRecDepth 20000 in
theorem ggX5_trial_X5_isIn : GoodIn wsX5_trial wsX5_isIn := goodIn_r _ [11, 12, 13, 14, 15, 10, 16, 17, 18, 19, 61, 62, 63, 64, 65, 66, 67, 68, 69, 70, 71, 72, 73, 74, 75, 76, 77, 78, 79, 80, 81, 82, 83, 84, 85, 86, 87, 88, 89, 90, 91, 92, 93, 94, 95, 96, 97, 98] (by decide +kernel) (by decide +kernel)
set_option maxRecDepth 20000 in
theorem gX5_trial_X5_isIn : GoodIn wsX5_trial (wsV RX5 179 RX5 yX5_isIn wsX5_isIn) := goodIn_app (goodIn_of _ (by decide +kernel)) ggX5_trial_X5_isIn
set_option maxRecDepth 20000 in
theorem ggX5_trial_X5_lacking : GoodIn wsX5_trial wsX5_lacking := goodIn_r _ [23, 24, 25, 26, 27, 28, 29, 17, 18, 10, 19, 61, 62, 63, 64, 65, 66, 67, 68, 69, 70, 71, 72, 73, 74, 75, 76, 77, 78, 79, 80, 81, 82, 83, 84, 85, 86, 87, 88, 89, 90, 91, 92, 93, 94, 95, 96, 97, 98] (by decide +kernel) (by decide +kernel)
set_option maxRecDepth 20000 in
theorem gX5_trial_X5_lacking : GoodIn wsX5_trial (wsV RX5 145 RX5 yX5_lacking wsX5_lacking) := goodIn_app (goodIn_of _ (by decide +kernel)) ggX5_trial_X5_lacking
set_option maxRecDepth 20000 in
theorem ggX5_trial_X5_refused : GoodIn wsX5_trial wsX5_refused := goodIn_r _ [33, 34, 61, 62, 63, 64, 65, 66, 67, 68, 69, 70, 71, 72, 73, 74, 75, 76, 77, 78, 79, 80, 81, 82, 83, 84, 85, 86, 87, 88, 89, 90, 91, 92, 93, 94, 95, 96, 97, 98] (by decide +kernel) (by decide +kernel)
set_option maxRecDepth 20000 in
theorem gX5_trial_X5_refused : GoodIn wsX5_trial (wsV RX5 128 RX5 yX5_refused wsX5_refused) := goodIn_app (goodIn_of _ (by decide +kernel)) ggX5_trial_X5_refused
set_option maxRecDepth 20000 in
theorem ggX5_trial_X5_has : GoodIn wsX5_trial wsX5_has := goodIn_r _ [19] (by decide +kernel) (by decide +kernel)
set_option maxRecDepth 20000 in
theorem gX5_trial_X5_has : GoodIn wsX5_trial (va_wsS RX5 124 yX5_has wsX5_has) := goodIn_app (goodIn_of _ (by decide +kernel)) ggX5_trial_X5_has
set_option maxRecDepth 20000 in
theorem ggX5_trial_X5_areStrong : GoodIn wsX5_trial wsX5_areStrong := goodIn_r _ [38, 39, 17, 18, 10, 19, 40, 41, 42, 43, 24, 25, 44, 27, 45, 46, 47, 26, 61, 62, 63, 64, 65, 66, 67, 68, 69, 70, 71, 72, 73, 74, 75, 76, 77, 78, 79, 80, 81, 82, 83, 84, 85, 86, 87, 88, 89, 90, 91, 92, 93, 94, 95, 96, 97, 98] (by decide +kernel) (by decide +kernel)
set_option maxRecDepth 20000 in
theorem gX5_trial_X5_areStrong : GoodIn wsX5_trial (wsV RX5 162 RX5 yX5_areStrong wsX5_areStrong) := goodIn_app (goodIn_of _ (by decide +kernel)) ggX5_trial_X5_areStrong
set_option maxRecDepth 20000 in
theorem ggX5_trial_X5_size : GoodIn wsX5_trial wsX5_size := goodIn_r _ [50] (by decide +kernel) (by decide +kernel)
set_option maxRecDepth 20000 in
theorem gX5_trial_X5_size : GoodIn wsX5_trial (va_wsS RX5 166 yX5_size wsX5_size) := goodIn_app (goodIn_of _ (by decide +kernel)) ggX5_trial_X5_size
set_option maxRecDepth 20000 in
theorem ggX5_trial_X5_spend : GoodIn wsX5_trial wsX5_spend := goodIn_r _ [54, 55, 56, 57, 4, 58, 3, 1, 59, 60, 61, 62, 63, 64, 65, 66, 67, 68, 69, 70, 71, 72, 73, 74, 75, 76, 77, 78, 79, 80, 81, 82, 83, 84, 85, 86, 87, 88, 89, 90, 91, 92, 93, 94, 95, 96, 97, 98] (by decide +kernel) (by decide +kernel)
set_option maxRecDepth 20000 in
theorem gX5_trial_X5_spend : GoodIn wsX5_trial (wsV RX5 185 RX5 yX5_spend wsX5_spend) := goodIn_app (goodIn_of _ (by decide +kernel)) ggX5_trial_X5_spend
theorem dX5_trial_0 : decode cX5_trial 0 = .ok (.aload_n 0, 1) := by decide +kernel
theorem dX5_trial_1 : decode cX5_trial 1 = .ok (.iload_n 1, 1) := by decide +kernel
theorem dX5_trial_2 : decode cX5_trial 2 = .ok (.iload_n 2, 1) := by decide +kernel
theorem dX5_trial_3 : decode cX5_trial 3 = .ok (.invokevirtual 179, 3) := by decide +kernel
theorem dX5_trial_6 : decode cX5_trial 6 = .ok (.istore_n 3, 1) := by decide +kernel
theorem dX5_trial_7 : decode cX5_trial 7 = .ok (.bipush 8, 2) := by decide +kernel
theorem dX5_trial_9 : decode cX5_trial 9 = .ok (.iload_n 1, 1) := by decide +kernel
theorem dX5_trial_10 : decode cX5_trial 10 = .ok (.imul, 1) := by decide +kernel
theorem dX5_trial_11 : decode cX5_trial 11 = .ok (.iload_n 2, 1) := by decide +kernel
theorem dX5_trial_12 : decode cX5_trial 12 = .ok (.iadd, 1) := by decide +kernel
theorem dX5_trial_13 : decode cX5_trial 13 = .ok (.istore 4, 2) := by decide +kernel
theorem dX5_trial_15 : decode cX5_trial 15 = .ok (.iload_n 3, 1) := by decide +kernel
theorem dX5_trial_16 : decode cX5_trial 16 = .ok (.ifCond .eq 27, 3) := by decide +kernel
theorem dX5_trial_19 : decode cX5_trial 19 = .ok (.aload_n 0, 1) := by decide +kernel
theorem dX5_trial_20 : decode cX5_trial 20 = .ok (.getfield 62, 3) := by decide +kernel
theorem dX5_trial_23 : decode cX5_trial 23 = .ok (.iload 4, 2) := by decide +kernel
theorem dX5_trial_25 : decode cX5_trial 25 = .ok (.iaload, 1) := by decide +kernel
theorem dX5_trial_26 : decode cX5_trial 26 = .ok (.iconst 2, 1) := by decide +kernel
theorem dX5_trial_27 : decode cX5_trial 27 = .ok (.if_icmp .ne 16, 3) := by decide +kernel
theorem dX5_trial_30 : decode cX5_trial 30 = .ok (.aload_n 0, 1) := by decide +kernel
theorem dX5_trial_31 : decode cX5_trial 31 = .ok (.iload_n 1, 1) := by decide +kernel
theorem dX5_trial_32 : decode cX5_trial 32 = .ok (.iload_n 2, 1) := by decide +kernel
theorem dX5_trial_33 : decode cX5_trial 33 = .ok (.invokevirtual 145, 3) := by decide +kernel
theorem dX5_trial_36 : decode cX5_trial 36 = .ok (.ifCond .ne 7, 3) := by decide +kernel
theorem dX5_trial_39 : decode cX5_trial 39 = .ok (.iconst 1, 1) := by decide +kernel
theorem dX5_trial_40 : decode cX5_trial 40 = .ok (.goto 4, 3) := by decide +kernel
theorem dX5_trial_43 : decode cX5_trial 43 = .ok (.iconst 0, 1) := by decide +kernel
theorem dX5_trial_44 : decode cX5_trial 44 = .ok (.istore 5, 2) := by decide +kernel
theorem dX5_trial_46 : decode cX5_trial 46 = .ok (.aload_n 0, 1) := by decide +kernel
theorem dX5_trial_47 : decode cX5_trial 47 = .ok (.iload_n 3, 1) := by decide +kernel
theorem dX5_trial_48 : decode cX5_trial 48 = .ok (.ifCond .ne 7, 3) := by decide +kernel
theorem dX5_trial_51 : decode cX5_trial 51 = .ok (.iconst 1, 1) := by decide +kernel
theorem dX5_trial_52 : decode cX5_trial 52 = .ok (.goto 13, 3) := by decide +kernel
theorem dX5_trial_55 : decode cX5_trial 55 = .ok (.iload 5, 2) := by decide +kernel
theorem dX5_trial_57 : decode cX5_trial 57 = .ok (.ifCond .eq 7, 3) := by decide +kernel
theorem dX5_trial_60 : decode cX5_trial 60 = .ok (.iconst 0, 1) := by decide +kernel
theorem dX5_trial_61 : decode cX5_trial 61 = .ok (.goto 4, 3) := by decide +kernel
theorem dX5_trial_64 : decode cX5_trial 64 = .ok (.iconst 2, 1) := by decide +kernel
theorem dX5_trial_65 : decode cX5_trial 65 = .ok (.invokevirtual 128, 3) := by decide +kernel
theorem dX5_trial_68 : decode cX5_trial 68 = .ok (.ifCond .eq 5, 3) := by decide +kernel
theorem dX5_trial_71 : decode cX5_trial 71 = .ok (.iconst 0, 1) := by decide +kernel
theorem dX5_trial_72 : decode cX5_trial 72 = .ok (.ireturn, 1) := by decide +kernel
theorem dX5_trial_73 : decode cX5_trial 73 = .ok (.iconst 0, 1) := by decide +kernel
theorem dX5_trial_74 : decode cX5_trial 74 = .ok (.istore 6, 2) := by decide +kernel
theorem dX5_trial_76 : decode cX5_trial 76 = .ok (.iconst 0, 1) := by decide +kernel
theorem dX5_trial_77 : decode cX5_trial 77 = .ok (.istore 7, 2) := by decide +kernel
theorem dX5_trial_79 : decode cX5_trial 79 = .ok (.iload 7, 2) := by decide +kernel
theorem dX5_trial_81 : decode cX5_trial 81 = .ok (.aload_n 0, 1) := by decide +kernel
theorem dX5_trial_82 : decode cX5_trial 82 = .ok (.getfield 111, 3) := by decide +kernel
theorem dX5_trial_85 : decode cX5_trial 85 = .ok (.if_icmp .ge 54, 3) := by decide +kernel
theorem dX5_trial_88 : decode cX5_trial 88 = .ok (.iload 6, 2) := by decide +kernel
theorem dX5_trial_90 : decode cX5_trial 90 = .ok (.aload_n 0, 1) := by decide +kernel
theorem dX5_trial_91 : decode cX5_trial 91 = .ok (.getfield 65, 3) := by decide +kernel
theorem dX5_trial_94 : decode cX5_trial 94 = .ok (.iload 4, 2) := by decide +kernel
theorem dX5_trial_96 : decode cX5_trial 96 = .ok (.iaload, 1) := by decide +kernel
theorem dX5_trial_97 : decode cX5_trial 97 = .ok (.iload 7, 2) := by decide +kernel
theorem dX5_trial_99 : decode cX5_trial 99 = .ok (.invokestatic 124, 3) := by decide +kernel
theorem dX5_trial_102 : decode cX5_trial 102 = .ok (.ifCond .eq 27, 3) := by decide +kernel
theorem dX5_trial_105 : decode cX5_trial 105 = .ok (.aload_n 0, 1) := by decide +kernel
theorem dX5_trial_106 : decode cX5_trial 106 = .ok (.iload 4, 2) := by decide +kernel
theorem dX5_trial_108 : decode cX5_trial 108 = .ok (.iload 7, 2) := by decide +kernel
theorem dX5_trial_110 : decode cX5_trial 110 = .ok (.bipush 8, 2) := by decide +kernel
theorem dX5_trial_112 : decode cX5_trial 112 = .ok (.aload_n 0, 1) := by decide +kernel
theorem dX5_trial_113 : decode cX5_trial 113 = .ok (.getfield 135, 3) := by decide +kernel
theorem dX5_trial_116 : decode cX5_trial 116 = .ok (.invokevirtual 162, 3) := by decide +kernel
theorem dX5_trial_119 : decode cX5_trial 119 = .ok (.ifCond .eq 10, 3) := by decide +kernel
theorem dX5_trial_122 : decode cX5_trial 122 = .ok (.iconst 1, 1) := by decide +kernel
theorem dX5_trial_123 : decode cX5_trial 123 = .ok (.iload 7, 2) := by decide +kernel
theorem dX5_trial_125 : decode cX5_trial 125 = .ok (.ishl, 1) := by decide +kernel
theorem dX5_trial_126 : decode cX5_trial 126 = .ok (.goto 4, 3) := by decide +kernel
theorem dX5_trial_129 : decode cX5_trial 129 = .ok (.iconst 0, 1) := by decide +kernel
theorem dX5_trial_130 : decode cX5_trial 130 = .ok (.ior, 1) := by decide +kernel
theorem dX5_trial_131 : decode cX5_trial 131 = .ok (.istore 6, 2) := by decide +kernel
theorem dX5_trial_133 : decode cX5_trial 133 = .ok (.iinc 7 1, 3) := by decide +kernel
theorem dX5_trial_136 : decode cX5_trial 136 = .ok (.goto (-57), 3) := by decide +kernel
theorem dX5_trial_139 : decode cX5_trial 139 = .ok (.aload_n 0, 1) := by decide +kernel
theorem dX5_trial_140 : decode cX5_trial 140 = .ok (.getfield 104, 3) := by decide +kernel
theorem dX5_trial_143 : decode cX5_trial 143 = .ok (.iconst 0, 1) := by decide +kernel
theorem dX5_trial_144 : decode cX5_trial 144 = .ok (.dup2, 1) := by decide +kernel
theorem dX5_trial_145 : decode cX5_trial 145 = .ok (.iaload, 1) := by decide +kernel
theorem dX5_trial_146 : decode cX5_trial 146 = .ok (.iload 6, 2) := by decide +kernel
theorem dX5_trial_148 : decode cX5_trial 148 = .ok (.invokestatic 166, 3) := by decide +kernel
theorem dX5_trial_151 : decode cX5_trial 151 = .ok (.iadd, 1) := by decide +kernel
theorem dX5_trial_152 : decode cX5_trial 152 = .ok (.iastore, 1) := by decide +kernel
theorem dX5_trial_153 : decode cX5_trial 153 = .ok (.aload_n 0, 1) := by decide +kernel
theorem dX5_trial_154 : decode cX5_trial 154 = .ok (.getfield 104, 3) := by decide +kernel
theorem dX5_trial_157 : decode cX5_trial 157 = .ok (.iconst 1, 1) := by decide +kernel
theorem dX5_trial_158 : decode cX5_trial 158 = .ok (.dup2, 1) := by decide +kernel
theorem dX5_trial_159 : decode cX5_trial 159 = .ok (.iaload, 1) := by decide +kernel
theorem dX5_trial_160 : decode cX5_trial 160 = .ok (.aload_n 0, 1) := by decide +kernel
theorem dX5_trial_161 : decode cX5_trial 161 = .ok (.getfield 65, 3) := by decide +kernel
theorem dX5_trial_164 : decode cX5_trial 164 = .ok (.iload 4, 2) := by decide +kernel
theorem dX5_trial_166 : decode cX5_trial 166 = .ok (.iaload, 1) := by decide +kernel
theorem dX5_trial_167 : decode cX5_trial 167 = .ok (.iload 6, 2) := by decide +kernel
theorem dX5_trial_169 : decode cX5_trial 169 = .ok (.iconst (-1), 1) := by decide +kernel
theorem dX5_trial_170 : decode cX5_trial 170 = .ok (.ixor, 1) := by decide +kernel
theorem dX5_trial_171 : decode cX5_trial 171 = .ok (.iand, 1) := by decide +kernel
theorem dX5_trial_172 : decode cX5_trial 172 = .ok (.invokestatic 166, 3) := by decide +kernel
theorem dX5_trial_175 : decode cX5_trial 175 = .ok (.iadd, 1) := by decide +kernel
theorem dX5_trial_176 : decode cX5_trial 176 = .ok (.iastore, 1) := by decide +kernel
theorem dX5_trial_177 : decode cX5_trial 177 = .ok (.aload_n 0, 1) := by decide +kernel
theorem dX5_trial_178 : decode cX5_trial 178 = .ok (.getfield 92, 3) := by decide +kernel
theorem dX5_trial_181 : decode cX5_trial 181 = .ok (.iload 4, 2) := by decide +kernel
theorem dX5_trial_183 : decode cX5_trial 183 = .ok (.dup2, 1) := by decide +kernel
theorem dX5_trial_184 : decode cX5_trial 184 = .ok (.iaload, 1) := by decide +kernel
theorem dX5_trial_185 : decode cX5_trial 185 = .ok (.iload 6, 2) := by decide +kernel
theorem dX5_trial_187 : decode cX5_trial 187 = .ok (.ior, 1) := by decide +kernel
theorem dX5_trial_188 : decode cX5_trial 188 = .ok (.iastore, 1) := by decide +kernel
theorem dX5_trial_189 : decode cX5_trial 189 = .ok (.aload_n 0, 1) := by decide +kernel
theorem dX5_trial_190 : decode cX5_trial 190 = .ok (.iload 4, 2) := by decide +kernel
theorem dX5_trial_192 : decode cX5_trial 192 = .ok (.invokevirtual 185, 3) := by decide +kernel
theorem dX5_trial_195 : decode cX5_trial 195 = .ok (.iload 6, 2) := by decide +kernel
theorem dX5_trial_197 : decode cX5_trial 197 = .ok (.ireturn, 1) := by decide +kernel
set_option maxRecDepth 20000 in
theorem ggX5_plea_X5_isIn : GoodIn wsX5_plea wsX5_isIn := goodIn_r _ [12, 13, 14, 15, 16, 11, 17, 18, 19, 20, 49, 50, 51, 52, 53, 54, 55, 56, 57, 58, 59, 60, 61, 62, 63, 64, 65, 66, 67, 68, 69, 70, 71, 72, 73, 74, 75, 76, 77, 78, 79, 80, 81, 82, 83, 84, 85, 86] (by decide +kernel) (by decide +kernel)
set_option maxRecDepth 20000 in
theorem gX5_plea_X5_isIn : GoodIn wsX5_plea (wsV RX5 179 RX5 yX5_isIn wsX5_isIn) := goodIn_app (goodIn_of _ (by decide +kernel)) ggX5_plea_X5_isIn
set_option maxRecDepth 20000 in
theorem ggX5_plea_X5_areThere : GoodIn wsX5_plea wsX5_areThere := goodIn_r _ [24, 25, 49, 50, 51, 52, 53, 54, 55, 56, 57, 58, 59, 60, 61, 62, 63, 64, 65, 66, 67, 68, 69, 70, 71, 72, 73, 74, 75, 76, 77, 78, 79, 80, 81, 82, 83, 84, 85, 86] (by decide +kernel) (by decide +kernel)
set_option maxRecDepth 20000 in
theorem gX5_plea_X5_areThere : GoodIn wsX5_plea (wsV RX5 182 RX5 yX5_areThere wsX5_areThere) := goodIn_app (goodIn_of _ (by decide +kernel)) ggX5_plea_X5_areThere
set_option maxRecDepth 20000 in
theorem ggX5_plea_X5_heavy : GoodIn wsX5_plea wsX5_heavy := goodIn_r _ [29, 25, 30, 18, 19, 11, 20, 49, 50, 51, 52, 53, 54, 55, 56, 57, 58, 59, 60, 61, 62, 63, 64, 65, 66, 67, 68, 69, 70, 71, 72, 73, 74, 75, 76, 77, 78, 79, 80, 81, 82, 83, 84, 85, 86] (by decide +kernel) (by decide +kernel)
set_option maxRecDepth 20000 in
theorem gX5_plea_X5_heavy : GoodIn wsX5_plea (wsV RX5 173 RX5 yX5_heavy wsX5_heavy) := goodIn_app (goodIn_of _ (by decide +kernel)) ggX5_plea_X5_heavy
set_option maxRecDepth 20000 in
theorem ggX5_plea_X5_refused : GoodIn wsX5_plea wsX5_refused := goodIn_r _ [34, 35, 49, 50, 51, 52, 53, 54, 55, 56, 57, 58, 59, 60, 61, 62, 63, 64, 65, 66, 67, 68, 69, 70, 71, 72, 73, 74, 75, 76, 77, 78, 79, 80, 81, 82, 83, 84, 85, 86] (by decide +kernel) (by decide +kernel)
set_option maxRecDepth 20000 in
theorem gX5_plea_X5_refused : GoodIn wsX5_plea (wsV RX5 128 RX5 yX5_refused wsX5_refused) := goodIn_app (goodIn_of _ (by decide +kernel)) ggX5_plea_X5_refused
set_option maxRecDepth 20000 in
theorem ggX5_plea_X5_size : GoodIn wsX5_plea wsX5_size := goodIn_r _ [38] (by decide +kernel) (by decide +kernel)
set_option maxRecDepth 20000 in
theorem gX5_plea_X5_size : GoodIn wsX5_plea (va_wsS RX5 166 yX5_size wsX5_size) := goodIn_app (goodIn_of _ (by decide +kernel)) ggX5_plea_X5_size
set_option maxRecDepth 20000 in
theorem ggX5_plea_X5_spend : GoodIn wsX5_plea wsX5_spend := goodIn_r _ [42, 43, 44, 45, 3, 46, 2, 1, 47, 48, 49, 50, 51, 52, 53, 54, 55, 56, 57, 58, 59, 60, 61, 62, 63, 64, 65, 66, 67, 68, 69, 70, 71, 72, 73, 74, 75, 76, 77, 78, 79, 80, 81, 82, 83, 84, 85, 86] (by decide +kernel) (by decide +kernel)
set_option maxRecDepth 20000 in
theorem gX5_plea_X5_spend : GoodIn wsX5_plea (wsV RX5 185 RX5 yX5_spend wsX5_spend) := goodIn_app (goodIn_of _ (by decide +kernel)) ggX5_plea_X5_spend
theorem dX5_plea_0 : decode cX5_plea 0 = .ok (.aload_n 0, 1) := by decide +kernel
theorem dX5_plea_1 : decode cX5_plea 1 = .ok (.iload_n 1, 1) := by decide +kernel
theorem dX5_plea_2 : decode cX5_plea 2 = .ok (.iload_n 2, 1) := by decide +kernel
theorem dX5_plea_3 : decode cX5_plea 3 = .ok (.invokevirtual 179, 3) := by decide +kernel
theorem dX5_plea_6 : decode cX5_plea 6 = .ok (.istore 4, 2) := by decide +kernel
theorem dX5_plea_8 : decode cX5_plea 8 = .ok (.bipush 8, 2) := by decide +kernel
theorem dX5_plea_10 : decode cX5_plea 10 = .ok (.iload_n 1, 1) := by decide +kernel
theorem dX5_plea_11 : decode cX5_plea 11 = .ok (.imul, 1) := by decide +kernel
theorem dX5_plea_12 : decode cX5_plea 12 = .ok (.iload_n 2, 1) := by decide +kernel
theorem dX5_plea_13 : decode cX5_plea 13 = .ok (.iadd, 1) := by decide +kernel
theorem dX5_plea_14 : decode cX5_plea 14 = .ok (.istore 5, 2) := by decide +kernel
theorem dX5_plea_16 : decode cX5_plea 16 = .ok (.aload_n 0, 1) := by decide +kernel
theorem dX5_plea_17 : decode cX5_plea 17 = .ok (.iload_n 3, 1) := by decide +kernel
theorem dX5_plea_18 : decode cX5_plea 18 = .ok (.invokevirtual 182, 3) := by decide +kernel
theorem dX5_plea_21 : decode cX5_plea 21 = .ok (.istore 6, 2) := by decide +kernel
theorem dX5_plea_23 : decode cX5_plea 23 = .ok (.iload 4, 2) := by decide +kernel
theorem dX5_plea_25 : decode cX5_plea 25 = .ok (.ifCond .eq 62, 3) := by decide +kernel
theorem dX5_plea_28 : decode cX5_plea 28 = .ok (.iload 6, 2) := by decide +kernel
theorem dX5_plea_30 : decode cX5_plea 30 = .ok (.ifCond .eq 57, 3) := by decide +kernel
theorem dX5_plea_33 : decode cX5_plea 33 = .ok (.aload_n 0, 1) := by decide +kernel
theorem dX5_plea_34 : decode cX5_plea 34 = .ok (.getfield 62, 3) := by decide +kernel
theorem dX5_plea_37 : decode cX5_plea 37 = .ok (.iload 5, 2) := by decide +kernel
theorem dX5_plea_39 : decode cX5_plea 39 = .ok (.iaload, 1) := by decide +kernel
theorem dX5_plea_40 : decode cX5_plea 40 = .ok (.iconst 2, 1) := by decide +kernel
theorem dX5_plea_41 : decode cX5_plea 41 = .ok (.if_icmp .ne 46, 3) := by decide +kernel
theorem dX5_plea_44 : decode cX5_plea 44 = .ok (.iload_n 3, 1) := by decide +kernel
theorem dX5_plea_45 : decode cX5_plea 45 = .ok (.ifCond .eq 42, 3) := by decide +kernel
theorem dX5_plea_48 : decode cX5_plea 48 = .ok (.iload_n 3, 1) := by decide +kernel
theorem dX5_plea_49 : decode cX5_plea 49 = .ok (.aload_n 0, 1) := by decide +kernel
theorem dX5_plea_50 : decode cX5_plea 50 = .ok (.getfield 65, 3) := by decide +kernel
theorem dX5_plea_53 : decode cX5_plea 53 = .ok (.iload 5, 2) := by decide +kernel
theorem dX5_plea_55 : decode cX5_plea 55 = .ok (.iaload, 1) := by decide +kernel
theorem dX5_plea_56 : decode cX5_plea 56 = .ok (.iconst (-1), 1) := by decide +kernel
theorem dX5_plea_57 : decode cX5_plea 57 = .ok (.ixor, 1) := by decide +kernel
theorem dX5_plea_58 : decode cX5_plea 58 = .ok (.iand, 1) := by decide +kernel
theorem dX5_plea_59 : decode cX5_plea 59 = .ok (.ifCond .ne 28, 3) := by decide +kernel
theorem dX5_plea_62 : decode cX5_plea 62 = .ok (.iconst 2, 1) := by decide +kernel
theorem dX5_plea_63 : decode cX5_plea 63 = .ok (.aload_n 0, 1) := by decide +kernel
theorem dX5_plea_64 : decode cX5_plea 64 = .ok (.iload_n 3, 1) := by decide +kernel
theorem dX5_plea_65 : decode cX5_plea 65 = .ok (.invokevirtual 173, 3) := by decide +kernel
theorem dX5_plea_68 : decode cX5_plea 68 = .ok (.imul, 1) := by decide +kernel
theorem dX5_plea_69 : decode cX5_plea 69 = .ok (.aload_n 0, 1) := by decide +kernel
theorem dX5_plea_70 : decode cX5_plea 70 = .ok (.aload_n 0, 1) := by decide +kernel
theorem dX5_plea_71 : decode cX5_plea 71 = .ok (.getfield 65, 3) := by decide +kernel
theorem dX5_plea_74 : decode cX5_plea 74 = .ok (.iload 5, 2) := by decide +kernel
theorem dX5_plea_76 : decode cX5_plea 76 = .ok (.iaload, 1) := by decide +kernel
theorem dX5_plea_77 : decode cX5_plea 77 = .ok (.invokevirtual 173, 3) := by decide +kernel
theorem dX5_plea_80 : decode cX5_plea 80 = .ok (.if_icmp .lt 7, 3) := by decide +kernel
theorem dX5_plea_83 : decode cX5_plea 83 = .ok (.iconst 1, 1) := by decide +kernel
theorem dX5_plea_84 : decode cX5_plea 84 = .ok (.goto 4, 3) := by decide +kernel
theorem dX5_plea_87 : decode cX5_plea 87 = .ok (.iconst 0, 1) := by decide +kernel
theorem dX5_plea_88 : decode cX5_plea 88 = .ok (.istore 7, 2) := by decide +kernel
theorem dX5_plea_90 : decode cX5_plea 90 = .ok (.aload_n 0, 1) := by decide +kernel
theorem dX5_plea_91 : decode cX5_plea 91 = .ok (.iload 4, 2) := by decide +kernel
theorem dX5_plea_93 : decode cX5_plea 93 = .ok (.ifCond .ne 7, 3) := by decide +kernel
theorem dX5_plea_96 : decode cX5_plea 96 = .ok (.iconst 1, 1) := by decide +kernel
theorem dX5_plea_97 : decode cX5_plea 97 = .ok (.goto 22, 3) := by decide +kernel
theorem dX5_plea_100 : decode cX5_plea 100 = .ok (.iload 6, 2) := by decide +kernel
theorem dX5_plea_102 : decode cX5_plea 102 = .ok (.ifCond .ne 7, 3) := by decide +kernel
theorem dX5_plea_105 : decode cX5_plea 105 = .ok (.iconst 2, 1) := by decide +kernel
theorem dX5_plea_106 : decode cX5_plea 106 = .ok (.goto 13, 3) := by decide +kernel
theorem dX5_plea_109 : decode cX5_plea 109 = .ok (.iload 7, 2) := by decide +kernel
theorem dX5_plea_111 : decode cX5_plea 111 = .ok (.ifCond .eq 7, 3) := by decide +kernel
theorem dX5_plea_114 : decode cX5_plea 114 = .ok (.iconst 0, 1) := by decide +kernel
theorem dX5_plea_115 : decode cX5_plea 115 = .ok (.goto 4, 3) := by decide +kernel
theorem dX5_plea_118 : decode cX5_plea 118 = .ok (.iconst 3, 1) := by decide +kernel
theorem dX5_plea_119 : decode cX5_plea 119 = .ok (.invokevirtual 128, 3) := by decide +kernel
theorem dX5_plea_122 : decode cX5_plea 122 = .ok (.ifCond .eq 5, 3) := by decide +kernel
theorem dX5_plea_125 : decode cX5_plea 125 = .ok (.iconst 0, 1) := by decide +kernel
theorem dX5_plea_126 : decode cX5_plea 126 = .ok (.ireturn, 1) := by decide +kernel
theorem dX5_plea_127 : decode cX5_plea 127 = .ok (.aload_n 0, 1) := by decide +kernel
theorem dX5_plea_128 : decode cX5_plea 128 = .ok (.getfield 135, 3) := by decide +kernel
theorem dX5_plea_131 : decode cX5_plea 131 = .ok (.aload_n 0, 1) := by decide +kernel
theorem dX5_plea_132 : decode cX5_plea 132 = .ok (.getfield 68, 3) := by decide +kernel
theorem dX5_plea_135 : decode cX5_plea 135 = .ok (.iload 5, 2) := by decide +kernel
theorem dX5_plea_137 : decode cX5_plea 137 = .ok (.iaload, 1) := by decide +kernel
theorem dX5_plea_138 : decode cX5_plea 138 = .ok (.isub, 1) := by decide +kernel
theorem dX5_plea_139 : decode cX5_plea 139 = .ok (.istore 8, 2) := by decide +kernel
theorem dX5_plea_141 : decode cX5_plea 141 = .ok (.iload 8, 2) := by decide +kernel
theorem dX5_plea_143 : decode cX5_plea 143 = .ok (.bipush 10, 2) := by decide +kernel
theorem dX5_plea_145 : decode cX5_plea 145 = .ok (.if_icmp .gt 8, 3) := by decide +kernel
theorem dX5_plea_148 : decode cX5_plea 148 = .ok (.bipush 33, 2) := by decide +kernel
theorem dX5_plea_150 : decode cX5_plea 150 = .ok (.goto 17, 3) := by decide +kernel
theorem dX5_plea_153 : decode cX5_plea 153 = .ok (.iload 8, 2) := by decide +kernel
theorem dX5_plea_155 : decode cX5_plea 155 = .ok (.bipush 30, 2) := by decide +kernel
theorem dX5_plea_157 : decode cX5_plea 157 = .ok (.if_icmp .gt 8, 3) := by decide +kernel
theorem dX5_plea_160 : decode cX5_plea 160 = .ok (.bipush 25, 2) := by decide +kernel
theorem dX5_plea_162 : decode cX5_plea 162 = .ok (.goto 5, 3) := by decide +kernel
theorem dX5_plea_165 : decode cX5_plea 165 = .ok (.bipush 10, 2) := by decide +kernel
theorem dX5_plea_167 : decode cX5_plea 167 = .ok (.istore 9, 2) := by decide +kernel
theorem dX5_plea_169 : decode cX5_plea 169 = .ok (.bipush 12, 2) := by decide +kernel
theorem dX5_plea_171 : decode cX5_plea 171 = .ok (.aload_n 0, 1) := by decide +kernel
theorem dX5_plea_172 : decode cX5_plea 172 = .ok (.iload_n 3, 1) := by decide +kernel
theorem dX5_plea_173 : decode cX5_plea 173 = .ok (.invokevirtual 173, 3) := by decide +kernel
theorem dX5_plea_176 : decode cX5_plea 176 = .ok (.imul, 1) := by decide +kernel
theorem dX5_plea_177 : decode cX5_plea 177 = .ok (.bipush 100, 2) := by decide +kernel
theorem dX5_plea_179 : decode cX5_plea 179 = .ok (.iload 9, 2) := by decide +kernel
theorem dX5_plea_181 : decode cX5_plea 181 = .ok (.isub, 1) := by decide +kernel
theorem dX5_plea_182 : decode cX5_plea 182 = .ok (.imul, 1) := by decide +kernel
theorem dX5_plea_183 : decode cX5_plea 183 = .ok (.bipush 100, 2) := by decide +kernel
theorem dX5_plea_185 : decode cX5_plea 185 = .ok (.idiv, 1) := by decide +kernel
theorem dX5_plea_186 : decode cX5_plea 186 = .ok (.istore 10, 2) := by decide +kernel
theorem dX5_plea_188 : decode cX5_plea 188 = .ok (.aload_n 0, 1) := by decide +kernel
theorem dX5_plea_189 : decode cX5_plea 189 = .ok (.getfield 89, 3) := by decide +kernel
theorem dX5_plea_192 : decode cX5_plea 192 = .ok (.iload 5, 2) := by decide +kernel
theorem dX5_plea_194 : decode cX5_plea 194 = .ok (.dup2, 1) := by decide +kernel
theorem dX5_plea_195 : decode cX5_plea 195 = .ok (.iaload, 1) := by decide +kernel
theorem dX5_plea_196 : decode cX5_plea 196 = .ok (.iload 10, 2) := by decide +kernel
theorem dX5_plea_198 : decode cX5_plea 198 = .ok (.iadd, 1) := by decide +kernel
theorem dX5_plea_199 : decode cX5_plea 199 = .ok (.iastore, 1) := by decide +kernel
theorem dX5_plea_200 : decode cX5_plea 200 = .ok (.aload_n 0, 1) := by decide +kernel
theorem dX5_plea_201 : decode cX5_plea 201 = .ok (.getfield 92, 3) := by decide +kernel
theorem dX5_plea_204 : decode cX5_plea 204 = .ok (.iload 5, 2) := by decide +kernel
theorem dX5_plea_206 : decode cX5_plea 206 = .ok (.dup2, 1) := by decide +kernel
theorem dX5_plea_207 : decode cX5_plea 207 = .ok (.iaload, 1) := by decide +kernel
theorem dX5_plea_208 : decode cX5_plea 208 = .ok (.iload_n 3, 1) := by decide +kernel
theorem dX5_plea_209 : decode cX5_plea 209 = .ok (.ior, 1) := by decide +kernel
theorem dX5_plea_210 : decode cX5_plea 210 = .ok (.iastore, 1) := by decide +kernel
theorem dX5_plea_211 : decode cX5_plea 211 = .ok (.aload_n 0, 1) := by decide +kernel
theorem dX5_plea_212 : decode cX5_plea 212 = .ok (.getfield 104, 3) := by decide +kernel
theorem dX5_plea_215 : decode cX5_plea 215 = .ok (.iconst 0, 1) := by decide +kernel
theorem dX5_plea_216 : decode cX5_plea 216 = .ok (.dup2, 1) := by decide +kernel
theorem dX5_plea_217 : decode cX5_plea 217 = .ok (.iaload, 1) := by decide +kernel
theorem dX5_plea_218 : decode cX5_plea 218 = .ok (.iload_n 3, 1) := by decide +kernel
theorem dX5_plea_219 : decode cX5_plea 219 = .ok (.invokestatic 166, 3) := by decide +kernel
theorem dX5_plea_222 : decode cX5_plea 222 = .ok (.iadd, 1) := by decide +kernel
theorem dX5_plea_223 : decode cX5_plea 223 = .ok (.iastore, 1) := by decide +kernel
theorem dX5_plea_224 : decode cX5_plea 224 = .ok (.aload_n 0, 1) := by decide +kernel
theorem dX5_plea_225 : decode cX5_plea 225 = .ok (.getfield 104, 3) := by decide +kernel
theorem dX5_plea_228 : decode cX5_plea 228 = .ok (.iconst 2, 1) := by decide +kernel
theorem dX5_plea_229 : decode cX5_plea 229 = .ok (.dup2, 1) := by decide +kernel
theorem dX5_plea_230 : decode cX5_plea 230 = .ok (.iaload, 1) := by decide +kernel
theorem dX5_plea_231 : decode cX5_plea 231 = .ok (.iconst 1, 1) := by decide +kernel
theorem dX5_plea_232 : decode cX5_plea 232 = .ok (.iadd, 1) := by decide +kernel
theorem dX5_plea_233 : decode cX5_plea 233 = .ok (.iastore, 1) := by decide +kernel
theorem dX5_plea_234 : decode cX5_plea 234 = .ok (.aload_n 0, 1) := by decide +kernel
theorem dX5_plea_235 : decode cX5_plea 235 = .ok (.iload 5, 2) := by decide +kernel
theorem dX5_plea_237 : decode cX5_plea 237 = .ok (.invokevirtual 185, 3) := by decide +kernel
theorem dX5_plea_240 : decode cX5_plea 240 = .ok (.iload 10, 2) := by decide +kernel
theorem dX5_plea_242 : decode cX5_plea 242 = .ok (.ireturn, 1) := by decide +kernel
theorem dX5_leftOf_0 : decode cX5_leftOf 0 = .ok (.aload_n 0, 1) := by decide +kernel
theorem dX5_leftOf_1 : decode cX5_leftOf 1 = .ok (.getfield 62, 3) := by decide +kernel
theorem dX5_leftOf_4 : decode cX5_leftOf 4 = .ok (.iload_n 1, 1) := by decide +kernel
theorem dX5_leftOf_5 : decode cX5_leftOf 5 = .ok (.iaload, 1) := by decide +kernel
theorem dX5_leftOf_6 : decode cX5_leftOf 6 = .ok (.iconst 2, 1) := by decide +kernel
theorem dX5_leftOf_7 : decode cX5_leftOf 7 = .ok (.if_icmp .ne 15, 3) := by decide +kernel
theorem dX5_leftOf_10 : decode cX5_leftOf 10 = .ok (.bipush 60, 2) := by decide +kernel
theorem dX5_leftOf_12 : decode cX5_leftOf 12 = .ok (.aload_n 0, 1) := by decide +kernel
theorem dX5_leftOf_13 : decode cX5_leftOf 13 = .ok (.getfield 80, 3) := by decide +kernel
theorem dX5_leftOf_16 : decode cX5_leftOf 16 = .ok (.iload_n 1, 1) := by decide +kernel
theorem dX5_leftOf_17 : decode cX5_leftOf 17 = .ok (.iaload, 1) := by decide +kernel
theorem dX5_leftOf_18 : decode cX5_leftOf 18 = .ok (.isub, 1) := by decide +kernel
theorem dX5_leftOf_19 : decode cX5_leftOf 19 = .ok (.goto 16, 3) := by decide +kernel
theorem dX5_leftOf_22 : decode cX5_leftOf 22 = .ok (.aload_n 0, 1) := by decide +kernel
theorem dX5_leftOf_23 : decode cX5_leftOf 23 = .ok (.getfield 83, 3) := by decide +kernel
theorem dX5_leftOf_26 : decode cX5_leftOf 26 = .ok (.iload_n 1, 1) := by decide +kernel
theorem dX5_leftOf_27 : decode cX5_leftOf 27 = .ok (.iaload, 1) := by decide +kernel
theorem dX5_leftOf_28 : decode cX5_leftOf 28 = .ok (.aload_n 0, 1) := by decide +kernel
theorem dX5_leftOf_29 : decode cX5_leftOf 29 = .ok (.getfield 77, 3) := by decide +kernel
theorem dX5_leftOf_32 : decode cX5_leftOf 32 = .ok (.iload_n 1, 1) := by decide +kernel
theorem dX5_leftOf_33 : decode cX5_leftOf 33 = .ok (.iaload, 1) := by decide +kernel
theorem dX5_leftOf_34 : decode cX5_leftOf 34 = .ok (.isub, 1) := by decide +kernel
theorem dX5_leftOf_35 : decode cX5_leftOf 35 = .ok (.ireturn, 1) := by decide +kernel
set_option maxRecDepth 20000 in
theorem ggX5_arrest_X5_isIn : GoodIn wsX5_arrest wsX5_isIn := goodIn_r _ [7, 8, 9, 10, 11, 6, 12, 13, 14, 15, 28, 29, 30, 31, 32, 33, 34, 35, 36, 37, 38, 39, 40, 41, 42, 43, 44, 45, 46, 47, 48, 49, 50, 51, 52, 53, 54, 55, 56, 57, 58, 59, 60, 61, 62, 63, 64, 65] (by decide +kernel) (by decide +kernel)
set_option maxRecDepth 20000 in
theorem gX5_arrest_X5_isIn : GoodIn wsX5_arrest (wsV RX5 179 RX5 yX5_isIn wsX5_isIn) := goodIn_app (goodIn_of _ (by decide +kernel)) ggX5_arrest_X5_isIn
set_option maxRecDepth 20000 in
theorem ggX5_arrest_X5_leftOf : GoodIn wsX5_arrest wsX5_leftOf := goodIn_r _ [19, 1, 20, 21, 22, 28, 29, 30, 31, 32, 33, 34, 35, 36, 37, 38, 39, 40, 41, 42, 43, 44, 45, 46, 47, 48, 49, 50, 51, 52, 53, 54, 55, 56, 57, 58, 59, 60, 61, 62, 63, 64, 65] (by decide +kernel) (by decide +kernel)
set_option maxRecDepth 20000 in
theorem gX5_arrest_X5_leftOf : GoodIn wsX5_arrest (wsV RX5 188 RX5 yX5_leftOf wsX5_leftOf) := goodIn_app (goodIn_of _ (by decide +kernel)) ggX5_arrest_X5_leftOf
set_option maxRecDepth 20000 in
theorem ggX5_arrest_X5_refused : GoodIn wsX5_arrest wsX5_refused := goodIn_r _ [26, 27, 28, 29, 30, 31, 32, 33, 34, 35, 36, 37, 38, 39, 40, 41, 42, 43, 44, 45, 46, 47, 48, 49, 50, 51, 52, 53, 54, 55, 56, 57, 58, 59, 60, 61, 62, 63, 64, 65] (by decide +kernel) (by decide +kernel)
set_option maxRecDepth 20000 in
theorem gX5_arrest_X5_refused : GoodIn wsX5_arrest (wsV RX5 128 RX5 yX5_refused wsX5_refused) := goodIn_app (goodIn_of _ (by decide +kernel)) ggX5_arrest_X5_refused
theorem dX5_arrest_0 : decode cX5_arrest 0 = .ok (.aload_n 0, 1) := by decide +kernel
theorem dX5_arrest_1 : decode cX5_arrest 1 = .ok (.iload_n 1, 1) := by decide +kernel
theorem dX5_arrest_2 : decode cX5_arrest 2 = .ok (.iload_n 2, 1) := by decide +kernel
theorem dX5_arrest_3 : decode cX5_arrest 3 = .ok (.invokevirtual 179, 3) := by decide +kernel
theorem dX5_arrest_6 : decode cX5_arrest 6 = .ok (.istore_n 3, 1) := by decide +kernel
theorem dX5_arrest_7 : decode cX5_arrest 7 = .ok (.bipush 8, 2) := by decide +kernel
theorem dX5_arrest_9 : decode cX5_arrest 9 = .ok (.iload_n 1, 1) := by decide +kernel
theorem dX5_arrest_10 : decode cX5_arrest 10 = .ok (.imul, 1) := by decide +kernel
theorem dX5_arrest_11 : decode cX5_arrest 11 = .ok (.iload_n 2, 1) := by decide +kernel
theorem dX5_arrest_12 : decode cX5_arrest 12 = .ok (.iadd, 1) := by decide +kernel
theorem dX5_arrest_13 : decode cX5_arrest 13 = .ok (.istore 4, 2) := by decide +kernel
theorem dX5_arrest_15 : decode cX5_arrest 15 = .ok (.aload_n 0, 1) := by decide +kernel
theorem dX5_arrest_16 : decode cX5_arrest 16 = .ok (.iload_n 3, 1) := by decide +kernel
theorem dX5_arrest_17 : decode cX5_arrest 17 = .ok (.ifCond .ne 7, 3) := by decide +kernel
theorem dX5_arrest_20 : decode cX5_arrest 20 = .ok (.iconst 1, 1) := by decide +kernel
theorem dX5_arrest_21 : decode cX5_arrest 21 = .ok (.goto 38, 3) := by decide +kernel
theorem dX5_arrest_24 : decode cX5_arrest 24 = .ok (.aload_n 0, 1) := by decide +kernel
theorem dX5_arrest_25 : decode cX5_arrest 25 = .ok (.getfield 62, 3) := by decide +kernel
theorem dX5_arrest_28 : decode cX5_arrest 28 = .ok (.iload 4, 2) := by decide +kernel
theorem dX5_arrest_30 : decode cX5_arrest 30 = .ok (.iaload, 1) := by decide +kernel
theorem dX5_arrest_31 : decode cX5_arrest 31 = .ok (.iconst 1, 1) := by decide +kernel
theorem dX5_arrest_32 : decode cX5_arrest 32 = .ok (.if_icmp .eq 22, 3) := by decide +kernel
theorem dX5_arrest_35 : decode cX5_arrest 35 = .ok (.aload_n 0, 1) := by decide +kernel
theorem dX5_arrest_36 : decode cX5_arrest 36 = .ok (.getfield 74, 3) := by decide +kernel
theorem dX5_arrest_39 : decode cX5_arrest 39 = .ok (.iload 4, 2) := by decide +kernel
theorem dX5_arrest_41 : decode cX5_arrest 41 = .ok (.baload, 1) := by decide +kernel
theorem dX5_arrest_42 : decode cX5_arrest 42 = .ok (.ifCond .ne 12, 3) := by decide +kernel
theorem dX5_arrest_45 : decode cX5_arrest 45 = .ok (.aload_n 0, 1) := by decide +kernel
theorem dX5_arrest_46 : decode cX5_arrest 46 = .ok (.iload 4, 2) := by decide +kernel
theorem dX5_arrest_48 : decode cX5_arrest 48 = .ok (.invokevirtual 188, 3) := by decide +kernel
theorem dX5_arrest_51 : decode cX5_arrest 51 = .ok (.ifCond .gt 7, 3) := by decide +kernel
theorem dX5_arrest_54 : decode cX5_arrest 54 = .ok (.iconst 2, 1) := by decide +kernel
theorem dX5_arrest_55 : decode cX5_arrest 55 = .ok (.goto 4, 3) := by decide +kernel
theorem dX5_arrest_58 : decode cX5_arrest 58 = .ok (.iconst 0, 1) := by decide +kernel
theorem dX5_arrest_59 : decode cX5_arrest 59 = .ok (.invokevirtual 128, 3) := by decide +kernel
theorem dX5_arrest_62 : decode cX5_arrest 62 = .ok (.ifCond .eq 5, 3) := by decide +kernel
theorem dX5_arrest_65 : decode cX5_arrest 65 = .ok (.iconst 0, 1) := by decide +kernel
theorem dX5_arrest_66 : decode cX5_arrest 66 = .ok (.ireturn, 1) := by decide +kernel
theorem dX5_arrest_67 : decode cX5_arrest 67 = .ok (.aload_n 0, 1) := by decide +kernel
theorem dX5_arrest_68 : decode cX5_arrest 68 = .ok (.getfield 74, 3) := by decide +kernel
theorem dX5_arrest_71 : decode cX5_arrest 71 = .ok (.iload 4, 2) := by decide +kernel
theorem dX5_arrest_73 : decode cX5_arrest 73 = .ok (.iconst 1, 1) := by decide +kernel
theorem dX5_arrest_74 : decode cX5_arrest 74 = .ok (.bastore, 1) := by decide +kernel
theorem dX5_arrest_75 : decode cX5_arrest 75 = .ok (.aload_n 0, 1) := by decide +kernel
theorem dX5_arrest_76 : decode cX5_arrest 76 = .ok (.iload 4, 2) := by decide +kernel
theorem dX5_arrest_78 : decode cX5_arrest 78 = .ok (.invokevirtual 188, 3) := by decide +kernel
theorem dX5_arrest_81 : decode cX5_arrest 81 = .ok (.ireturn, 1) := by decide +kernel
set_option maxRecDepth 20000 in
theorem ggX5_extend_X5_isIn : GoodIn wsX5_extend wsX5_isIn := goodIn_r _ [8, 9, 10, 11, 12, 7, 13, 14, 15, 16, 22, 23, 24, 25, 26, 27, 28, 29, 30, 31, 32, 33, 34, 35, 36, 37, 38, 39, 40, 41, 42, 43, 44, 45, 46, 47, 48, 49, 50, 51, 52, 53, 54, 55, 56, 57, 58, 59] (by decide +kernel) (by decide +kernel)
set_option maxRecDepth 20000 in
theorem gX5_extend_X5_isIn : GoodIn wsX5_extend (wsV RX5 179 RX5 yX5_isIn wsX5_isIn) := goodIn_app (goodIn_of _ (by decide +kernel)) ggX5_extend_X5_isIn
set_option maxRecDepth 20000 in
theorem ggX5_extend_X5_in : GoodIn wsX5_extend wsX5_in := goodIn_r _ [13] (by decide +kernel) (by decide +kernel)
set_option maxRecDepth 20000 in
theorem gX5_extend_X5_in : GoodIn wsX5_extend (va_wsS RX5 114 yX5_in wsX5_in) := goodIn_app (goodIn_of _ (by decide +kernel)) ggX5_extend_X5_in
set_option maxRecDepth 20000 in
theorem ggX5_extend_X5_has : GoodIn wsX5_extend wsX5_has := goodIn_r _ [16] (by decide +kernel) (by decide +kernel)
set_option maxRecDepth 20000 in
theorem gX5_extend_X5_has : GoodIn wsX5_extend (va_wsS RX5 124 yX5_has wsX5_has) := goodIn_app (goodIn_of _ (by decide +kernel)) ggX5_extend_X5_has
set_option maxRecDepth 20000 in
theorem ggX5_extend_X5_refused : GoodIn wsX5_extend wsX5_refused := goodIn_r _ [20, 21, 22, 23, 24, 25, 26, 27, 28, 29, 30, 31, 32, 33, 34, 35, 36, 37, 38, 39, 40, 41, 42, 43, 44, 45, 46, 47, 48, 49, 50, 51, 52, 53, 54, 55, 56, 57, 58, 59] (by decide +kernel) (by decide +kernel)
set_option maxRecDepth 20000 in
theorem gX5_extend_X5_refused : GoodIn wsX5_extend (wsV RX5 128 RX5 yX5_refused wsX5_refused) := goodIn_app (goodIn_of _ (by decide +kernel)) ggX5_extend_X5_refused
theorem dX5_extend_0 : decode cX5_extend 0 = .ok (.aload_n 0, 1) := by decide +kernel
theorem dX5_extend_1 : decode cX5_extend 1 = .ok (.iload_n 1, 1) := by decide +kernel
theorem dX5_extend_2 : decode cX5_extend 2 = .ok (.iload_n 2, 1) := by decide +kernel
theorem dX5_extend_3 : decode cX5_extend 3 = .ok (.invokevirtual 179, 3) := by decide +kernel
theorem dX5_extend_6 : decode cX5_extend 6 = .ok (.istore 4, 2) := by decide +kernel
theorem dX5_extend_8 : decode cX5_extend 8 = .ok (.bipush 8, 2) := by decide +kernel
theorem dX5_extend_10 : decode cX5_extend 10 = .ok (.iload_n 1, 1) := by decide +kernel
theorem dX5_extend_11 : decode cX5_extend 11 = .ok (.imul, 1) := by decide +kernel
theorem dX5_extend_12 : decode cX5_extend 12 = .ok (.iload_n 2, 1) := by decide +kernel
theorem dX5_extend_13 : decode cX5_extend 13 = .ok (.iadd, 1) := by decide +kernel
theorem dX5_extend_14 : decode cX5_extend 14 = .ok (.istore 5, 2) := by decide +kernel
theorem dX5_extend_16 : decode cX5_extend 16 = .ok (.iload_n 3, 1) := by decide +kernel
theorem dX5_extend_17 : decode cX5_extend 17 = .ok (.iconst 1, 1) := by decide +kernel
theorem dX5_extend_18 : decode cX5_extend 18 = .ok (.iconst 2, 1) := by decide +kernel
theorem dX5_extend_19 : decode cX5_extend 19 = .ok (.invokestatic 114, 3) := by decide +kernel
theorem dX5_extend_22 : decode cX5_extend 22 = .ok (.istore 6, 2) := by decide +kernel
theorem dX5_extend_24 : decode cX5_extend 24 = .ok (.aload_n 0, 1) := by decide +kernel
theorem dX5_extend_25 : decode cX5_extend 25 = .ok (.iload 4, 2) := by decide +kernel
theorem dX5_extend_27 : decode cX5_extend 27 = .ok (.ifCond .ne 7, 3) := by decide +kernel
theorem dX5_extend_30 : decode cX5_extend 30 = .ok (.iconst 1, 1) := by decide +kernel
theorem dX5_extend_31 : decode cX5_extend 31 = .ok (.goto 41, 3) := by decide +kernel
theorem dX5_extend_34 : decode cX5_extend 34 = .ok (.iload 6, 2) := by decide +kernel
theorem dX5_extend_36 : decode cX5_extend 36 = .ok (.ifCond .ne 7, 3) := by decide +kernel
theorem dX5_extend_39 : decode cX5_extend 39 = .ok (.iconst 2, 1) := by decide +kernel
theorem dX5_extend_40 : decode cX5_extend 40 = .ok (.goto 32, 3) := by decide +kernel
theorem dX5_extend_43 : decode cX5_extend 43 = .ok (.aload_n 0, 1) := by decide +kernel
theorem dX5_extend_44 : decode cX5_extend 44 = .ok (.getfield 62, 3) := by decide +kernel
theorem dX5_extend_47 : decode cX5_extend 47 = .ok (.iload 5, 2) := by decide +kernel
theorem dX5_extend_49 : decode cX5_extend 49 = .ok (.iaload, 1) := by decide +kernel
theorem dX5_extend_50 : decode cX5_extend 50 = .ok (.ifCond .ne 17, 3) := by decide +kernel
theorem dX5_extend_53 : decode cX5_extend 53 = .ok (.aload_n 0, 1) := by decide +kernel
theorem dX5_extend_54 : decode cX5_extend 54 = .ok (.getfield 86, 3) := by decide +kernel
theorem dX5_extend_57 : decode cX5_extend 57 = .ok (.iload 5, 2) := by decide +kernel
theorem dX5_extend_59 : decode cX5_extend 59 = .ok (.iaload, 1) := by decide +kernel
theorem dX5_extend_60 : decode cX5_extend 60 = .ok (.iload_n 3, 1) := by decide +kernel
theorem dX5_extend_61 : decode cX5_extend 61 = .ok (.invokestatic 124, 3) := by decide +kernel
theorem dX5_extend_64 : decode cX5_extend 64 = .ok (.ifCond .eq 7, 3) := by decide +kernel
theorem dX5_extend_67 : decode cX5_extend 67 = .ok (.iconst 3, 1) := by decide +kernel
theorem dX5_extend_68 : decode cX5_extend 68 = .ok (.goto 4, 3) := by decide +kernel
theorem dX5_extend_71 : decode cX5_extend 71 = .ok (.iconst 0, 1) := by decide +kernel
theorem dX5_extend_72 : decode cX5_extend 72 = .ok (.invokevirtual 128, 3) := by decide +kernel
theorem dX5_extend_75 : decode cX5_extend 75 = .ok (.ifCond .eq 5, 3) := by decide +kernel
theorem dX5_extend_78 : decode cX5_extend 78 = .ok (.iconst 0, 1) := by decide +kernel
theorem dX5_extend_79 : decode cX5_extend 79 = .ok (.ireturn, 1) := by decide +kernel
theorem dX5_extend_80 : decode cX5_extend 80 = .ok (.aload_n 0, 1) := by decide +kernel
theorem dX5_extend_81 : decode cX5_extend 81 = .ok (.getfield 86, 3) := by decide +kernel
theorem dX5_extend_84 : decode cX5_extend 84 = .ok (.iload 5, 2) := by decide +kernel
theorem dX5_extend_86 : decode cX5_extend 86 = .ok (.dup2, 1) := by decide +kernel
theorem dX5_extend_87 : decode cX5_extend 87 = .ok (.iaload, 1) := by decide +kernel
theorem dX5_extend_88 : decode cX5_extend 88 = .ok (.iconst 1, 1) := by decide +kernel
theorem dX5_extend_89 : decode cX5_extend 89 = .ok (.iload_n 3, 1) := by decide +kernel
theorem dX5_extend_90 : decode cX5_extend 90 = .ok (.ishl, 1) := by decide +kernel
theorem dX5_extend_91 : decode cX5_extend 91 = .ok (.ior, 1) := by decide +kernel
theorem dX5_extend_92 : decode cX5_extend 92 = .ok (.iastore, 1) := by decide +kernel
theorem dX5_extend_93 : decode cX5_extend 93 = .ok (.aload_n 0, 1) := by decide +kernel
theorem dX5_extend_94 : decode cX5_extend 94 = .ok (.getfield 83, 3) := by decide +kernel
theorem dX5_extend_97 : decode cX5_extend 97 = .ok (.iload 5, 2) := by decide +kernel
theorem dX5_extend_99 : decode cX5_extend 99 = .ok (.dup2, 1) := by decide +kernel
theorem dX5_extend_100 : decode cX5_extend 100 = .ok (.iaload, 1) := by decide +kernel
theorem dX5_extend_101 : decode cX5_extend 101 = .ok (.iconst 2, 1) := by decide +kernel
theorem dX5_extend_102 : decode cX5_extend 102 = .ok (.iload_n 3, 1) := by decide +kernel
theorem dX5_extend_103 : decode cX5_extend 103 = .ok (.imul, 1) := by decide +kernel
theorem dX5_extend_104 : decode cX5_extend 104 = .ok (.iadd, 1) := by decide +kernel
theorem dX5_extend_105 : decode cX5_extend 105 = .ok (.iastore, 1) := by decide +kernel
theorem dX5_extend_106 : decode cX5_extend 106 = .ok (.aload_n 0, 1) := by decide +kernel
theorem dX5_extend_107 : decode cX5_extend 107 = .ok (.getfield 83, 3) := by decide +kernel
theorem dX5_extend_110 : decode cX5_extend 110 = .ok (.iload 5, 2) := by decide +kernel
theorem dX5_extend_112 : decode cX5_extend 112 = .ok (.iaload, 1) := by decide +kernel
theorem dX5_extend_113 : decode cX5_extend 113 = .ok (.ireturn, 1) := by decide +kernel
set_option maxRecDepth 20000 in
theorem ggX5_release_X5_isIn : GoodIn wsX5_release wsX5_isIn := goodIn_r _ [6, 7, 8, 9, 10, 5, 11, 12, 13, 14, 20, 21, 22, 23, 24, 25, 26, 27, 28, 29, 30, 31, 32, 33, 34, 35, 36, 37, 38, 39, 40, 41, 42, 43, 44, 45, 46, 47, 48, 49, 50, 51, 52, 53, 54, 55, 56, 57] (by decide +kernel) (by decide +kernel)
set_option maxRecDepth 20000 in
theorem gX5_release_X5_isIn : GoodIn wsX5_release (wsV RX5 179 RX5 yX5_isIn wsX5_isIn) := goodIn_app (goodIn_of _ (by decide +kernel)) ggX5_release_X5_isIn
set_option maxRecDepth 20000 in
theorem ggX5_release_X5_refused : GoodIn wsX5_release wsX5_refused := goodIn_r _ [18, 19, 20, 21, 22, 23, 24, 25, 26, 27, 28, 29, 30, 31, 32, 33, 34, 35, 36, 37, 38, 39, 40, 41, 42, 43, 44, 45, 46, 47, 48, 49, 50, 51, 52, 53, 54, 55, 56, 57] (by decide +kernel) (by decide +kernel)
set_option maxRecDepth 20000 in
theorem gX5_release_X5_refused : GoodIn wsX5_release (wsV RX5 128 RX5 yX5_refused wsX5_refused) := goodIn_app (goodIn_of _ (by decide +kernel)) ggX5_release_X5_refused
theorem dX5_release_0 : decode cX5_release 0 = .ok (.aload_n 0, 1) := by decide +kernel
theorem dX5_release_1 : decode cX5_release 1 = .ok (.iload_n 1, 1) := by decide +kernel
theorem dX5_release_2 : decode cX5_release 2 = .ok (.iload_n 2, 1) := by decide +kernel
theorem dX5_release_3 : decode cX5_release 3 = .ok (.invokevirtual 179, 3) := by decide +kernel
theorem dX5_release_6 : decode cX5_release 6 = .ok (.istore_n 3, 1) := by decide +kernel
theorem dX5_release_7 : decode cX5_release 7 = .ok (.bipush 8, 2) := by decide +kernel
theorem dX5_release_9 : decode cX5_release 9 = .ok (.iload_n 1, 1) := by decide +kernel
theorem dX5_release_10 : decode cX5_release 10 = .ok (.imul, 1) := by decide +kernel
theorem dX5_release_11 : decode cX5_release 11 = .ok (.iload_n 2, 1) := by decide +kernel
theorem dX5_release_12 : decode cX5_release 12 = .ok (.iadd, 1) := by decide +kernel
theorem dX5_release_13 : decode cX5_release 13 = .ok (.istore 4, 2) := by decide +kernel
theorem dX5_release_15 : decode cX5_release 15 = .ok (.aload_n 0, 1) := by decide +kernel
theorem dX5_release_16 : decode cX5_release 16 = .ok (.iload_n 3, 1) := by decide +kernel
theorem dX5_release_17 : decode cX5_release 17 = .ok (.ifCond .ne 7, 3) := by decide +kernel
theorem dX5_release_20 : decode cX5_release 20 = .ok (.iconst 1, 1) := by decide +kernel
theorem dX5_release_21 : decode cX5_release 21 = .ok (.goto 18, 3) := by decide +kernel
theorem dX5_release_24 : decode cX5_release 24 = .ok (.aload_n 0, 1) := by decide +kernel
theorem dX5_release_25 : decode cX5_release 25 = .ok (.getfield 74, 3) := by decide +kernel
theorem dX5_release_28 : decode cX5_release 28 = .ok (.iload 4, 2) := by decide +kernel
theorem dX5_release_30 : decode cX5_release 30 = .ok (.baload, 1) := by decide +kernel
theorem dX5_release_31 : decode cX5_release 31 = .ok (.ifCond .eq 7, 3) := by decide +kernel
theorem dX5_release_34 : decode cX5_release 34 = .ok (.iconst 0, 1) := by decide +kernel
theorem dX5_release_35 : decode cX5_release 35 = .ok (.goto 4, 3) := by decide +kernel
theorem dX5_release_38 : decode cX5_release 38 = .ok (.iconst 2, 1) := by decide +kernel
theorem dX5_release_39 : decode cX5_release 39 = .ok (.invokevirtual 128, 3) := by decide +kernel
theorem dX5_release_42 : decode cX5_release 42 = .ok (.ifCond .eq 4, 3) := by decide +kernel
theorem dX5_release_45 : decode cX5_release 45 = .ok (.return_, 1) := by decide +kernel
theorem dX5_release_46 : decode cX5_release 46 = .ok (.aload_n 0, 1) := by decide +kernel
theorem dX5_release_47 : decode cX5_release 47 = .ok (.getfield 74, 3) := by decide +kernel
theorem dX5_release_50 : decode cX5_release 50 = .ok (.iload 4, 2) := by decide +kernel
theorem dX5_release_52 : decode cX5_release 52 = .ok (.iconst 0, 1) := by decide +kernel
theorem dX5_release_53 : decode cX5_release 53 = .ok (.bastore, 1) := by decide +kernel
theorem dX5_release_54 : decode cX5_release 54 = .ok (.return_, 1) := by decide +kernel
theorem dX5_day_0 : decode cX5_day 0 = .ok (.aload_n 0, 1) := by decide +kernel
theorem dX5_day_1 : decode cX5_day 1 = .ok (.iconst 0, 1) := by decide +kernel
theorem dX5_day_2 : decode cX5_day 2 = .ok (.putfield 107, 3) := by decide +kernel
theorem dX5_day_5 : decode cX5_day 5 = .ok (.aload_n 0, 1) := by decide +kernel
theorem dX5_day_6 : decode cX5_day 6 = .ok (.getfield 135, 3) := by decide +kernel
theorem dX5_day_9 : decode cX5_day 9 = .ok (.ireturn, 1) := by decide +kernel
set_option maxRecDepth 20000 in
theorem ggX5_nests_X5_isOffence : GoodIn wsX5_nests wsX5_isOffence := goodIn_r _ [6, 7, 8, 9, 5, 10, 16, 17, 18, 19, 20, 21, 22, 23, 24, 25, 26, 27, 28, 29, 30, 31, 32, 33, 34, 35, 36, 37, 38, 39, 40, 41, 42, 43, 44, 45, 46, 47, 48, 49, 50, 51, 52, 53] (by decide +kernel) (by decide +kernel)
set_option maxRecDepth 20000 in
theorem gX5_nests_X5_isOffence : GoodIn wsX5_nests (wsV RX5 132 RX5 yX5_isOffence wsX5_isOffence) := goodIn_app (goodIn_of _ (by decide +kernel)) ggX5_nests_X5_isOffence
set_option maxRecDepth 20000 in
theorem ggX5_nests_X5_refused : GoodIn wsX5_nests wsX5_refused := goodIn_r _ [14, 15, 16, 17, 18, 19, 20, 21, 22, 23, 24, 25, 26, 27, 28, 29, 30, 31, 32, 33, 34, 35, 36, 37, 38, 39, 40, 41, 42, 43, 44, 45, 46, 47, 48, 49, 50, 51, 52, 53] (by decide +kernel) (by decide +kernel)
set_option maxRecDepth 20000 in
theorem gX5_nests_X5_refused : GoodIn wsX5_nests (wsV RX5 128 RX5 yX5_refused wsX5_refused) := goodIn_app (goodIn_of _ (by decide +kernel)) ggX5_nests_X5_refused
theorem dX5_nests_0 : decode cX5_nests 0 = .ok (.aload_n 0, 1) := by decide +kernel
theorem dX5_nests_1 : decode cX5_nests 1 = .ok (.iload_n 1, 1) := by decide +kernel
theorem dX5_nests_2 : decode cX5_nests 2 = .ok (.invokevirtual 132, 3) := by decide +kernel
theorem dX5_nests_5 : decode cX5_nests 5 = .ok (.ifCond .eq 15, 3) := by decide +kernel
theorem dX5_nests_8 : decode cX5_nests 8 = .ok (.aload_n 0, 1) := by decide +kernel
theorem dX5_nests_9 : decode cX5_nests 9 = .ok (.iload_n 2, 1) := by decide +kernel
theorem dX5_nests_10 : decode cX5_nests 10 = .ok (.invokevirtual 132, 3) := by decide +kernel
theorem dX5_nests_13 : decode cX5_nests 13 = .ok (.ifCond .eq 7, 3) := by decide +kernel
theorem dX5_nests_16 : decode cX5_nests 16 = .ok (.iconst 1, 1) := by decide +kernel
theorem dX5_nests_17 : decode cX5_nests 17 = .ok (.goto 4, 3) := by decide +kernel
theorem dX5_nests_20 : decode cX5_nests 20 = .ok (.iconst 0, 1) := by decide +kernel
theorem dX5_nests_21 : decode cX5_nests 21 = .ok (.istore_n 3, 1) := by decide +kernel
theorem dX5_nests_22 : decode cX5_nests 22 = .ok (.aload_n 0, 1) := by decide +kernel
theorem dX5_nests_23 : decode cX5_nests 23 = .ok (.iload_n 3, 1) := by decide +kernel
theorem dX5_nests_24 : decode cX5_nests 24 = .ok (.ifCond .eq 7, 3) := by decide +kernel
theorem dX5_nests_27 : decode cX5_nests 27 = .ok (.iconst 0, 1) := by decide +kernel
theorem dX5_nests_28 : decode cX5_nests 28 = .ok (.goto 4, 3) := by decide +kernel
theorem dX5_nests_31 : decode cX5_nests 31 = .ok (.iconst 1, 1) := by decide +kernel
theorem dX5_nests_32 : decode cX5_nests 32 = .ok (.invokevirtual 128, 3) := by decide +kernel
theorem dX5_nests_35 : decode cX5_nests 35 = .ok (.ifCond .ne 40, 3) := by decide +kernel
theorem dX5_nests_38 : decode cX5_nests 38 = .ok (.aload_n 0, 1) := by decide +kernel
theorem dX5_nests_39 : decode cX5_nests 39 = .ok (.getfield 7, 3) := by decide +kernel
theorem dX5_nests_42 : decode cX5_nests 42 = .ok (.iload_n 1, 1) := by decide +kernel
theorem dX5_nests_43 : decode cX5_nests 43 = .ok (.iaload, 1) := by decide +kernel
theorem dX5_nests_44 : decode cX5_nests 44 = .ok (.aload_n 0, 1) := by decide +kernel
theorem dX5_nests_45 : decode cX5_nests 45 = .ok (.getfield 7, 3) := by decide +kernel
theorem dX5_nests_48 : decode cX5_nests 48 = .ok (.iload_n 2, 1) := by decide +kernel
theorem dX5_nests_49 : decode cX5_nests 49 = .ok (.iaload, 1) := by decide +kernel
theorem dX5_nests_50 : decode cX5_nests 50 = .ok (.if_icmp .eq 25, 3) := by decide +kernel
theorem dX5_nests_53 : decode cX5_nests 53 = .ok (.aload_n 0, 1) := by decide +kernel
theorem dX5_nests_54 : decode cX5_nests 54 = .ok (.getfield 7, 3) := by decide +kernel
theorem dX5_nests_57 : decode cX5_nests 57 = .ok (.iload_n 1, 1) := by decide +kernel
theorem dX5_nests_58 : decode cX5_nests 58 = .ok (.iaload, 1) := by decide +kernel
theorem dX5_nests_59 : decode cX5_nests 59 = .ok (.aload_n 0, 1) := by decide +kernel
theorem dX5_nests_60 : decode cX5_nests 60 = .ok (.getfield 7, 3) := by decide +kernel
theorem dX5_nests_63 : decode cX5_nests 63 = .ok (.iload_n 2, 1) := by decide +kernel
theorem dX5_nests_64 : decode cX5_nests 64 = .ok (.iaload, 1) := by decide +kernel
theorem dX5_nests_65 : decode cX5_nests 65 = .ok (.iconst (-1), 1) := by decide +kernel
theorem dX5_nests_66 : decode cX5_nests 66 = .ok (.ixor, 1) := by decide +kernel
theorem dX5_nests_67 : decode cX5_nests 67 = .ok (.iand, 1) := by decide +kernel
theorem dX5_nests_68 : decode cX5_nests 68 = .ok (.ifCond .ne 7, 3) := by decide +kernel
theorem dX5_nests_71 : decode cX5_nests 71 = .ok (.iconst 1, 1) := by decide +kernel
theorem dX5_nests_72 : decode cX5_nests 72 = .ok (.goto 4, 3) := by decide +kernel
theorem dX5_nests_75 : decode cX5_nests 75 = .ok (.iconst 0, 1) := by decide +kernel
theorem dX5_nests_76 : decode cX5_nests 76 = .ok (.ireturn, 1) := by decide +kernel
set_option maxRecDepth 20000 in
theorem ggX5_strength_X5_isIn : GoodIn wsX5_strength wsX5_isIn := goodIn_r _ [6, 7, 8, 9, 10, 5, 11, 12, 13, 14, 32, 33, 34, 35, 36, 37, 38, 39, 40, 41, 42, 43, 44, 45, 46, 47, 48, 49, 50, 51, 52, 53, 54, 55, 56, 57, 58, 59, 60, 61, 62, 63, 64, 65, 66, 67, 68, 69] (by decide +kernel) (by decide +kernel)
set_option maxRecDepth 20000 in
theorem gX5_strength_X5_isIn : GoodIn wsX5_strength (wsV RX5 179 RX5 yX5_isIn wsX5_isIn) := goodIn_app (goodIn_of _ (by decide +kernel)) ggX5_strength_X5_isIn
set_option maxRecDepth 20000 in
theorem ggX5_strength_X5_in : GoodIn wsX5_strength wsX5_in := goodIn_r _ [11] (by decide +kernel) (by decide +kernel)
set_option maxRecDepth 20000 in
theorem gX5_strength_X5_in : GoodIn wsX5_strength (va_wsS RX5 114 yX5_in wsX5_in) := goodIn_app (goodIn_of _ (by decide +kernel)) ggX5_strength_X5_in
set_option maxRecDepth 20000 in
theorem ggX5_strength_X5_refused : GoodIn wsX5_strength wsX5_refused := goodIn_r _ [18, 19, 32, 33, 34, 35, 36, 37, 38, 39, 40, 41, 42, 43, 44, 45, 46, 47, 48, 49, 50, 51, 52, 53, 54, 55, 56, 57, 58, 59, 60, 61, 62, 63, 64, 65, 66, 67, 68, 69] (by decide +kernel) (by decide +kernel)
set_option maxRecDepth 20000 in
theorem gX5_strength_X5_refused : GoodIn wsX5_strength (wsV RX5 128 RX5 yX5_refused wsX5_refused) := goodIn_app (goodIn_of _ (by decide +kernel)) ggX5_strength_X5_refused
set_option maxRecDepth 20000 in
theorem ggX5_strength_X5_strengthOf : GoodIn wsX5_strength wsX5_strengthOf := goodIn_r _ [23, 24, 25, 26, 27, 28, 29, 30, 31, 12, 13, 5, 14, 32, 33, 34, 35, 36, 37, 38, 39, 40, 41, 42, 43, 44, 45, 46, 47, 48, 49, 50, 51, 52, 53, 54, 55, 56, 57, 58, 59, 60, 61, 62, 63, 64, 65, 66, 67, 68, 69] (by decide +kernel) (by decide +kernel)
set_option maxRecDepth 20000 in
theorem gX5_strength_X5_strengthOf : GoodIn wsX5_strength (wsV RX5 149 RX5 yX5_strengthOf wsX5_strengthOf) := goodIn_app (goodIn_of _ (by decide +kernel)) ggX5_strength_X5_strengthOf
theorem dX5_strength_0 : decode cX5_strength 0 = .ok (.aload_n 0, 1) := by decide +kernel
theorem dX5_strength_1 : decode cX5_strength 1 = .ok (.iload_n 1, 1) := by decide +kernel
theorem dX5_strength_2 : decode cX5_strength 2 = .ok (.iload_n 2, 1) := by decide +kernel
theorem dX5_strength_3 : decode cX5_strength 3 = .ok (.invokevirtual 179, 3) := by decide +kernel
theorem dX5_strength_6 : decode cX5_strength 6 = .ok (.ifCond .eq 17, 3) := by decide +kernel
theorem dX5_strength_9 : decode cX5_strength 9 = .ok (.iload_n 3, 1) := by decide +kernel
theorem dX5_strength_10 : decode cX5_strength 10 = .ok (.iconst 0, 1) := by decide +kernel
theorem dX5_strength_11 : decode cX5_strength 11 = .ok (.bipush 9, 2) := by decide +kernel
theorem dX5_strength_13 : decode cX5_strength 13 = .ok (.invokestatic 114, 3) := by decide +kernel
theorem dX5_strength_16 : decode cX5_strength 16 = .ok (.ifCond .eq 7, 3) := by decide +kernel
theorem dX5_strength_19 : decode cX5_strength 19 = .ok (.iconst 1, 1) := by decide +kernel
theorem dX5_strength_20 : decode cX5_strength 20 = .ok (.goto 4, 3) := by decide +kernel
theorem dX5_strength_23 : decode cX5_strength 23 = .ok (.iconst 0, 1) := by decide +kernel
theorem dX5_strength_24 : decode cX5_strength 24 = .ok (.istore 5, 2) := by decide +kernel
theorem dX5_strength_26 : decode cX5_strength 26 = .ok (.aload_n 0, 1) := by decide +kernel
theorem dX5_strength_27 : decode cX5_strength 27 = .ok (.iload 5, 2) := by decide +kernel
theorem dX5_strength_29 : decode cX5_strength 29 = .ok (.ifCond .ne 7, 3) := by decide +kernel
theorem dX5_strength_32 : decode cX5_strength 32 = .ok (.iconst 1, 1) := by decide +kernel
theorem dX5_strength_33 : decode cX5_strength 33 = .ok (.goto 21, 3) := by decide +kernel
theorem dX5_strength_36 : decode cX5_strength 36 = .ok (.iload 4, 2) := by decide +kernel
theorem dX5_strength_38 : decode cX5_strength 38 = .ok (.iconst 0, 1) := by decide +kernel
theorem dX5_strength_39 : decode cX5_strength 39 = .ok (.aload_n 0, 1) := by decide +kernel
theorem dX5_strength_40 : decode cX5_strength 40 = .ok (.getfield 135, 3) := by decide +kernel
theorem dX5_strength_43 : decode cX5_strength 43 = .ok (.invokestatic 114, 3) := by decide +kernel
theorem dX5_strength_46 : decode cX5_strength 46 = .ok (.ifCond .eq 7, 3) := by decide +kernel
theorem dX5_strength_49 : decode cX5_strength 49 = .ok (.iconst 0, 1) := by decide +kernel
theorem dX5_strength_50 : decode cX5_strength 50 = .ok (.goto 4, 3) := by decide +kernel
theorem dX5_strength_53 : decode cX5_strength 53 = .ok (.iconst 2, 1) := by decide +kernel
theorem dX5_strength_54 : decode cX5_strength 54 = .ok (.invokevirtual 128, 3) := by decide +kernel
theorem dX5_strength_57 : decode cX5_strength 57 = .ok (.ifCond .eq 7, 3) := by decide +kernel
theorem dX5_strength_60 : decode cX5_strength 60 = .ok (.iconst 0, 1) := by decide +kernel
theorem dX5_strength_61 : decode cX5_strength 61 = .ok (.goto 16, 3) := by decide +kernel
theorem dX5_strength_64 : decode cX5_strength 64 = .ok (.aload_n 0, 1) := by decide +kernel
theorem dX5_strength_65 : decode cX5_strength 65 = .ok (.bipush 8, 2) := by decide +kernel
theorem dX5_strength_67 : decode cX5_strength 67 = .ok (.iload_n 1, 1) := by decide +kernel
theorem dX5_strength_68 : decode cX5_strength 68 = .ok (.imul, 1) := by decide +kernel
theorem dX5_strength_69 : decode cX5_strength 69 = .ok (.iload_n 2, 1) := by decide +kernel
theorem dX5_strength_70 : decode cX5_strength 70 = .ok (.iadd, 1) := by decide +kernel
theorem dX5_strength_71 : decode cX5_strength 71 = .ok (.iload_n 3, 1) := by decide +kernel
theorem dX5_strength_72 : decode cX5_strength 72 = .ok (.iload 4, 2) := by decide +kernel
theorem dX5_strength_74 : decode cX5_strength 74 = .ok (.invokevirtual 149, 3) := by decide +kernel
theorem dX5_strength_77 : decode cX5_strength 77 = .ok (.ireturn, 1) := by decide +kernel
set_option maxRecDepth 20000 in
theorem ggX5_whyNot_X5_isIn : GoodIn wsX5_whyNot wsX5_isIn := goodIn_r _ [6, 7, 8, 9, 10, 5, 11, 12, 13, 14, 62, 63, 64, 65, 66, 67, 68, 69, 70, 71, 72, 73, 74, 75, 76, 77, 78, 79, 80, 81, 82, 83, 84, 85, 86, 87, 88, 89, 90, 91, 92, 93, 94, 95, 96, 97, 98, 99] (by decide +kernel) (by decide +kernel)
set_option maxRecDepth 20000 in
theorem gX5_whyNot_X5_isIn : GoodIn wsX5_whyNot (wsV RX5 179 RX5 yX5_isIn wsX5_isIn) := goodIn_app (goodIn_of _ (by decide +kernel)) ggX5_whyNot_X5_isIn
set_option maxRecDepth 20000 in
theorem ggX5_whyNot_X5_isOffence : GoodIn wsX5_whyNot wsX5_isOffence := goodIn_r _ [18, 19, 9, 10, 5, 11, 62, 63, 64, 65, 66, 67, 68, 69, 70, 71, 72, 73, 74, 75, 76, 77, 78, 79, 80, 81, 82, 83, 84, 85, 86, 87, 88, 89, 90, 91, 92, 93, 94, 95, 96, 97, 98, 99] (by decide +kernel) (by decide +kernel)
set_option maxRecDepth 20000 in
theorem gX5_whyNot_X5_isOffence : GoodIn wsX5_whyNot (wsV RX5 132 RX5 yX5_isOffence wsX5_isOffence) := goodIn_app (goodIn_of _ (by decide +kernel)) ggX5_whyNot_X5_isOffence
set_option maxRecDepth 20000 in
theorem ggX5_whyNot_X5_in : GoodIn wsX5_whyNot wsX5_in := goodIn_r _ [11] (by decide +kernel) (by decide +kernel)
set_option maxRecDepth 20000 in
theorem gX5_whyNot_X5_in : GoodIn wsX5_whyNot (va_wsS RX5 114 yX5_in wsX5_in) := goodIn_app (goodIn_of _ (by decide +kernel)) ggX5_whyNot_X5_in
set_option maxRecDepth 20000 in
theorem ggX5_whyNot_X5_refused : GoodIn wsX5_whyNot wsX5_refused := goodIn_r _ [23, 24, 62, 63, 64, 65, 66, 67, 68, 69, 70, 71, 72, 73, 74, 75, 76, 77, 78, 79, 80, 81, 82, 83, 84, 85, 86, 87, 88, 89, 90, 91, 92, 93, 94, 95, 96, 97, 98, 99] (by decide +kernel) (by decide +kernel)
set_option maxRecDepth 20000 in
theorem gX5_whyNot_X5_refused : GoodIn wsX5_whyNot (wsV RX5 128 RX5 yX5_refused wsX5_refused) := goodIn_app (goodIn_of _ (by decide +kernel)) ggX5_whyNot_X5_refused
set_option maxRecDepth 20000 in
theorem ggX5_whyNot_X5_why : GoodIn wsX5_whyNot wsX5_why := goodIn_r _ [28, 29, 30, 31, 32, 33, 34, 35, 5, 36, 37, 19, 38, 39, 40, 12, 13, 14, 41, 42, 43, 44, 45, 46, 47, 48, 49, 50, 51, 52, 53, 54, 55, 56, 57, 58, 59, 60, 61, 62, 63, 64, 65, 66, 67, 68, 69, 70, 71, 72, 73, 74, 75, 76, 77, 78, 79, 80, 81, 82, 83, 84, 85, 86, 87, 88, 89, 90, 91, 92, 93, 94, 95, 96, 97, 98, 99] (by decide +kernel) (by decide +kernel)
set_option maxRecDepth 20000 in
theorem gX5_whyNot_X5_why : GoodIn wsX5_whyNot (wsV RX5 170 RX5 yX5_why wsX5_why) := goodIn_app (goodIn_of _ (by decide +kernel)) ggX5_whyNot_X5_why
theorem dX5_whyNot_0 : decode cX5_whyNot 0 = .ok (.aload_n 0, 1) := by decide +kernel
theorem dX5_whyNot_1 : decode cX5_whyNot 1 = .ok (.iload_n 1, 1) := by decide +kernel
theorem dX5_whyNot_2 : decode cX5_whyNot 2 = .ok (.iload_n 2, 1) := by decide +kernel
theorem dX5_whyNot_3 : decode cX5_whyNot 3 = .ok (.invokevirtual 179, 3) := by decide +kernel
theorem dX5_whyNot_6 : decode cX5_whyNot 6 = .ok (.ifCond .eq 15, 3) := by decide +kernel
theorem dX5_whyNot_9 : decode cX5_whyNot 9 = .ok (.aload_n 0, 1) := by decide +kernel
theorem dX5_whyNot_10 : decode cX5_whyNot 10 = .ok (.iload_n 3, 1) := by decide +kernel
theorem dX5_whyNot_11 : decode cX5_whyNot 11 = .ok (.invokevirtual 132, 3) := by decide +kernel
theorem dX5_whyNot_14 : decode cX5_whyNot 14 = .ok (.ifCond .eq 7, 3) := by decide +kernel
theorem dX5_whyNot_17 : decode cX5_whyNot 17 = .ok (.iconst 1, 1) := by decide +kernel
theorem dX5_whyNot_18 : decode cX5_whyNot 18 = .ok (.goto 4, 3) := by decide +kernel
theorem dX5_whyNot_21 : decode cX5_whyNot 21 = .ok (.iconst 0, 1) := by decide +kernel
theorem dX5_whyNot_22 : decode cX5_whyNot 22 = .ok (.istore 5, 2) := by decide +kernel
theorem dX5_whyNot_24 : decode cX5_whyNot 24 = .ok (.aload_n 0, 1) := by decide +kernel
theorem dX5_whyNot_25 : decode cX5_whyNot 25 = .ok (.iload 5, 2) := by decide +kernel
theorem dX5_whyNot_27 : decode cX5_whyNot 27 = .ok (.ifCond .ne 7, 3) := by decide +kernel
theorem dX5_whyNot_30 : decode cX5_whyNot 30 = .ok (.iconst 1, 1) := by decide +kernel
theorem dX5_whyNot_31 : decode cX5_whyNot 31 = .ok (.goto 21, 3) := by decide +kernel
theorem dX5_whyNot_34 : decode cX5_whyNot 34 = .ok (.iload 4, 2) := by decide +kernel
theorem dX5_whyNot_36 : decode cX5_whyNot 36 = .ok (.iconst 0, 1) := by decide +kernel
theorem dX5_whyNot_37 : decode cX5_whyNot 37 = .ok (.aload_n 0, 1) := by decide +kernel
theorem dX5_whyNot_38 : decode cX5_whyNot 38 = .ok (.getfield 135, 3) := by decide +kernel
theorem dX5_whyNot_41 : decode cX5_whyNot 41 = .ok (.invokestatic 114, 3) := by decide +kernel
theorem dX5_whyNot_44 : decode cX5_whyNot 44 = .ok (.ifCond .eq 7, 3) := by decide +kernel
theorem dX5_whyNot_47 : decode cX5_whyNot 47 = .ok (.iconst 0, 1) := by decide +kernel
theorem dX5_whyNot_48 : decode cX5_whyNot 48 = .ok (.goto 4, 3) := by decide +kernel
theorem dX5_whyNot_51 : decode cX5_whyNot 51 = .ok (.iconst 2, 1) := by decide +kernel
theorem dX5_whyNot_52 : decode cX5_whyNot 52 = .ok (.invokevirtual 128, 3) := by decide +kernel
theorem dX5_whyNot_55 : decode cX5_whyNot 55 = .ok (.ifCond .eq 7, 3) := by decide +kernel
theorem dX5_whyNot_58 : decode cX5_whyNot 58 = .ok (.iconst 0, 1) := by decide +kernel
theorem dX5_whyNot_59 : decode cX5_whyNot 59 = .ok (.goto 16, 3) := by decide +kernel
theorem dX5_whyNot_62 : decode cX5_whyNot 62 = .ok (.aload_n 0, 1) := by decide +kernel
theorem dX5_whyNot_63 : decode cX5_whyNot 63 = .ok (.bipush 8, 2) := by decide +kernel
theorem dX5_whyNot_65 : decode cX5_whyNot 65 = .ok (.iload_n 1, 1) := by decide +kernel
theorem dX5_whyNot_66 : decode cX5_whyNot 66 = .ok (.imul, 1) := by decide +kernel
theorem dX5_whyNot_67 : decode cX5_whyNot 67 = .ok (.iload_n 2, 1) := by decide +kernel
theorem dX5_whyNot_68 : decode cX5_whyNot 68 = .ok (.iadd, 1) := by decide +kernel
theorem dX5_whyNot_69 : decode cX5_whyNot 69 = .ok (.iload_n 3, 1) := by decide +kernel
theorem dX5_whyNot_70 : decode cX5_whyNot 70 = .ok (.iload 4, 2) := by decide +kernel
theorem dX5_whyNot_72 : decode cX5_whyNot 72 = .ok (.invokevirtual 170, 3) := by decide +kernel
theorem dX5_whyNot_75 : decode cX5_whyNot 75 = .ok (.ireturn, 1) := by decide +kernel
set_option maxRecDepth 20000 in
theorem ggX5_best_X5_isIn : GoodIn wsX5_best wsX5_isIn := goodIn_r _ [6, 7, 8, 9, 10, 5, 11, 12, 13, 14, 74, 75, 76, 77, 78, 79, 80, 81, 82, 83, 84, 85, 86, 87, 88, 89, 90, 91, 92, 93, 94, 95, 96, 97, 98, 99, 100, 101, 102, 103, 104, 105, 106, 107, 108, 109, 110, 111] (by decide +kernel) (by decide +kernel)
set_option maxRecDepth 20000 in
theorem gX5_best_X5_isIn : GoodIn wsX5_best (wsV RX5 179 RX5 yX5_isIn wsX5_isIn) := goodIn_app (goodIn_of _ (by decide +kernel)) ggX5_best_X5_isIn
set_option maxRecDepth 20000 in
theorem ggX5_best_X5_in : GoodIn wsX5_best wsX5_in := goodIn_r _ [11] (by decide +kernel) (by decide +kernel)
set_option maxRecDepth 20000 in
theorem gX5_best_X5_in : GoodIn wsX5_best (va_wsS RX5 114 yX5_in wsX5_in) := goodIn_app (goodIn_of _ (by decide +kernel)) ggX5_best_X5_in
set_option maxRecDepth 20000 in
theorem ggX5_best_X5_refused : GoodIn wsX5_best wsX5_refused := goodIn_r _ [18, 19, 74, 75, 76, 77, 78, 79, 80, 81, 82, 83, 84, 85, 86, 87, 88, 89, 90, 91, 92, 93, 94, 95, 96, 97, 98, 99, 100, 101, 102, 103, 104, 105, 106, 107, 108, 109, 110, 111] (by decide +kernel) (by decide +kernel)
set_option maxRecDepth 20000 in
theorem gX5_best_X5_refused : GoodIn wsX5_best (wsV RX5 128 RX5 yX5_refused wsX5_refused) := goodIn_app (goodIn_of _ (by decide +kernel)) ggX5_best_X5_refused
set_option maxRecDepth 20000 in
theorem ggX5_best_X5_bestOf : GoodIn wsX5_best wsX5_bestOf := goodIn_r _ [23, 24, 25, 26, 27, 5, 28, 29, 12, 13, 14, 30, 31, 32, 33, 34, 35, 36, 37, 9, 10, 11, 38, 39, 40, 41, 42, 43, 44, 45, 46, 47, 48, 49, 50, 51, 52, 53, 54, 55, 56, 57, 58, 59, 60, 61, 62, 63, 64, 65, 66, 67, 68, 69, 70, 71, 72, 73, 74, 75, 76, 77, 78, 79, 80, 81, 82, 83, 84, 85, 86, 87, 88, 89, 90, 91, 92, 93, 94, 95, 96, 97, 98, 99, 100, 101, 102, 103, 104, 105, 106, 107, 108, 109, 110, 111] (by decide +kernel) (by decide +kernel)
set_option maxRecDepth 20000 in
theorem gX5_best_X5_bestOf : GoodIn wsX5_best (wsV RX5 191 RX5 yX5_bestOf wsX5_bestOf) := goodIn_app (goodIn_of _ (by decide +kernel)) ggX5_best_X5_bestOf
theorem dX5_best_0 : decode cX5_best 0 = .ok (.aload_n 0, 1) := by decide +kernel
theorem dX5_best_1 : decode cX5_best 1 = .ok (.aload_n 0, 1) := by decide +kernel
theorem dX5_best_2 : decode cX5_best 2 = .ok (.iload_n 1, 1) := by decide +kernel
theorem dX5_best_3 : decode cX5_best 3 = .ok (.iload_n 2, 1) := by decide +kernel
theorem dX5_best_4 : decode cX5_best 4 = .ok (.invokevirtual 179, 3) := by decide +kernel
theorem dX5_best_7 : decode cX5_best 7 = .ok (.ifCond .ne 7, 3) := by decide +kernel
theorem dX5_best_10 : decode cX5_best 10 = .ok (.iconst 1, 1) := by decide +kernel
theorem dX5_best_11 : decode cX5_best 11 = .ok (.goto 20, 3) := by decide +kernel
theorem dX5_best_14 : decode cX5_best 14 = .ok (.iload_n 3, 1) := by decide +kernel
theorem dX5_best_15 : decode cX5_best 15 = .ok (.iconst 0, 1) := by decide +kernel
theorem dX5_best_16 : decode cX5_best 16 = .ok (.aload_n 0, 1) := by decide +kernel
theorem dX5_best_17 : decode cX5_best 17 = .ok (.getfield 135, 3) := by decide +kernel
theorem dX5_best_20 : decode cX5_best 20 = .ok (.invokestatic 114, 3) := by decide +kernel
theorem dX5_best_23 : decode cX5_best 23 = .ok (.ifCond .eq 7, 3) := by decide +kernel
theorem dX5_best_26 : decode cX5_best 26 = .ok (.iconst 0, 1) := by decide +kernel
theorem dX5_best_27 : decode cX5_best 27 = .ok (.goto 4, 3) := by decide +kernel
theorem dX5_best_30 : decode cX5_best 30 = .ok (.iconst 2, 1) := by decide +kernel
theorem dX5_best_31 : decode cX5_best 31 = .ok (.invokevirtual 128, 3) := by decide +kernel
theorem dX5_best_34 : decode cX5_best 34 = .ok (.ifCond .eq 7, 3) := by decide +kernel
theorem dX5_best_37 : decode cX5_best 37 = .ok (.iconst 0, 1) := by decide +kernel
theorem dX5_best_38 : decode cX5_best 38 = .ok (.goto 14, 3) := by decide +kernel
theorem dX5_best_41 : decode cX5_best 41 = .ok (.aload_n 0, 1) := by decide +kernel
theorem dX5_best_42 : decode cX5_best 42 = .ok (.bipush 8, 2) := by decide +kernel
theorem dX5_best_44 : decode cX5_best 44 = .ok (.iload_n 1, 1) := by decide +kernel
theorem dX5_best_45 : decode cX5_best 45 = .ok (.imul, 1) := by decide +kernel
theorem dX5_best_46 : decode cX5_best 46 = .ok (.iload_n 2, 1) := by decide +kernel
theorem dX5_best_47 : decode cX5_best 47 = .ok (.iadd, 1) := by decide +kernel
theorem dX5_best_48 : decode cX5_best 48 = .ok (.iload_n 3, 1) := by decide +kernel
theorem dX5_best_49 : decode cX5_best 49 = .ok (.invokevirtual 191, 3) := by decide +kernel
theorem dX5_best_52 : decode cX5_best 52 = .ok (.ireturn, 1) := by decide +kernel
set_option maxRecDepth 20000 in
theorem ggX5_bestAnew_X5_best : GoodIn wsX5_bestAnew wsX5_best := goodIn_r _ [5, 6, 7, 8, 9, 4, 10, 11, 12, 13, 14, 15, 16, 17, 18, 19, 20, 21, 22, 23, 24, 25, 26, 27, 28, 29, 30, 31, 32, 33, 34, 35, 36, 37, 38, 39, 40, 41, 42, 43, 44, 45, 46, 47, 48, 49, 50, 51, 52, 53, 54, 55, 56, 57, 58, 59, 60, 61, 62, 63, 64, 65, 66, 67, 68, 69, 70, 71, 72, 73, 74, 75, 76, 77, 78, 79, 80, 81, 82, 83, 84, 85, 86, 87, 88, 89, 90, 91, 92, 93, 94, 95, 96, 97, 98, 99, 100, 101, 102, 103, 104, 105, 106, 107, 108, 109, 110, 111, 112, 113, 114, 115] (by decide +kernel) (by decide +kernel)
set_option maxRecDepth 20000 in
theorem gX5_bestAnew_X5_best : GoodIn wsX5_bestAnew (wsV RX5 194 RX5 yX5_best wsX5_best) := goodIn_app (goodIn_of _ (by decide +kernel)) ggX5_bestAnew_X5_best
theorem dX5_bestAnew_0 : decode cX5_bestAnew 0 = .ok (.aload_n 0, 1) := by decide +kernel
theorem dX5_bestAnew_1 : decode cX5_bestAnew 1 = .ok (.iload_n 1, 1) := by decide +kernel
theorem dX5_bestAnew_2 : decode cX5_bestAnew 2 = .ok (.iload_n 2, 1) := by decide +kernel
theorem dX5_bestAnew_3 : decode cX5_bestAnew 3 = .ok (.iload_n 3, 1) := by decide +kernel
theorem dX5_bestAnew_4 : decode cX5_bestAnew 4 = .ok (.invokevirtual 194, 3) := by decide +kernel
theorem dX5_bestAnew_7 : decode cX5_bestAnew 7 = .ok (.ireturn, 1) := by decide +kernel
set_option maxRecDepth 20000 in
theorem ggX5_lacks_X5_isIn : GoodIn wsX5_lacks wsX5_isIn := goodIn_r _ [5, 6, 7, 8, 9, 4, 10, 11, 12, 13, 29, 30, 31, 32, 33, 34, 35, 36, 37, 38, 39, 40, 41, 42, 43, 44, 45, 46, 47, 48, 49, 50, 51, 52, 53, 54, 55, 56, 57, 58, 59, 60, 61, 62, 63, 64, 65, 66] (by decide +kernel) (by decide +kernel)
set_option maxRecDepth 20000 in
theorem gX5_lacks_X5_isIn : GoodIn wsX5_lacks (wsV RX5 179 RX5 yX5_isIn wsX5_isIn) := goodIn_app (goodIn_of _ (by decide +kernel)) ggX5_lacks_X5_isIn
set_option maxRecDepth 20000 in
theorem ggX5_lacks_X5_refused : GoodIn wsX5_lacks wsX5_refused := goodIn_r _ [17, 18, 29, 30, 31, 32, 33, 34, 35, 36, 37, 38, 39, 40, 41, 42, 43, 44, 45, 46, 47, 48, 49, 50, 51, 52, 53, 54, 55, 56, 57, 58, 59, 60, 61, 62, 63, 64, 65, 66] (by decide +kernel) (by decide +kernel)
set_option maxRecDepth 20000 in
theorem gX5_lacks_X5_refused : GoodIn wsX5_lacks (wsV RX5 128 RX5 yX5_refused wsX5_refused) := goodIn_app (goodIn_of _ (by decide +kernel)) ggX5_lacks_X5_refused
set_option maxRecDepth 20000 in
theorem ggX5_lacks_X5_lacking : GoodIn wsX5_lacks wsX5_lacking := goodIn_r _ [22, 23, 24, 25, 26, 27, 28, 11, 12, 4, 13, 29, 30, 31, 32, 33, 34, 35, 36, 37, 38, 39, 40, 41, 42, 43, 44, 45, 46, 47, 48, 49, 50, 51, 52, 53, 54, 55, 56, 57, 58, 59, 60, 61, 62, 63, 64, 65, 66] (by decide +kernel) (by decide +kernel)
set_option maxRecDepth 20000 in
theorem gX5_lacks_X5_lacking : GoodIn wsX5_lacks (wsV RX5 145 RX5 yX5_lacking wsX5_lacking) := goodIn_app (goodIn_of _ (by decide +kernel)) ggX5_lacks_X5_lacking
theorem dX5_lacks_0 : decode cX5_lacks 0 = .ok (.aload_n 0, 1) := by decide +kernel
theorem dX5_lacks_1 : decode cX5_lacks 1 = .ok (.aload_n 0, 1) := by decide +kernel
theorem dX5_lacks_2 : decode cX5_lacks 2 = .ok (.iload_n 1, 1) := by decide +kernel
theorem dX5_lacks_3 : decode cX5_lacks 3 = .ok (.iload_n 2, 1) := by decide +kernel
theorem dX5_lacks_4 : decode cX5_lacks 4 = .ok (.invokevirtual 179, 3) := by decide +kernel
theorem dX5_lacks_7 : decode cX5_lacks 7 = .ok (.ifCond .eq 7, 3) := by decide +kernel
theorem dX5_lacks_10 : decode cX5_lacks 10 = .ok (.iconst 0, 1) := by decide +kernel
theorem dX5_lacks_11 : decode cX5_lacks 11 = .ok (.goto 4, 3) := by decide +kernel
theorem dX5_lacks_14 : decode cX5_lacks 14 = .ok (.iconst 1, 1) := by decide +kernel
theorem dX5_lacks_15 : decode cX5_lacks 15 = .ok (.invokevirtual 128, 3) := by decide +kernel
theorem dX5_lacks_18 : decode cX5_lacks 18 = .ok (.ifCond .eq 7, 3) := by decide +kernel
theorem dX5_lacks_21 : decode cX5_lacks 21 = .ok (.iconst 0, 1) := by decide +kernel
theorem dX5_lacks_22 : decode cX5_lacks 22 = .ok (.goto 9, 3) := by decide +kernel
theorem dX5_lacks_25 : decode cX5_lacks 25 = .ok (.aload_n 0, 1) := by decide +kernel
theorem dX5_lacks_26 : decode cX5_lacks 26 = .ok (.iload_n 1, 1) := by decide +kernel
theorem dX5_lacks_27 : decode cX5_lacks 27 = .ok (.iload_n 2, 1) := by decide +kernel
theorem dX5_lacks_28 : decode cX5_lacks 28 = .ok (.invokevirtual 145, 3) := by decide +kernel
theorem dX5_lacks_31 : decode cX5_lacks 31 = .ok (.ireturn, 1) := by decide +kernel
set_option maxRecDepth 20000 in
theorem ggX5_ofItem_X5_isItem : GoodIn wsX5_ofItem wsX5_isItem := goodIn_r _ [13, 14, 15, 16, 12, 17, 23, 24, 25, 26, 27, 28, 29, 30, 31, 32, 33, 34, 35, 36, 37, 38, 39, 40, 41, 42, 43, 44, 45, 46, 47, 48, 49, 50, 51, 52, 53, 54, 55, 56, 57, 58, 59, 60] (by decide +kernel) (by decide +kernel)
set_option maxRecDepth 20000 in
theorem gX5_ofItem_X5_isItem : GoodIn wsX5_ofItem (wsV RX5 142 RX5 yX5_isItem wsX5_isItem) := goodIn_app (goodIn_of _ (by decide +kernel)) ggX5_ofItem_X5_isItem
set_option maxRecDepth 20000 in
theorem ggX5_ofItem_X5_in : GoodIn wsX5_ofItem wsX5_in := goodIn_r _ [17] (by decide +kernel) (by decide +kernel)
set_option maxRecDepth 20000 in
theorem gX5_ofItem_X5_in : GoodIn wsX5_ofItem (va_wsS RX5 114 yX5_in wsX5_in) := goodIn_app (goodIn_of _ (by decide +kernel)) ggX5_ofItem_X5_in
set_option maxRecDepth 20000 in
theorem ggX5_ofItem_X5_refused : GoodIn wsX5_ofItem wsX5_refused := goodIn_r _ [21, 22, 23, 24, 25, 26, 27, 28, 29, 30, 31, 32, 33, 34, 35, 36, 37, 38, 39, 40, 41, 42, 43, 44, 45, 46, 47, 48, 49, 50, 51, 52, 53, 54, 55, 56, 57, 58, 59, 60] (by decide +kernel) (by decide +kernel)
set_option maxRecDepth 20000 in
theorem gX5_ofItem_X5_refused : GoodIn wsX5_ofItem (wsV RX5 128 RX5 yX5_refused wsX5_refused) := goodIn_app (goodIn_of _ (by decide +kernel)) ggX5_ofItem_X5_refused
theorem dX5_ofItem_0 : decode cX5_ofItem 0 = .ok (.aload_n 0, 1) := by decide +kernel
theorem dX5_ofItem_1 : decode cX5_ofItem 1 = .ok (.aload_n 0, 1) := by decide +kernel
theorem dX5_ofItem_2 : decode cX5_ofItem 2 = .ok (.iload_n 1, 1) := by decide +kernel
theorem dX5_ofItem_3 : decode cX5_ofItem 3 = .ok (.invokevirtual 142, 3) := by decide +kernel
theorem dX5_ofItem_6 : decode cX5_ofItem 6 = .ok (.ifCond .ne 7, 3) := by decide +kernel
theorem dX5_ofItem_9 : decode cX5_ofItem 9 = .ok (.iconst 1, 1) := by decide +kernel
theorem dX5_ofItem_10 : decode cX5_ofItem 10 = .ok (.goto 18, 3) := by decide +kernel
theorem dX5_ofItem_13 : decode cX5_ofItem 13 = .ok (.iload_n 2, 1) := by decide +kernel
theorem dX5_ofItem_14 : decode cX5_ofItem 14 = .ok (.iconst 0, 1) := by decide +kernel
theorem dX5_ofItem_15 : decode cX5_ofItem 15 = .ok (.bipush 7, 2) := by decide +kernel
theorem dX5_ofItem_17 : decode cX5_ofItem 17 = .ok (.invokestatic 114, 3) := by decide +kernel
theorem dX5_ofItem_20 : decode cX5_ofItem 20 = .ok (.ifCond .eq 7, 3) := by decide +kernel
theorem dX5_ofItem_23 : decode cX5_ofItem 23 = .ok (.iconst 0, 1) := by decide +kernel
theorem dX5_ofItem_24 : decode cX5_ofItem 24 = .ok (.goto 4, 3) := by decide +kernel
theorem dX5_ofItem_27 : decode cX5_ofItem 27 = .ok (.iconst 2, 1) := by decide +kernel
theorem dX5_ofItem_28 : decode cX5_ofItem 28 = .ok (.invokevirtual 128, 3) := by decide +kernel
theorem dX5_ofItem_31 : decode cX5_ofItem 31 = .ok (.ifCond .eq 5, 3) := by decide +kernel
theorem dX5_ofItem_34 : decode cX5_ofItem 34 = .ok (.iconst 0, 1) := by decide +kernel
theorem dX5_ofItem_35 : decode cX5_ofItem 35 = .ok (.ireturn, 1) := by decide +kernel
theorem dX5_ofItem_36 : decode cX5_ofItem 36 = .ok (.iload_n 2, 1) := by decide +kernel
theorem dX5_ofItem_37 : decode cX5_ofItem 37 = .ok (.tableswitch 92 0 6 #[43, 50, 57, 64, 71, 78, 85], 43) := by decide +kernel
theorem dX5_ofItem_80 : decode cX5_ofItem 80 = .ok (.aload_n 0, 1) := by decide +kernel
theorem dX5_ofItem_81 : decode cX5_ofItem 81 = .ok (.getfield 31, 3) := by decide +kernel
theorem dX5_ofItem_84 : decode cX5_ofItem 84 = .ok (.iload_n 1, 1) := by decide +kernel
theorem dX5_ofItem_85 : decode cX5_ofItem 85 = .ok (.iaload, 1) := by decide +kernel
theorem dX5_ofItem_86 : decode cX5_ofItem 86 = .ok (.ireturn, 1) := by decide +kernel
theorem dX5_ofItem_87 : decode cX5_ofItem 87 = .ok (.aload_n 0, 1) := by decide +kernel
theorem dX5_ofItem_88 : decode cX5_ofItem 88 = .ok (.getfield 34, 3) := by decide +kernel
theorem dX5_ofItem_91 : decode cX5_ofItem 91 = .ok (.iload_n 1, 1) := by decide +kernel
theorem dX5_ofItem_92 : decode cX5_ofItem 92 = .ok (.iaload, 1) := by decide +kernel
theorem dX5_ofItem_93 : decode cX5_ofItem 93 = .ok (.ireturn, 1) := by decide +kernel
theorem dX5_ofItem_94 : decode cX5_ofItem 94 = .ok (.aload_n 0, 1) := by decide +kernel
theorem dX5_ofItem_95 : decode cX5_ofItem 95 = .ok (.getfield 37, 3) := by decide +kernel
theorem dX5_ofItem_98 : decode cX5_ofItem 98 = .ok (.iload_n 1, 1) := by decide +kernel
theorem dX5_ofItem_99 : decode cX5_ofItem 99 = .ok (.iaload, 1) := by decide +kernel
theorem dX5_ofItem_100 : decode cX5_ofItem 100 = .ok (.ireturn, 1) := by decide +kernel
theorem dX5_ofItem_101 : decode cX5_ofItem 101 = .ok (.aload_n 0, 1) := by decide +kernel
theorem dX5_ofItem_102 : decode cX5_ofItem 102 = .ok (.getfield 40, 3) := by decide +kernel
theorem dX5_ofItem_105 : decode cX5_ofItem 105 = .ok (.iload_n 1, 1) := by decide +kernel
theorem dX5_ofItem_106 : decode cX5_ofItem 106 = .ok (.iaload, 1) := by decide +kernel
theorem dX5_ofItem_107 : decode cX5_ofItem 107 = .ok (.ireturn, 1) := by decide +kernel
theorem dX5_ofItem_108 : decode cX5_ofItem 108 = .ok (.aload_n 0, 1) := by decide +kernel
theorem dX5_ofItem_109 : decode cX5_ofItem 109 = .ok (.getfield 50, 3) := by decide +kernel
theorem dX5_ofItem_112 : decode cX5_ofItem 112 = .ok (.iload_n 1, 1) := by decide +kernel
theorem dX5_ofItem_113 : decode cX5_ofItem 113 = .ok (.iaload, 1) := by decide +kernel
theorem dX5_ofItem_114 : decode cX5_ofItem 114 = .ok (.ireturn, 1) := by decide +kernel
theorem dX5_ofItem_115 : decode cX5_ofItem 115 = .ok (.aload_n 0, 1) := by decide +kernel
theorem dX5_ofItem_116 : decode cX5_ofItem 116 = .ok (.getfield 53, 3) := by decide +kernel
theorem dX5_ofItem_119 : decode cX5_ofItem 119 = .ok (.iload_n 1, 1) := by decide +kernel
theorem dX5_ofItem_120 : decode cX5_ofItem 120 = .ok (.iaload, 1) := by decide +kernel
theorem dX5_ofItem_121 : decode cX5_ofItem 121 = .ok (.ireturn, 1) := by decide +kernel
theorem dX5_ofItem_122 : decode cX5_ofItem 122 = .ok (.aload_n 0, 1) := by decide +kernel
theorem dX5_ofItem_123 : decode cX5_ofItem 123 = .ok (.getfield 56, 3) := by decide +kernel
theorem dX5_ofItem_126 : decode cX5_ofItem 126 = .ok (.iload_n 1, 1) := by decide +kernel
theorem dX5_ofItem_127 : decode cX5_ofItem 127 = .ok (.iaload, 1) := by decide +kernel
theorem dX5_ofItem_128 : decode cX5_ofItem 128 = .ok (.ireturn, 1) := by decide +kernel
theorem dX5_ofItem_129 : decode cX5_ofItem 129 = .ok (.aload_n 0, 1) := by decide +kernel
theorem dX5_ofItem_130 : decode cX5_ofItem 130 = .ok (.getfield 59, 3) := by decide +kernel
theorem dX5_ofItem_133 : decode cX5_ofItem 133 = .ok (.iload_n 1, 1) := by decide +kernel
theorem dX5_ofItem_134 : decode cX5_ofItem 134 = .ok (.baload, 1) := by decide +kernel
theorem dX5_ofItem_135 : decode cX5_ofItem 135 = .ok (.ifCond .eq 7, 3) := by decide +kernel
theorem dX5_ofItem_138 : decode cX5_ofItem 138 = .ok (.iconst 1, 1) := by decide +kernel
theorem dX5_ofItem_139 : decode cX5_ofItem 139 = .ok (.goto 4, 3) := by decide +kernel
theorem dX5_ofItem_142 : decode cX5_ofItem 142 = .ok (.iconst 0, 1) := by decide +kernel
theorem dX5_ofItem_143 : decode cX5_ofItem 143 = .ok (.ireturn, 1) := by decide +kernel
set_option maxRecDepth 20000 in
theorem ggX5_spentBy_X5_isSpent : GoodIn wsX5_spentBy wsX5_isSpent := goodIn_r _ [7, 8, 1, 9, 10, 11, 12, 13, 6, 14, 15, 16, 17, 18, 19, 20, 21, 22, 23, 24, 25, 26, 27, 28, 29, 30, 31, 32, 33, 34, 35, 36, 37, 38, 39, 40, 41, 42, 43, 44, 45, 46, 47, 48, 49, 50, 51, 52, 53, 54, 55, 56, 57] (by decide +kernel) (by decide +kernel)
set_option maxRecDepth 20000 in
theorem gX5_spentBy_X5_isSpent : GoodIn wsX5_spentBy (wsV RX5 159 RX5 yX5_isSpent wsX5_isSpent) := goodIn_app (goodIn_of _ (by decide +kernel)) ggX5_spentBy_X5_isSpent
theorem dX5_spentBy_0 : decode cX5_spentBy 0 = .ok (.iconst 0, 1) := by decide +kernel
theorem dX5_spentBy_1 : decode cX5_spentBy 1 = .ok (.istore_n 2, 1) := by decide +kernel
theorem dX5_spentBy_2 : decode cX5_spentBy 2 = .ok (.iconst 0, 1) := by decide +kernel
theorem dX5_spentBy_3 : decode cX5_spentBy 3 = .ok (.istore_n 3, 1) := by decide +kernel
theorem dX5_spentBy_4 : decode cX5_spentBy 4 = .ok (.iload_n 3, 1) := by decide +kernel
theorem dX5_spentBy_5 : decode cX5_spentBy 5 = .ok (.aload_n 0, 1) := by decide +kernel
theorem dX5_spentBy_6 : decode cX5_spentBy 6 = .ok (.getfield 111, 3) := by decide +kernel
theorem dX5_spentBy_9 : decode cX5_spentBy 9 = .ok (.if_icmp .ge 32, 3) := by decide +kernel
theorem dX5_spentBy_12 : decode cX5_spentBy 12 = .ok (.iload_n 2, 1) := by decide +kernel
theorem dX5_spentBy_13 : decode cX5_spentBy 13 = .ok (.aload_n 0, 1) := by decide +kernel
theorem dX5_spentBy_14 : decode cX5_spentBy 14 = .ok (.iload_n 1, 1) := by decide +kernel
theorem dX5_spentBy_15 : decode cX5_spentBy 15 = .ok (.iload_n 3, 1) := by decide +kernel
theorem dX5_spentBy_16 : decode cX5_spentBy 16 = .ok (.aload_n 0, 1) := by decide +kernel
theorem dX5_spentBy_17 : decode cX5_spentBy 17 = .ok (.getfield 135, 3) := by decide +kernel
theorem dX5_spentBy_20 : decode cX5_spentBy 20 = .ok (.invokevirtual 159, 3) := by decide +kernel
theorem dX5_spentBy_23 : decode cX5_spentBy 23 = .ok (.ifCond .eq 9, 3) := by decide +kernel
theorem dX5_spentBy_26 : decode cX5_spentBy 26 = .ok (.iconst 1, 1) := by decide +kernel
theorem dX5_spentBy_27 : decode cX5_spentBy 27 = .ok (.iload_n 3, 1) := by decide +kernel
theorem dX5_spentBy_28 : decode cX5_spentBy 28 = .ok (.ishl, 1) := by decide +kernel
theorem dX5_spentBy_29 : decode cX5_spentBy 29 = .ok (.goto 4, 3) := by decide +kernel
theorem dX5_spentBy_32 : decode cX5_spentBy 32 = .ok (.iconst 0, 1) := by decide +kernel
theorem dX5_spentBy_33 : decode cX5_spentBy 33 = .ok (.ior, 1) := by decide +kernel
theorem dX5_spentBy_34 : decode cX5_spentBy 34 = .ok (.istore_n 2, 1) := by decide +kernel
theorem dX5_spentBy_35 : decode cX5_spentBy 35 = .ok (.iinc 3 1, 3) := by decide +kernel
theorem dX5_spentBy_38 : decode cX5_spentBy 38 = .ok (.goto (-34), 3) := by decide +kernel
theorem dX5_spentBy_41 : decode cX5_spentBy 41 = .ok (.iload_n 2, 1) := by decide +kernel
theorem dX5_spentBy_42 : decode cX5_spentBy 42 = .ok (.ireturn, 1) := by decide +kernel
set_option maxRecDepth 20000 in
theorem ggX5_ofAccused_X5_isIn : GoodIn wsX5_ofAccused wsX5_isIn := goodIn_r _ [12, 13, 14, 15, 16, 11, 17, 18, 19, 20, 45, 46, 47, 48, 49, 50, 51, 52, 53, 54, 55, 56, 57, 58, 59, 60, 61, 62, 63, 64, 65, 66, 67, 68, 69, 70, 71, 72, 73, 74, 75, 76, 77, 78, 79, 80, 81, 82] (by decide +kernel) (by decide +kernel)
set_option maxRecDepth 20000 in
theorem gX5_ofAccused_X5_isIn : GoodIn wsX5_ofAccused (wsV RX5 179 RX5 yX5_isIn wsX5_isIn) := goodIn_app (goodIn_of _ (by decide +kernel)) ggX5_ofAccused_X5_isIn
set_option maxRecDepth 20000 in
theorem ggX5_ofAccused_X5_in : GoodIn wsX5_ofAccused wsX5_in := goodIn_r _ [17] (by decide +kernel) (by decide +kernel)
set_option maxRecDepth 20000 in
theorem gX5_ofAccused_X5_in : GoodIn wsX5_ofAccused (va_wsS RX5 114 yX5_in wsX5_in) := goodIn_app (goodIn_of _ (by decide +kernel)) ggX5_ofAccused_X5_in
set_option maxRecDepth 20000 in
theorem ggX5_ofAccused_X5_refused : GoodIn wsX5_ofAccused wsX5_refused := goodIn_r _ [24, 25, 45, 46, 47, 48, 49, 50, 51, 52, 53, 54, 55, 56, 57, 58, 59, 60, 61, 62, 63, 64, 65, 66, 67, 68, 69, 70, 71, 72, 73, 74, 75, 76, 77, 78, 79, 80, 81, 82] (by decide +kernel) (by decide +kernel)
set_option maxRecDepth 20000 in
theorem gX5_ofAccused_X5_refused : GoodIn wsX5_ofAccused (wsV RX5 128 RX5 yX5_refused wsX5_refused) := goodIn_app (goodIn_of _ (by decide +kernel)) ggX5_ofAccused_X5_refused
set_option maxRecDepth 20000 in
theorem ggX5_ofAccused_X5_spentBy : GoodIn wsX5_ofAccused wsX5_spentBy := goodIn_r _ [29, 30, 31, 32, 33, 34, 11, 35, 36, 37, 38, 39, 18, 19, 20, 40, 41, 42, 43, 44, 45, 46, 47, 48, 49, 50, 51, 52, 53, 54, 55, 56, 57, 58, 59, 60, 61, 62, 63, 64, 65, 66, 67, 68, 69, 70, 71, 72, 73, 74, 75, 76, 77, 78, 79, 80, 81, 82] (by decide +kernel) (by decide +kernel)
set_option maxRecDepth 20000 in
theorem gX5_ofAccused_X5_spentBy : GoodIn wsX5_ofAccused (wsV RX5 197 RX5 yX5_spentBy wsX5_spentBy) := goodIn_app (goodIn_of _ (by decide +kernel)) ggX5_ofAccused_X5_spentBy
theorem dX5_ofAccused_0 : decode cX5_ofAccused 0 = .ok (.aload_n 0, 1) := by decide +kernel
theorem dX5_ofAccused_1 : decode cX5_ofAccused 1 = .ok (.aload_n 0, 1) := by decide +kernel
theorem dX5_ofAccused_2 : decode cX5_ofAccused 2 = .ok (.iload_n 1, 1) := by decide +kernel
theorem dX5_ofAccused_3 : decode cX5_ofAccused 3 = .ok (.iload_n 2, 1) := by decide +kernel
theorem dX5_ofAccused_4 : decode cX5_ofAccused 4 = .ok (.invokevirtual 179, 3) := by decide +kernel
theorem dX5_ofAccused_7 : decode cX5_ofAccused 7 = .ok (.ifCond .ne 7, 3) := by decide +kernel
theorem dX5_ofAccused_10 : decode cX5_ofAccused 10 = .ok (.iconst 1, 1) := by decide +kernel
theorem dX5_ofAccused_11 : decode cX5_ofAccused 11 = .ok (.goto 18, 3) := by decide +kernel
theorem dX5_ofAccused_14 : decode cX5_ofAccused 14 = .ok (.iload_n 3, 1) := by decide +kernel
theorem dX5_ofAccused_15 : decode cX5_ofAccused 15 = .ok (.iconst 0, 1) := by decide +kernel
theorem dX5_ofAccused_16 : decode cX5_ofAccused 16 = .ok (.bipush 7, 2) := by decide +kernel
theorem dX5_ofAccused_18 : decode cX5_ofAccused 18 = .ok (.invokestatic 114, 3) := by decide +kernel
theorem dX5_ofAccused_21 : decode cX5_ofAccused 21 = .ok (.ifCond .eq 7, 3) := by decide +kernel
theorem dX5_ofAccused_24 : decode cX5_ofAccused 24 = .ok (.iconst 0, 1) := by decide +kernel
theorem dX5_ofAccused_25 : decode cX5_ofAccused 25 = .ok (.goto 4, 3) := by decide +kernel
theorem dX5_ofAccused_28 : decode cX5_ofAccused 28 = .ok (.iconst 2, 1) := by decide +kernel
theorem dX5_ofAccused_29 : decode cX5_ofAccused 29 = .ok (.invokevirtual 128, 3) := by decide +kernel
theorem dX5_ofAccused_32 : decode cX5_ofAccused 32 = .ok (.ifCond .eq 5, 3) := by decide +kernel
theorem dX5_ofAccused_35 : decode cX5_ofAccused 35 = .ok (.iconst 0, 1) := by decide +kernel
theorem dX5_ofAccused_36 : decode cX5_ofAccused 36 = .ok (.ireturn, 1) := by decide +kernel
theorem dX5_ofAccused_37 : decode cX5_ofAccused 37 = .ok (.bipush 8, 2) := by decide +kernel
theorem dX5_ofAccused_39 : decode cX5_ofAccused 39 = .ok (.iload_n 1, 1) := by decide +kernel
theorem dX5_ofAccused_40 : decode cX5_ofAccused 40 = .ok (.imul, 1) := by decide +kernel
theorem dX5_ofAccused_41 : decode cX5_ofAccused 41 = .ok (.iload_n 2, 1) := by decide +kernel
theorem dX5_ofAccused_42 : decode cX5_ofAccused 42 = .ok (.iadd, 1) := by decide +kernel
theorem dX5_ofAccused_43 : decode cX5_ofAccused 43 = .ok (.istore 4, 2) := by decide +kernel
theorem dX5_ofAccused_45 : decode cX5_ofAccused 45 = .ok (.iload_n 3, 1) := by decide +kernel
theorem dX5_ofAccused_46 : decode cX5_ofAccused 46 = .ok (.tableswitch 106 0 6 #[42, 50, 58, 74, 82, 90, 98], 42) := by decide +kernel
theorem dX5_ofAccused_88 : decode cX5_ofAccused 88 = .ok (.aload_n 0, 1) := by decide +kernel
theorem dX5_ofAccused_89 : decode cX5_ofAccused 89 = .ok (.getfield 62, 3) := by decide +kernel
theorem dX5_ofAccused_92 : decode cX5_ofAccused 92 = .ok (.iload 4, 2) := by decide +kernel
theorem dX5_ofAccused_94 : decode cX5_ofAccused 94 = .ok (.iaload, 1) := by decide +kernel
theorem dX5_ofAccused_95 : decode cX5_ofAccused 95 = .ok (.ireturn, 1) := by decide +kernel
theorem dX5_ofAccused_96 : decode cX5_ofAccused 96 = .ok (.aload_n 0, 1) := by decide +kernel
theorem dX5_ofAccused_97 : decode cX5_ofAccused 97 = .ok (.getfield 65, 3) := by decide +kernel
theorem dX5_ofAccused_100 : decode cX5_ofAccused 100 = .ok (.iload 4, 2) := by decide +kernel
theorem dX5_ofAccused_102 : decode cX5_ofAccused 102 = .ok (.iaload, 1) := by decide +kernel
theorem dX5_ofAccused_103 : decode cX5_ofAccused 103 = .ok (.ireturn, 1) := by decide +kernel
theorem dX5_ofAccused_104 : decode cX5_ofAccused 104 = .ok (.aload_n 0, 1) := by decide +kernel
theorem dX5_ofAccused_105 : decode cX5_ofAccused 105 = .ok (.getfield 74, 3) := by decide +kernel
theorem dX5_ofAccused_108 : decode cX5_ofAccused 108 = .ok (.iload 4, 2) := by decide +kernel
theorem dX5_ofAccused_110 : decode cX5_ofAccused 110 = .ok (.baload, 1) := by decide +kernel
theorem dX5_ofAccused_111 : decode cX5_ofAccused 111 = .ok (.ifCond .eq 7, 3) := by decide +kernel
theorem dX5_ofAccused_114 : decode cX5_ofAccused 114 = .ok (.iconst 1, 1) := by decide +kernel
theorem dX5_ofAccused_115 : decode cX5_ofAccused 115 = .ok (.goto 4, 3) := by decide +kernel
theorem dX5_ofAccused_118 : decode cX5_ofAccused 118 = .ok (.iconst 0, 1) := by decide +kernel
theorem dX5_ofAccused_119 : decode cX5_ofAccused 119 = .ok (.ireturn, 1) := by decide +kernel
theorem dX5_ofAccused_120 : decode cX5_ofAccused 120 = .ok (.aload_n 0, 1) := by decide +kernel
theorem dX5_ofAccused_121 : decode cX5_ofAccused 121 = .ok (.getfield 77, 3) := by decide +kernel
theorem dX5_ofAccused_124 : decode cX5_ofAccused 124 = .ok (.iload 4, 2) := by decide +kernel
theorem dX5_ofAccused_126 : decode cX5_ofAccused 126 = .ok (.iaload, 1) := by decide +kernel
theorem dX5_ofAccused_127 : decode cX5_ofAccused 127 = .ok (.ireturn, 1) := by decide +kernel
theorem dX5_ofAccused_128 : decode cX5_ofAccused 128 = .ok (.aload_n 0, 1) := by decide +kernel
theorem dX5_ofAccused_129 : decode cX5_ofAccused 129 = .ok (.getfield 80, 3) := by decide +kernel
theorem dX5_ofAccused_132 : decode cX5_ofAccused 132 = .ok (.iload 4, 2) := by decide +kernel
theorem dX5_ofAccused_134 : decode cX5_ofAccused 134 = .ok (.iaload, 1) := by decide +kernel
theorem dX5_ofAccused_135 : decode cX5_ofAccused 135 = .ok (.ireturn, 1) := by decide +kernel
theorem dX5_ofAccused_136 : decode cX5_ofAccused 136 = .ok (.aload_n 0, 1) := by decide +kernel
theorem dX5_ofAccused_137 : decode cX5_ofAccused 137 = .ok (.getfield 89, 3) := by decide +kernel
theorem dX5_ofAccused_140 : decode cX5_ofAccused 140 = .ok (.iload 4, 2) := by decide +kernel
theorem dX5_ofAccused_142 : decode cX5_ofAccused 142 = .ok (.iaload, 1) := by decide +kernel
theorem dX5_ofAccused_143 : decode cX5_ofAccused 143 = .ok (.ireturn, 1) := by decide +kernel
theorem dX5_ofAccused_144 : decode cX5_ofAccused 144 = .ok (.aload_n 0, 1) := by decide +kernel
theorem dX5_ofAccused_145 : decode cX5_ofAccused 145 = .ok (.getfield 92, 3) := by decide +kernel
theorem dX5_ofAccused_148 : decode cX5_ofAccused 148 = .ok (.iload 4, 2) := by decide +kernel
theorem dX5_ofAccused_150 : decode cX5_ofAccused 150 = .ok (.iaload, 1) := by decide +kernel
theorem dX5_ofAccused_151 : decode cX5_ofAccused 151 = .ok (.ireturn, 1) := by decide +kernel
theorem dX5_ofAccused_152 : decode cX5_ofAccused 152 = .ok (.aload_n 0, 1) := by decide +kernel
theorem dX5_ofAccused_153 : decode cX5_ofAccused 153 = .ok (.iload 4, 2) := by decide +kernel
theorem dX5_ofAccused_155 : decode cX5_ofAccused 155 = .ok (.invokevirtual 197, 3) := by decide +kernel
theorem dX5_ofAccused_158 : decode cX5_ofAccused 158 = .ok (.ireturn, 1) := by decide +kernel
set_option maxRecDepth 20000 in
theorem ggX5_count_X5_in : GoodIn wsX5_count wsX5_in := goodIn_r _ [5] (by decide +kernel) (by decide +kernel)
set_option maxRecDepth 20000 in
theorem gX5_count_X5_in : GoodIn wsX5_count (va_wsS RX5 114 yX5_in wsX5_in) := goodIn_app (goodIn_of _ (by decide +kernel)) ggX5_count_X5_in
set_option maxRecDepth 20000 in
theorem ggX5_count_X5_refused : GoodIn wsX5_count wsX5_refused := goodIn_r _ [9, 10, 11, 12, 13, 14, 15, 16, 17, 18, 19, 20, 21, 22, 23, 24, 25, 26, 27, 28, 29, 30, 31, 32, 33, 34, 35, 36, 37, 38, 39, 40, 41, 42, 43, 44, 45, 46, 47, 48] (by decide +kernel) (by decide +kernel)
set_option maxRecDepth 20000 in
theorem gX5_count_X5_refused : GoodIn wsX5_count (wsV RX5 128 RX5 yX5_refused wsX5_refused) := goodIn_app (goodIn_of _ (by decide +kernel)) ggX5_count_X5_refused
theorem dX5_count_0 : decode cX5_count 0 = .ok (.aload_n 0, 1) := by decide +kernel
theorem dX5_count_1 : decode cX5_count 1 = .ok (.iload_n 1, 1) := by decide +kernel
theorem dX5_count_2 : decode cX5_count 2 = .ok (.iconst 0, 1) := by decide +kernel
theorem dX5_count_3 : decode cX5_count 3 = .ok (.iconst 5, 1) := by decide +kernel
theorem dX5_count_4 : decode cX5_count 4 = .ok (.invokestatic 114, 3) := by decide +kernel
theorem dX5_count_7 : decode cX5_count 7 = .ok (.ifCond .eq 7, 3) := by decide +kernel
theorem dX5_count_10 : decode cX5_count 10 = .ok (.iconst 0, 1) := by decide +kernel
theorem dX5_count_11 : decode cX5_count 11 = .ok (.goto 4, 3) := by decide +kernel
theorem dX5_count_14 : decode cX5_count 14 = .ok (.iconst 1, 1) := by decide +kernel
theorem dX5_count_15 : decode cX5_count 15 = .ok (.invokevirtual 128, 3) := by decide +kernel
theorem dX5_count_18 : decode cX5_count 18 = .ok (.ifCond .eq 7, 3) := by decide +kernel
theorem dX5_count_21 : decode cX5_count 21 = .ok (.iconst 0, 1) := by decide +kernel
theorem dX5_count_22 : decode cX5_count 22 = .ok (.goto 9, 3) := by decide +kernel
theorem dX5_count_25 : decode cX5_count 25 = .ok (.aload_n 0, 1) := by decide +kernel
theorem dX5_count_26 : decode cX5_count 26 = .ok (.getfield 104, 3) := by decide +kernel
theorem dX5_count_29 : decode cX5_count 29 = .ok (.iload_n 1, 1) := by decide +kernel
theorem dX5_count_30 : decode cX5_count 30 = .ok (.iaload, 1) := by decide +kernel
theorem dX5_count_31 : decode cX5_count 31 = .ok (.ireturn, 1) := by decide +kernel
theorem dJ6_bitCount_0f7a4_0 : decode cJ6_bitCount_0f7a4 0 = .ok (.iload_n 0, 1) := by decide +kernel
theorem dJ6_bitCount_0f7a4_1 : decode cJ6_bitCount_0f7a4 1 = .ok (.iload_n 0, 1) := by decide +kernel
theorem dJ6_bitCount_0f7a4_2 : decode cJ6_bitCount_0f7a4 2 = .ok (.iconst 1, 1) := by decide +kernel
theorem dJ6_bitCount_0f7a4_3 : decode cJ6_bitCount_0f7a4 3 = .ok (.iushr, 1) := by decide +kernel
theorem dJ6_bitCount_0f7a4_4 : decode cJ6_bitCount_0f7a4 4 = .ok (.ldc_w 265, 3) := by decide +kernel
theorem dJ6_bitCount_0f7a4_7 : decode cJ6_bitCount_0f7a4 7 = .ok (.iand, 1) := by decide +kernel
theorem dJ6_bitCount_0f7a4_8 : decode cJ6_bitCount_0f7a4 8 = .ok (.isub, 1) := by decide +kernel
theorem dJ6_bitCount_0f7a4_9 : decode cJ6_bitCount_0f7a4 9 = .ok (.istore_n 0, 1) := by decide +kernel
theorem dJ6_bitCount_0f7a4_10 : decode cJ6_bitCount_0f7a4 10 = .ok (.iload_n 0, 1) := by decide +kernel
theorem dJ6_bitCount_0f7a4_11 : decode cJ6_bitCount_0f7a4 11 = .ok (.ldc_w 266, 3) := by decide +kernel
theorem dJ6_bitCount_0f7a4_14 : decode cJ6_bitCount_0f7a4 14 = .ok (.iand, 1) := by decide +kernel
theorem dJ6_bitCount_0f7a4_15 : decode cJ6_bitCount_0f7a4 15 = .ok (.iload_n 0, 1) := by decide +kernel
theorem dJ6_bitCount_0f7a4_16 : decode cJ6_bitCount_0f7a4 16 = .ok (.iconst 2, 1) := by decide +kernel
theorem dJ6_bitCount_0f7a4_17 : decode cJ6_bitCount_0f7a4 17 = .ok (.iushr, 1) := by decide +kernel
theorem dJ6_bitCount_0f7a4_18 : decode cJ6_bitCount_0f7a4 18 = .ok (.ldc_w 266, 3) := by decide +kernel
theorem dJ6_bitCount_0f7a4_21 : decode cJ6_bitCount_0f7a4 21 = .ok (.iand, 1) := by decide +kernel
theorem dJ6_bitCount_0f7a4_22 : decode cJ6_bitCount_0f7a4 22 = .ok (.iadd, 1) := by decide +kernel
theorem dJ6_bitCount_0f7a4_23 : decode cJ6_bitCount_0f7a4 23 = .ok (.istore_n 0, 1) := by decide +kernel
theorem dJ6_bitCount_0f7a4_24 : decode cJ6_bitCount_0f7a4 24 = .ok (.iload_n 0, 1) := by decide +kernel
theorem dJ6_bitCount_0f7a4_25 : decode cJ6_bitCount_0f7a4 25 = .ok (.iload_n 0, 1) := by decide +kernel
theorem dJ6_bitCount_0f7a4_26 : decode cJ6_bitCount_0f7a4 26 = .ok (.iconst 4, 1) := by decide +kernel
theorem dJ6_bitCount_0f7a4_27 : decode cJ6_bitCount_0f7a4 27 = .ok (.iushr, 1) := by decide +kernel
theorem dJ6_bitCount_0f7a4_28 : decode cJ6_bitCount_0f7a4 28 = .ok (.iadd, 1) := by decide +kernel
theorem dJ6_bitCount_0f7a4_29 : decode cJ6_bitCount_0f7a4 29 = .ok (.ldc_w 267, 3) := by decide +kernel
theorem dJ6_bitCount_0f7a4_32 : decode cJ6_bitCount_0f7a4 32 = .ok (.iand, 1) := by decide +kernel
theorem dJ6_bitCount_0f7a4_33 : decode cJ6_bitCount_0f7a4 33 = .ok (.istore_n 0, 1) := by decide +kernel
theorem dJ6_bitCount_0f7a4_34 : decode cJ6_bitCount_0f7a4 34 = .ok (.iload_n 0, 1) := by decide +kernel
theorem dJ6_bitCount_0f7a4_35 : decode cJ6_bitCount_0f7a4 35 = .ok (.iload_n 0, 1) := by decide +kernel
theorem dJ6_bitCount_0f7a4_36 : decode cJ6_bitCount_0f7a4 36 = .ok (.bipush 8, 2) := by decide +kernel
theorem dJ6_bitCount_0f7a4_38 : decode cJ6_bitCount_0f7a4 38 = .ok (.iushr, 1) := by decide +kernel
theorem dJ6_bitCount_0f7a4_39 : decode cJ6_bitCount_0f7a4 39 = .ok (.iadd, 1) := by decide +kernel
theorem dJ6_bitCount_0f7a4_40 : decode cJ6_bitCount_0f7a4 40 = .ok (.istore_n 0, 1) := by decide +kernel
theorem dJ6_bitCount_0f7a4_41 : decode cJ6_bitCount_0f7a4 41 = .ok (.iload_n 0, 1) := by decide +kernel
theorem dJ6_bitCount_0f7a4_42 : decode cJ6_bitCount_0f7a4 42 = .ok (.iload_n 0, 1) := by decide +kernel
theorem dJ6_bitCount_0f7a4_43 : decode cJ6_bitCount_0f7a4 43 = .ok (.bipush 16, 2) := by decide +kernel
theorem dJ6_bitCount_0f7a4_45 : decode cJ6_bitCount_0f7a4 45 = .ok (.iushr, 1) := by decide +kernel
theorem dJ6_bitCount_0f7a4_46 : decode cJ6_bitCount_0f7a4 46 = .ok (.iadd, 1) := by decide +kernel
theorem dJ6_bitCount_0f7a4_47 : decode cJ6_bitCount_0f7a4 47 = .ok (.istore_n 0, 1) := by decide +kernel
theorem dJ6_bitCount_0f7a4_48 : decode cJ6_bitCount_0f7a4 48 = .ok (.iload_n 0, 1) := by decide +kernel
theorem dJ6_bitCount_0f7a4_49 : decode cJ6_bitCount_0f7a4 49 = .ok (.bipush 63, 2) := by decide +kernel
theorem dJ6_bitCount_0f7a4_51 : decode cJ6_bitCount_0f7a4 51 = .ok (.iand, 1) := by decide +kernel
theorem dJ6_bitCount_0f7a4_52 : decode cJ6_bitCount_0f7a4 52 = .ok (.ireturn, 1) := by decide +kernel
theorem dJ9_min_7cf53_0 : decode cJ9_min_7cf53 0 = .ok (.iload_n 0, 1) := by decide +kernel
theorem dJ9_min_7cf53_1 : decode cJ9_min_7cf53 1 = .ok (.iload_n 1, 1) := by decide +kernel
theorem dJ9_min_7cf53_2 : decode cJ9_min_7cf53 2 = .ok (.if_icmp .gt 7, 3) := by decide +kernel
theorem dJ9_min_7cf53_5 : decode cJ9_min_7cf53 5 = .ok (.iload_n 0, 1) := by decide +kernel
theorem dJ9_min_7cf53_6 : decode cJ9_min_7cf53 6 = .ok (.goto 4, 3) := by decide +kernel
theorem dJ9_min_7cf53_9 : decode cJ9_min_7cf53 9 = .ok (.iload_n 1, 1) := by decide +kernel
theorem dJ9_min_7cf53_10 : decode cJ9_min_7cf53 10 = .ok (.ireturn, 1) := by decide +kernel
set_option maxRecDepth 20000 in
theorem ggL_offence_X4_offence : GoodIn wsL_offence wsX4_offence := goodIn_ca (goodIn_ca (goodIn_r _ [6, 7, 8, 9, 10, 11, 12, 13, 14, 15, 16, 17, 5, 18, 19, 20, 21, 22, 23, 24, 25, 26, 27, 28, 29, 30, 31, 32, 33, 34, 35, 36, 37, 38, 39, 40, 41, 42, 43, 44] (by decide +kernel) (by decide +kernel)) (goodIn_sub (fun _ h => List.mem_cons_of_mem _ (List.mem_append_left _ (List.mem_append_right _ h))) (by decide +kernel))) (goodIn_sub (fun _ h => List.mem_cons_of_mem _ (List.mem_append_right _ h)) (by decide +kernel))
set_option maxRecDepth 20000 in
theorem gL_offence_X4_offence : GoodIn wsL_offence (wsV RL 7 RX4 yX4_offence wsX4_offence) := goodIn_app (goodIn_of _ (by decide +kernel)) ggL_offence_X4_offence
