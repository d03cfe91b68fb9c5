theorem dX4_plea_0 : decode cX4_plea 0 = .ok (.aload_n 0, 1) := by decide +kernel
theorem dX4_plea_1 : decode cX4_plea 1 = .ok (.iload_n 1, 1) := by decide +kernel
theorem dX4_plea_2 : decode cX4_plea 2 = .ok (.iload_n 2, 1) := by decide +kernel
theorem dX4_plea_3 : decode cX4_plea 3 = .ok (.invokevirtual 170, 3) := by decide +kernel
theorem dX4_plea_6 : decode cX4_plea 6 = .ok (.astore 4, 2) := by decide +kernel
theorem dX4_plea_8 : decode cX4_plea 8 = .ok (.aload_n 0, 1) := by decide +kernel
theorem dX4_plea_9 : decode cX4_plea 9 = .ok (.iload_n 3, 1) := by decide +kernel
theorem dX4_plea_10 : decode cX4_plea 10 = .ok (.invokevirtual 174, 3) := by decide +kernel
theorem dX4_plea_13 : decode cX4_plea 13 = .ok (.aload 4, 2) := by decide +kernel
theorem dX4_plea_15 : decode cX4_plea 15 = .ok (.getfield 178, 3) := by decide +kernel
theorem dX4_plea_18 : decode cX4_plea 18 = .ok (.iconst 2, 1) := by decide +kernel
theorem dX4_plea_19 : decode cX4_plea 19 = .ok (.if_icmp .ne 19, 3) := by decide +kernel
theorem dX4_plea_22 : decode cX4_plea 22 = .ok (.iload_n 3, 1) := by decide +kernel
theorem dX4_plea_23 : decode cX4_plea 23 = .ok (.ifCond .eq 15, 3) := by decide +kernel
theorem dX4_plea_26 : decode cX4_plea 26 = .ok (.iload_n 3, 1) := by decide +kernel
theorem dX4_plea_27 : decode cX4_plea 27 = .ok (.aload 4, 2) := by decide +kernel
theorem dX4_plea_29 : decode cX4_plea 29 = .ok (.getfield 190, 3) := by decide +kernel
theorem dX4_plea_32 : decode cX4_plea 32 = .ok (.iconst (-1), 1) := by decide +kernel
theorem dX4_plea_33 : decode cX4_plea 33 = .ok (.ixor, 1) := by decide +kernel
theorem dX4_plea_34 : decode cX4_plea 34 = .ok (.iand, 1) := by decide +kernel
theorem dX4_plea_35 : decode cX4_plea 35 = .ok (.ifCond .eq 13, 3) := by decide +kernel
theorem dX4_plea_38 : decode cX4_plea 38 = .ok (.new 42, 3) := by decide +kernel
theorem dX4_plea_41 : decode cX4_plea 41 = .ok (.dup, 1) := by decide +kernel
theorem dX4_plea_42 : decode cX4_plea 42 = .ok (.ldc 239, 2) := by decide +kernel
theorem dX4_plea_44 : decode cX4_plea 44 = .ok (.invokespecial 46, 3) := by decide +kernel
theorem dX4_plea_47 : decode cX4_plea 47 = .ok (.athrow, 1) := by decide +kernel
theorem dX4_plea_48 : decode cX4_plea 48 = .ok (.aload_n 0, 1) := by decide +kernel
theorem dX4_plea_49 : decode cX4_plea 49 = .ok (.iload_n 3, 1) := by decide +kernel
theorem dX4_plea_50 : decode cX4_plea 50 = .ok (.invokevirtual 196, 3) := by decide +kernel
theorem dX4_plea_53 : decode cX4_plea 53 = .ok (.istore 5, 2) := by decide +kernel
theorem dX4_plea_55 : decode cX4_plea 55 = .ok (.iconst 2, 1) := by decide +kernel
theorem dX4_plea_56 : decode cX4_plea 56 = .ok (.iload 5, 2) := by decide +kernel
theorem dX4_plea_58 : decode cX4_plea 58 = .ok (.imul, 1) := by decide +kernel
theorem dX4_plea_59 : decode cX4_plea 59 = .ok (.aload_n 0, 1) := by decide +kernel
theorem dX4_plea_60 : decode cX4_plea 60 = .ok (.aload 4, 2) := by decide +kernel
theorem dX4_plea_62 : decode cX4_plea 62 = .ok (.getfield 190, 3) := by decide +kernel
theorem dX4_plea_65 : decode cX4_plea 65 = .ok (.invokevirtual 196, 3) := by decide +kernel
theorem dX4_plea_68 : decode cX4_plea 68 = .ok (.if_icmp .ge 13, 3) := by decide +kernel
theorem dX4_plea_71 : decode cX4_plea 71 = .ok (.new 42, 3) := by decide +kernel
theorem dX4_plea_74 : decode cX4_plea 74 = .ok (.dup, 1) := by decide +kernel
theorem dX4_plea_75 : decode cX4_plea 75 = .ok (.ldc 241, 2) := by decide +kernel
theorem dX4_plea_77 : decode cX4_plea 77 = .ok (.invokespecial 46, 3) := by decide +kernel
theorem dX4_plea_80 : decode cX4_plea 80 = .ok (.athrow, 1) := by decide +kernel
theorem dX4_plea_81 : decode cX4_plea 81 = .ok (.bipush 12, 2) := by decide +kernel
theorem dX4_plea_83 : decode cX4_plea 83 = .ok (.iload 5, 2) := by decide +kernel
theorem dX4_plea_85 : decode cX4_plea 85 = .ok (.imul, 1) := by decide +kernel
theorem dX4_plea_86 : decode cX4_plea 86 = .ok (.bipush 100, 2) := by decide +kernel
theorem dX4_plea_88 : decode cX4_plea 88 = .ok (.aload_n 0, 1) := by decide +kernel
theorem dX4_plea_89 : decode cX4_plea 89 = .ok (.getfield 70, 3) := by decide +kernel
theorem dX4_plea_92 : decode cX4_plea 92 = .ok (.aload 4, 2) := by decide +kernel
theorem dX4_plea_94 : decode cX4_plea 94 = .ok (.getfield 193, 3) := by decide +kernel
theorem dX4_plea_97 : decode cX4_plea 97 = .ok (.isub, 1) := by decide +kernel
theorem dX4_plea_98 : decode cX4_plea 98 = .ok (.invokestatic 243, 3) := by decide +kernel
theorem dX4_plea_101 : decode cX4_plea 101 = .ok (.isub, 1) := by decide +kernel
theorem dX4_plea_102 : decode cX4_plea 102 = .ok (.imul, 1) := by decide +kernel
theorem dX4_plea_103 : decode cX4_plea 103 = .ok (.bipush 100, 2) := by decide +kernel
theorem dX4_plea_105 : decode cX4_plea 105 = .ok (.idiv, 1) := by decide +kernel
theorem dX4_plea_106 : decode cX4_plea 106 = .ok (.istore 6, 2) := by decide +kernel
theorem dX4_plea_108 : decode cX4_plea 108 = .ok (.aload_n 0, 1) := by decide +kernel
theorem dX4_plea_109 : decode cX4_plea 109 = .ok (.dup, 1) := by decide +kernel
theorem dX4_plea_110 : decode cX4_plea 110 = .ok (.getfield 246, 3) := by decide +kernel
theorem dX4_plea_113 : decode cX4_plea 113 = .ok (.iconst 1, 1) := by decide +kernel
theorem dX4_plea_114 : decode cX4_plea 114 = .ok (.iadd, 1) := by decide +kernel
theorem dX4_plea_115 : decode cX4_plea 115 = .ok (.putfield 246, 3) := by decide +kernel
theorem dX4_plea_118 : decode cX4_plea 118 = .ok (.aload_n 0, 1) := by decide +kernel
theorem dX4_plea_119 : decode cX4_plea 119 = .ok (.dup, 1) := by decide +kernel
theorem dX4_plea_120 : decode cX4_plea 120 = .ok (.getfield 224, 3) := by decide +kernel
theorem dX4_plea_123 : decode cX4_plea 123 = .ok (.iload_n 3, 1) := by decide +kernel
theorem dX4_plea_124 : decode cX4_plea 124 = .ok (.invokestatic 227, 3) := by decide +kernel
theorem dX4_plea_127 : decode cX4_plea 127 = .ok (.iadd, 1) := by decide +kernel
theorem dX4_plea_128 : decode cX4_plea 128 = .ok (.putfield 224, 3) := by decide +kernel
theorem dX4_plea_131 : decode cX4_plea 131 = .ok (.aload 4, 2) := by decide +kernel
theorem dX4_plea_133 : decode cX4_plea 133 = .ok (.dup, 1) := by decide +kernel
theorem dX4_plea_134 : decode cX4_plea 134 = .ok (.getfield 249, 3) := by decide +kernel
theorem dX4_plea_137 : decode cX4_plea 137 = .ok (.iload 6, 2) := by decide +kernel
theorem dX4_plea_139 : decode cX4_plea 139 = .ok (.iadd, 1) := by decide +kernel
theorem dX4_plea_140 : decode cX4_plea 140 = .ok (.putfield 249, 3) := by decide +kernel
theorem dX4_plea_143 : decode cX4_plea 143 = .ok (.aload 4, 2) := by decide +kernel
theorem dX4_plea_145 : decode cX4_plea 145 = .ok (.iload_n 3, 1) := by decide +kernel
theorem dX4_plea_146 : decode cX4_plea 146 = .ok (.aload_n 0, 1) := by decide +kernel
theorem dX4_plea_147 : decode cX4_plea 147 = .ok (.getfield 70, 3) := by decide +kernel
theorem dX4_plea_150 : decode cX4_plea 150 = .ok (.invokevirtual 235, 3) := by decide +kernel
theorem dX4_plea_153 : decode cX4_plea 153 = .ok (.iload 6, 2) := by decide +kernel
theorem dX4_plea_155 : decode cX4_plea 155 = .ok (.ireturn, 1) := by decide +kernel
set_option maxRecDepth 20000 in
theorem ggX4_arrest_X4_accusedAt : GoodIn wsX4_arrest wsX4_accusedAt := goodIn_ca (goodIn_r _ [9, 10, 11, 12, 13, 14, 8, 15, 16, 17, 18, 19, 20, 21, 22, 52, 53, 54, 55, 56, 57, 58, 59, 60, 61, 62, 63, 64, 65, 66, 67, 68, 69] (by decide +kernel) (by decide +kernel)) (goodIn_sub (fun _ h => List.mem_cons_of_mem _ (List.mem_append_right _ h)) (by decide +kernel))
set_option maxRecDepth 20000 in
theorem gX4_arrest_X4_accusedAt : GoodIn wsX4_arrest (wsV RX4 170 RX4 yX4_accusedAt wsX4_accusedAt) := goodIn_app (goodIn_of _ (by decide +kernel)) ggX4_arrest_X4_accusedAt
set_option maxRecDepth 20000 in
theorem ggX4_arrest_X0_daysLeft : GoodIn wsX4_arrest wsX0_daysLeft := goodIn_r _ [27, 28, 29, 30, 31, 32, 33, 26, 34, 35, 36, 8, 37, 38, 39, 40, 41, 42, 43, 44, 45, 46, 47, 48, 49, 50, 51] (by decide +kernel) (by decide +kernel)
set_option maxRecDepth 20000 in
theorem gX4_arrest_X0_daysLeft : GoodIn wsX4_arrest (wsV RX4 252 RX0 yX0_daysLeft wsX0_daysLeft) := goodIn_app (goodIn_of _ (by decide +kernel)) ggX4_arrest_X0_daysLeft
theorem dX4_arrest_0 : decode cX4_arrest 0 = .ok (.aload_n 0, 1) := by decide +kernel
theorem dX4_arrest_1 : decode cX4_arrest 1 = .ok (.iload_n 1, 1) := by decide +kernel
theorem dX4_arrest_2 : decode cX4_arrest 2 = .ok (.iload_n 2, 1) := by decide +kernel
theorem dX4_arrest_3 : decode cX4_arrest 3 = .ok (.invokevirtual 170, 3) := by decide +kernel
theorem dX4_arrest_6 : decode cX4_arrest 6 = .ok (.astore_n 3, 1) := by decide +kernel
theorem dX4_arrest_7 : decode cX4_arrest 7 = .ok (.aload_n 3, 1) := by decide +kernel
theorem dX4_arrest_8 : decode cX4_arrest 8 = .ok (.invokevirtual 252, 3) := by decide +kernel
theorem dX4_arrest_11 : decode cX4_arrest 11 = .ok (.istore 4, 2) := by decide +kernel
theorem dX4_arrest_13 : decode cX4_arrest 13 = .ok (.aload_n 3, 1) := by decide +kernel
theorem dX4_arrest_14 : decode cX4_arrest 14 = .ok (.getfield 178, 3) := by decide +kernel
theorem dX4_arrest_17 : decode cX4_arrest 17 = .ok (.iconst 1, 1) := by decide +kernel
theorem dX4_arrest_18 : decode cX4_arrest 18 = .ok (.if_icmp .eq 15, 3) := by decide +kernel
theorem dX4_arrest_21 : decode cX4_arrest 21 = .ok (.aload_n 3, 1) := by decide +kernel
theorem dX4_arrest_22 : decode cX4_arrest 22 = .ok (.getfield 207, 3) := by decide +kernel
theorem dX4_arrest_25 : decode cX4_arrest 25 = .ok (.ifCond .ne 8, 3) := by decide +kernel
theorem dX4_arrest_28 : decode cX4_arrest 28 = .ok (.iload 4, 2) := by decide +kernel
theorem dX4_arrest_30 : decode cX4_arrest 30 = .ok (.ifCond .gt 14, 3) := by decide +kernel
theorem dX4_arrest_33 : decode cX4_arrest 33 = .ok (.new 42, 3) := by decide +kernel
theorem dX4_arrest_36 : decode cX4_arrest 36 = .ok (.dup, 1) := by decide +kernel
theorem dX4_arrest_37 : decode cX4_arrest 37 = .ok (.ldc_w 256, 3) := by decide +kernel
theorem dX4_arrest_40 : decode cX4_arrest 40 = .ok (.invokespecial 46, 3) := by decide +kernel
theorem dX4_arrest_43 : decode cX4_arrest 43 = .ok (.athrow, 1) := by decide +kernel
theorem dX4_arrest_44 : decode cX4_arrest 44 = .ok (.aload_n 3, 1) := by decide +kernel
theorem dX4_arrest_45 : decode cX4_arrest 45 = .ok (.iconst 1, 1) := by decide +kernel
theorem dX4_arrest_46 : decode cX4_arrest 46 = .ok (.putfield 207, 3) := by decide +kernel
theorem dX4_arrest_49 : decode cX4_arrest 49 = .ok (.iload 4, 2) := by decide +kernel
theorem dX4_arrest_51 : decode cX4_arrest 51 = .ok (.ireturn, 1) := by decide +kernel
set_option maxRecDepth 20000 in
theorem ggX4_extend_X4_accusedAt : GoodIn wsX4_extend wsX4_accusedAt := goodIn_ca (goodIn_r _ [11, 12, 13, 14, 15, 16, 10, 17, 18, 19, 20, 21, 22, 23, 24, 51, 52, 53, 54, 55, 56, 57, 58, 59, 60, 61, 62, 63, 64, 65, 66, 67, 68] (by decide +kernel) (by decide +kernel)) (goodIn_sub (fun _ h => List.mem_cons_of_mem _ (List.mem_append_right _ h)) (by decide +kernel))
set_option maxRecDepth 20000 in
theorem gX4_extend_X4_accusedAt : GoodIn wsX4_extend (wsV RX4 170 RX4 yX4_accusedAt wsX4_accusedAt) := goodIn_app (goodIn_of _ (by decide +kernel)) ggX4_extend_X4_accusedAt
set_option maxRecDepth 20000 in
theorem ggX4_extend_X4_isWithin : GoodIn wsX4_extend wsX4_isWithin := goodIn_r _ [27] (by decide +kernel) (by decide +kernel)
set_option maxRecDepth 20000 in
theorem gX4_extend_X4_isWithin : GoodIn wsX4_extend (va_wsS RX4 27 yX4_isWithin wsX4_isWithin) := goodIn_app (goodIn_of _ (by decide +kernel)) ggX4_extend_X4_isWithin
set_option maxRecDepth 20000 in
theorem ggX4_extend_X4_hasBit : GoodIn wsX4_extend wsX4_hasBit := goodIn_r _ [30] (by decide +kernel) (by decide +kernel)
set_option maxRecDepth 20000 in
theorem gX4_extend_X4_hasBit : GoodIn wsX4_extend (va_wsS RX4 96 yX4_hasBit wsX4_hasBit) := goodIn_app (goodIn_of _ (by decide +kernel)) ggX4_extend_X4_hasBit
set_option maxRecDepth 20000 in
theorem ggX4_extend_X0_ceilingWhileOpen : GoodIn wsX4_extend wsX0_ceilingWhileOpen := goodIn_r _ [35, 36, 29, 10, 30, 37, 38, 39, 40, 41, 42, 43, 44, 45, 46, 47, 48, 49, 50] (by decide +kernel) (by decide +kernel)
set_option maxRecDepth 20000 in
theorem gX4_extend_X0_ceilingWhileOpen : GoodIn wsX4_extend (wsV RX4 265 RX0 yX0_ceilingWhileOpen wsX0_ceilingWhileOpen) := goodIn_app (goodIn_of _ (by decide +kernel)) ggX4_extend_X0_ceilingWhileOpen
theorem dX4_extend_0 : decode cX4_extend 0 = .ok (.aload_n 0, 1) := by decide +kernel
theorem dX4_extend_1 : decode cX4_extend 1 = .ok (.iload_n 1, 1) := by decide +kernel
theorem dX4_extend_2 : decode cX4_extend 2 = .ok (.iload_n 2, 1) := by decide +kernel
theorem dX4_extend_3 : decode cX4_extend 3 = .ok (.invokevirtual 170, 3) := by decide +kernel
theorem dX4_extend_6 : decode cX4_extend 6 = .ok (.astore 4, 2) := by decide +kernel
theorem dX4_extend_8 : decode cX4_extend 8 = .ok (.iload_n 3, 1) := by decide +kernel
theorem dX4_extend_9 : decode cX4_extend 9 = .ok (.iconst 1, 1) := by decide +kernel
theorem dX4_extend_10 : decode cX4_extend 10 = .ok (.iconst 2, 1) := by decide +kernel
theorem dX4_extend_11 : decode cX4_extend 11 = .ok (.invokestatic 27, 3) := by decide +kernel
theorem dX4_extend_14 : decode cX4_extend 14 = .ok (.ifCond .ne 14, 3) := by decide +kernel
theorem dX4_extend_17 : decode cX4_extend 17 = .ok (.new 31, 3) := by decide +kernel
theorem dX4_extend_20 : decode cX4_extend 20 = .ok (.dup, 1) := by decide +kernel
theorem dX4_extend_21 : decode cX4_extend 21 = .ok (.ldc_w 258, 3) := by decide +kernel
theorem dX4_extend_24 : decode cX4_extend 24 = .ok (.invokespecial 35, 3) := by decide +kernel
theorem dX4_extend_27 : decode cX4_extend 27 = .ok (.athrow, 1) := by decide +kernel
theorem dX4_extend_28 : decode cX4_extend 28 = .ok (.aload 4, 2) := by decide +kernel
theorem dX4_extend_30 : decode cX4_extend 30 = .ok (.getfield 178, 3) := by decide +kernel
theorem dX4_extend_33 : decode cX4_extend 33 = .ok (.ifCond .ne 15, 3) := by decide +kernel
theorem dX4_extend_36 : decode cX4_extend 36 = .ok (.aload 4, 2) := by decide +kernel
theorem dX4_extend_38 : decode cX4_extend 38 = .ok (.getfield 260, 3) := by decide +kernel
theorem dX4_extend_41 : decode cX4_extend 41 = .ok (.iload_n 3, 1) := by decide +kernel
theorem dX4_extend_42 : decode cX4_extend 42 = .ok (.invokestatic 96, 3) := by decide +kernel
theorem dX4_extend_45 : decode cX4_extend 45 = .ok (.ifCond .eq 14, 3) := by decide +kernel
theorem dX4_extend_48 : decode cX4_extend 48 = .ok (.new 42, 3) := by decide +kernel
theorem dX4_extend_51 : decode cX4_extend 51 = .ok (.dup, 1) := by decide +kernel
theorem dX4_extend_52 : decode cX4_extend 52 = .ok (.ldc_w 263, 3) := by decide +kernel
theorem dX4_extend_55 : decode cX4_extend 55 = .ok (.invokespecial 46, 3) := by decide +kernel
theorem dX4_extend_58 : decode cX4_extend 58 = .ok (.athrow, 1) := by decide +kernel
theorem dX4_extend_59 : decode cX4_extend 59 = .ok (.aload 4, 2) := by decide +kernel
theorem dX4_extend_61 : decode cX4_extend 61 = .ok (.dup, 1) := by decide +kernel
theorem dX4_extend_62 : decode cX4_extend 62 = .ok (.getfield 260, 3) := by decide +kernel
theorem dX4_extend_65 : decode cX4_extend 65 = .ok (.iconst 1, 1) := by decide +kernel
theorem dX4_extend_66 : decode cX4_extend 66 = .ok (.iload_n 3, 1) := by decide +kernel
theorem dX4_extend_67 : decode cX4_extend 67 = .ok (.ishl, 1) := by decide +kernel
theorem dX4_extend_68 : decode cX4_extend 68 = .ok (.ior, 1) := by decide +kernel
theorem dX4_extend_69 : decode cX4_extend 69 = .ok (.putfield 260, 3) := by decide +kernel
theorem dX4_extend_72 : decode cX4_extend 72 = .ok (.aload 4, 2) := by decide +kernel
theorem dX4_extend_74 : decode cX4_extend 74 = .ok (.invokevirtual 265, 3) := by decide +kernel
theorem dX4_extend_77 : decode cX4_extend 77 = .ok (.ireturn, 1) := by decide +kernel
set_option maxRecDepth 20000 in
theorem ggX4_release_X4_accusedAt : GoodIn wsX4_release wsX4_accusedAt := goodIn_ca (goodIn_r _ [8, 9, 10, 11, 12, 13, 7, 14, 15, 16, 17, 18, 19, 20, 21, 36, 37, 38, 39, 40, 41, 42, 43, 44, 45, 46, 47, 48, 49, 50, 51, 52, 53] (by decide +kernel) (by decide +kernel)) (goodIn_sub (fun _ h => List.mem_cons_of_mem _ (List.mem_append_right _ h)) (by decide +kernel))
set_option maxRecDepth 20000 in
theorem gX4_release_X4_accusedAt : GoodIn wsX4_release (wsV RX4 170 RX4 yX4_accusedAt wsX4_accusedAt) := goodIn_app (goodIn_of _ (by decide +kernel)) ggX4_release_X4_accusedAt
theorem dX4_release_0 : decode cX4_release 0 = .ok (.aload_n 0, 1) := by decide +kernel
theorem dX4_release_1 : decode cX4_release 1 = .ok (.iload_n 1, 1) := by decide +kernel
theorem dX4_release_2 : decode cX4_release 2 = .ok (.iload_n 2, 1) := by decide +kernel
theorem dX4_release_3 : decode cX4_release 3 = .ok (.invokevirtual 170, 3) := by decide +kernel
theorem dX4_release_6 : decode cX4_release 6 = .ok (.astore_n 3, 1) := by decide +kernel
theorem dX4_release_7 : decode cX4_release 7 = .ok (.aload_n 3, 1) := by decide +kernel
theorem dX4_release_8 : decode cX4_release 8 = .ok (.getfield 207, 3) := by decide +kernel
theorem dX4_release_11 : decode cX4_release 11 = .ok (.ifCond .ne 14, 3) := by decide +kernel
theorem dX4_release_14 : decode cX4_release 14 = .ok (.new 42, 3) := by decide +kernel
theorem dX4_release_17 : decode cX4_release 17 = .ok (.dup, 1) := by decide +kernel
theorem dX4_release_18 : decode cX4_release 18 = .ok (.ldc_w 268, 3) := by decide +kernel
theorem dX4_release_21 : decode cX4_release 21 = .ok (.invokespecial 46, 3) := by decide +kernel
theorem dX4_release_24 : decode cX4_release 24 = .ok (.athrow, 1) := by decide +kernel
theorem dX4_release_25 : decode cX4_release 25 = .ok (.aload_n 3, 1) := by decide +kernel
theorem dX4_release_26 : decode cX4_release 26 = .ok (.iconst 0, 1) := by decide +kernel
theorem dX4_release_27 : decode cX4_release 27 = .ok (.putfield 207, 3) := by decide +kernel
theorem dX4_release_30 : decode cX4_release 30 = .ok (.return_, 1) := by decide +kernel
theorem dX4_day_0 : decode cX4_day 0 = .ok (.aload_n 0, 1) := by decide +kernel
theorem dX4_day_1 : decode cX4_day 1 = .ok (.getfield 70, 3) := by decide +kernel
theorem dX4_day_4 : decode cX4_day 4 = .ok (.ireturn, 1) := by decide +kernel
set_option maxRecDepth 20000 in
theorem ggX4_nests_X4_offenceAt : GoodIn wsX4_nests wsX4_offenceAt := goodIn_r _ [7, 8, 15, 16, 17, 18, 19, 20, 21, 22, 23, 24, 25, 26, 27] (by decide +kernel) (by decide +kernel)
set_option maxRecDepth 20000 in
theorem gX4_nests_X4_offenceAt : GoodIn wsX4_nests (wsV RX4 50 RX4 yX4_offenceAt wsX4_offenceAt) := goodIn_app (goodIn_of _ (by decide +kernel)) ggX4_nests_X4_offenceAt
set_option maxRecDepth 20000 in
theorem ggX4_nests_X3_nestsIn : GoodIn wsX4_nests wsX3_nestsIn := goodIn_r _ [13, 14, 28, 29, 30, 31] (by decide +kernel) (by decide +kernel)
set_option maxRecDepth 20000 in
theorem gX4_nests_X3_nestsIn : GoodIn wsX4_nests (wsV RX4 270 RX3 yX3_nestsIn wsX3_nestsIn) := goodIn_app (goodIn_of _ (by decide +kernel)) ggX4_nests_X3_nestsIn
theorem dX4_nests_0 : decode cX4_nests 0 = .ok (.aload_n 0, 1) := by decide +kernel
theorem dX4_nests_1 : decode cX4_nests 1 = .ok (.iload_n 1, 1) := by decide +kernel
theorem dX4_nests_2 : decode cX4_nests 2 = .ok (.invokevirtual 50, 3) := by decide +kernel
theorem dX4_nests_5 : decode cX4_nests 5 = .ok (.astore_n 3, 1) := by decide +kernel
theorem dX4_nests_6 : decode cX4_nests 6 = .ok (.aload_n 0, 1) := by decide +kernel
theorem dX4_nests_7 : decode cX4_nests 7 = .ok (.iload_n 2, 1) := by decide +kernel
theorem dX4_nests_8 : decode cX4_nests 8 = .ok (.invokevirtual 50, 3) := by decide +kernel
theorem dX4_nests_11 : decode cX4_nests 11 = .ok (.astore 4, 2) := by decide +kernel
theorem dX4_nests_13 : decode cX4_nests 13 = .ok (.aload_n 3, 1) := by decide +kernel
theorem dX4_nests_14 : decode cX4_nests 14 = .ok (.ifnull 8, 3) := by decide +kernel
theorem dX4_nests_17 : decode cX4_nests 17 = .ok (.aload 4, 2) := by decide +kernel
theorem dX4_nests_19 : decode cX4_nests 19 = .ok (.ifnonnull 13, 3) := by decide +kernel
theorem dX4_nests_22 : decode cX4_nests 22 = .ok (.new 54, 3) := by decide +kernel
theorem dX4_nests_25 : decode cX4_nests 25 = .ok (.dup, 1) := by decide +kernel
theorem dX4_nests_26 : decode cX4_nests 26 = .ok (.ldc 56, 2) := by decide +kernel
theorem dX4_nests_28 : decode cX4_nests 28 = .ok (.invokespecial 58, 3) := by decide +kernel
theorem dX4_nests_31 : decode cX4_nests 31 = .ok (.athrow, 1) := by decide +kernel
theorem dX4_nests_32 : decode cX4_nests 32 = .ok (.aload_n 3, 1) := by decide +kernel
theorem dX4_nests_33 : decode cX4_nests 33 = .ok (.aload 4, 2) := by decide +kernel
theorem dX4_nests_35 : decode cX4_nests 35 = .ok (.invokevirtual 270, 3) := by decide +kernel
theorem dX4_nests_38 : decode cX4_nests 38 = .ok (.ireturn, 1) := by decide +kernel
set_option maxRecDepth 20000 in
theorem ggX4_strength_X4_accusedAt : GoodIn wsX4_strength wsX4_accusedAt := goodIn_ca (goodIn_r _ [7, 1, 2, 8, 9, 10, 6, 11, 12, 13, 14, 15, 16, 17, 18, 55, 56, 57, 58, 59, 60, 61, 62, 63, 64, 65, 66, 67, 68, 69, 70, 71, 72] (by decide +kernel) (by decide +kernel)) (goodIn_sub (fun _ h => List.mem_cons_of_mem _ (List.mem_append_left _ (List.mem_append_right _ h))) (by decide +kernel))
set_option maxRecDepth 20000 in
theorem gX4_strength_X4_accusedAt : GoodIn wsX4_strength (wsV RX4 170 RX4 yX4_accusedAt wsX4_accusedAt) := goodIn_app (goodIn_of _ (by decide +kernel)) ggX4_strength_X4_accusedAt
set_option maxRecDepth 20000 in
theorem ggX4_strength_X4_isWithin : GoodIn wsX4_strength wsX4_isWithin := goodIn_r _ [21] (by decide +kernel) (by decide +kernel)
set_option maxRecDepth 20000 in
theorem gX4_strength_X4_isWithin : GoodIn wsX4_strength (va_wsS RX4 27 yX4_isWithin wsX4_isWithin) := goodIn_app (goodIn_of _ (by decide +kernel)) ggX4_strength_X4_isWithin
set_option maxRecDepth 20000 in
theorem ggX4_strength_X4_checkDay : GoodIn wsX4_strength wsX4_checkDay := goodIn_ca (goodIn_r _ [25, 26, 27, 28, 19, 20, 6, 21, 55, 56, 57, 58, 59, 60, 61, 62, 63, 64, 65, 66, 67] (by decide +kernel) (by decide +kernel)) (goodIn_sub (fun _ h => List.mem_cons_of_mem _ (List.mem_append_right _ h)) (by decide +kernel))
set_option maxRecDepth 20000 in
theorem gX4_strength_X4_checkDay : GoodIn wsX4_strength (wsV RX4 276 RX4 yX4_checkDay wsX4_checkDay) := goodIn_app (goodIn_of _ (by decide +kernel)) ggX4_strength_X4_checkDay
set_option maxRecDepth 20000 in
theorem ggX4_strength_X4_strengthAgainst : GoodIn wsX4_strength wsX4_strengthAgainst := goodIn_r _ [32, 33, 34, 35, 36, 37, 38, 39, 40, 41, 42, 43, 44, 45, 46, 6, 47, 48, 49, 50, 51, 52, 53, 54, 55, 56, 57, 58, 59, 60, 61, 62, 63, 64, 65, 66, 67, 73, 74, 75, 76, 77, 78, 79, 80, 81, 82, 83, 84, 85, 86, 87, 88, 89, 90, 91, 92, 93, 94, 95, 96, 68, 69, 70, 71, 72] (by decide +kernel) (by decide +kernel)
set_option maxRecDepth 20000 in
theorem gX4_strength_X4_strengthAgainst : GoodIn wsX4_strength (wsV RX4 279 RX4 yX4_strengthAgainst wsX4_strengthAgainst) := goodIn_app (goodIn_of _ (by decide +kernel)) ggX4_strength_X4_strengthAgainst
theorem dX4_strength_0 : decode cX4_strength 0 = .ok (.aload_n 0, 1) := by decide +kernel
theorem dX4_strength_1 : decode cX4_strength 1 = .ok (.iload_n 1, 1) := by decide +kernel
theorem dX4_strength_2 : decode cX4_strength 2 = .ok (.iload_n 2, 1) := by decide +kernel
theorem dX4_strength_3 : decode cX4_strength 3 = .ok (.invokevirtual 170, 3) := by decide +kernel
theorem dX4_strength_6 : decode cX4_strength 6 = .ok (.astore 5, 2) := by decide +kernel
theorem dX4_strength_8 : decode cX4_strength 8 = .ok (.iload_n 3, 1) := by decide +kernel
theorem dX4_strength_9 : decode cX4_strength 9 = .ok (.iconst 0, 1) := by decide +kernel
theorem dX4_strength_10 : decode cX4_strength 10 = .ok (.bipush 9, 2) := by decide +kernel
theorem dX4_strength_12 : decode cX4_strength 12 = .ok (.invokestatic 27, 3) := by decide +kernel
theorem dX4_strength_15 : decode cX4_strength 15 = .ok (.ifCond .ne 14, 3) := by decide +kernel
theorem dX4_strength_18 : decode cX4_strength 18 = .ok (.new 54, 3) := by decide +kernel
theorem dX4_strength_21 : decode cX4_strength 21 = .ok (.dup, 1) := by decide +kernel
theorem dX4_strength_22 : decode cX4_strength 22 = .ok (.ldc_w 274, 3) := by decide +kernel
theorem dX4_strength_25 : decode cX4_strength 25 = .ok (.invokespecial 58, 3) := by decide +kernel
theorem dX4_strength_28 : decode cX4_strength 28 = .ok (.athrow, 1) := by decide +kernel
theorem dX4_strength_29 : decode cX4_strength 29 = .ok (.aload_n 0, 1) := by decide +kernel
theorem dX4_strength_30 : decode cX4_strength 30 = .ok (.iload 4, 2) := by decide +kernel
theorem dX4_strength_32 : decode cX4_strength 32 = .ok (.invokevirtual 276, 3) := by decide +kernel
theorem dX4_strength_35 : decode cX4_strength 35 = .ok (.aload_n 0, 1) := by decide +kernel
theorem dX4_strength_36 : decode cX4_strength 36 = .ok (.aload 5, 2) := by decide +kernel
theorem dX4_strength_38 : decode cX4_strength 38 = .ok (.iload_n 3, 1) := by decide +kernel
theorem dX4_strength_39 : decode cX4_strength 39 = .ok (.iload 4, 2) := by decide +kernel
theorem dX4_strength_41 : decode cX4_strength 41 = .ok (.invokevirtual 279, 3) := by decide +kernel
theorem dX4_strength_44 : decode cX4_strength 44 = .ok (.ireturn, 1) := by decide +kernel
set_option maxRecDepth 20000 in
theorem ggX4_whyNot_X4_accusedAt : GoodIn wsX4_whyNot wsX4_accusedAt := goodIn_ca (goodIn_r _ [7, 1, 2, 8, 9, 10, 6, 11, 12, 13, 14, 15, 16, 17, 18, 94, 95, 96, 97, 98, 99, 100, 101, 102, 103, 104, 105, 106, 107, 108, 109, 110, 111] (by decide +kernel) (by decide +kernel)) (goodIn_sub (fun _ h => List.mem_cons_of_mem _ (List.mem_append_left _ (List.mem_append_right _ h))) (by decide +kernel))
set_option maxRecDepth 20000 in
theorem gX4_whyNot_X4_accusedAt : GoodIn wsX4_whyNot (wsV RX4 170 RX4 yX4_accusedAt wsX4_accusedAt) := goodIn_app (goodIn_of _ (by decide +kernel)) ggX4_whyNot_X4_accusedAt
set_option maxRecDepth 20000 in
theorem ggX4_whyNot_X4_offenceAt : GoodIn wsX4_whyNot wsX4_offenceAt := goodIn_r _ [22, 23, 94, 95, 96, 97, 98, 99, 100, 101, 102, 103, 104, 105, 106] (by decide +kernel) (by decide +kernel)
set_option maxRecDepth 20000 in
theorem gX4_whyNot_X4_offenceAt : GoodIn wsX4_whyNot (wsV RX4 50 RX4 yX4_offenceAt wsX4_offenceAt) := goodIn_app (goodIn_of _ (by decide +kernel)) ggX4_whyNot_X4_offenceAt
set_option maxRecDepth 20000 in
theorem ggX4_whyNot_X4_checkDay : GoodIn wsX4_whyNot wsX4_checkDay := goodIn_ca (goodIn_r _ [27, 28, 29, 30, 31, 32, 6, 33, 94, 95, 96, 97, 98, 99, 100, 101, 102, 103, 104, 105, 106] (by decide +kernel) (by decide +kernel)) (goodIn_sub (fun _ h => List.mem_cons_of_mem _ (List.mem_append_right _ h)) (by decide +kernel))
set_option maxRecDepth 20000 in
theorem gX4_whyNot_X4_checkDay : GoodIn wsX4_whyNot (wsV RX4 276 RX4 yX4_checkDay wsX4_checkDay) := goodIn_app (goodIn_of _ (by decide +kernel)) ggX4_whyNot_X4_checkDay
set_option maxRecDepth 20000 in
theorem ggX4_whyNot_X4_hindrance : GoodIn wsX4_whyNot wsX4_hindrance := goodIn_r _ [37, 38, 39, 40, 41, 42, 43, 44, 45, 6, 46, 23, 47, 48, 49, 50, 51, 52, 53, 54, 55, 56, 57, 58, 59, 60, 61, 62, 63, 64, 65, 66, 67, 68, 69, 70, 71, 72, 73, 74, 75, 76, 77, 78, 79, 80, 81, 82, 83, 84, 85, 86, 87, 88, 89, 90, 91, 92, 93, 112, 113, 114, 115, 116, 117, 118, 119, 120, 121, 122, 123, 124, 125, 107, 108, 109, 110, 111, 126, 127, 128, 129, 94, 95, 96, 97, 98, 99, 100, 101, 102, 103, 104, 105, 106, 130, 131, 132, 133, 134, 135, 136, 137, 138, 139] (by decide +kernel) (by decide +kernel)
set_option maxRecDepth 20000 in
theorem gX4_whyNot_X4_hindrance : GoodIn wsX4_whyNot (wsV RX4 283 RX4 yX4_hindrance wsX4_hindrance) := goodIn_app (goodIn_of _ (by decide +kernel)) ggX4_whyNot_X4_hindrance
theorem dX4_whyNot_0 : decode cX4_whyNot 0 = .ok (.aload_n 0, 1) := by decide +kernel
theorem dX4_whyNot_1 : decode cX4_whyNot 1 = .ok (.iload_n 1, 1) := by decide +kernel
theorem dX4_whyNot_2 : decode cX4_whyNot 2 = .ok (.iload_n 2, 1) := by decide +kernel
theorem dX4_whyNot_3 : decode cX4_whyNot 3 = .ok (.invokevirtual 170, 3) := by decide +kernel
theorem dX4_whyNot_6 : decode cX4_whyNot 6 = .ok (.astore 5, 2) := by decide +kernel
theorem dX4_whyNot_8 : decode cX4_whyNot 8 = .ok (.aload_n 0, 1) := by decide +kernel
theorem dX4_whyNot_9 : decode cX4_whyNot 9 = .ok (.iload_n 3, 1) := by decide +kernel
theorem dX4_whyNot_10 : decode cX4_whyNot 10 = .ok (.invokevirtual 50, 3) := by decide +kernel
theorem dX4_whyNot_13 : decode cX4_whyNot 13 = .ok (.astore 6, 2) := by decide +kernel
theorem dX4_whyNot_15 : decode cX4_whyNot 15 = .ok (.aload 6, 2) := by decide +kernel
theorem dX4_whyNot_17 : decode cX4_whyNot 17 = .ok (.ifnonnull 13, 3) := by decide +kernel
theorem dX4_whyNot_20 : decode cX4_whyNot 20 = .ok (.new 54, 3) := by decide +kernel
theorem dX4_whyNot_23 : decode cX4_whyNot 23 = .ok (.dup, 1) := by decide +kernel
theorem dX4_whyNot_24 : decode cX4_whyNot 24 = .ok (.ldc 56, 2) := by decide +kernel
theorem dX4_whyNot_26 : decode cX4_whyNot 26 = .ok (.invokespecial 58, 3) := by decide +kernel
theorem dX4_whyNot_29 : decode cX4_whyNot 29 = .ok (.athrow, 1) := by decide +kernel
theorem dX4_whyNot_30 : decode cX4_whyNot 30 = .ok (.aload_n 0, 1) := by decide +kernel
theorem dX4_whyNot_31 : decode cX4_whyNot 31 = .ok (.iload 4, 2) := by decide +kernel
theorem dX4_whyNot_33 : decode cX4_whyNot 33 = .ok (.invokevirtual 276, 3) := by decide +kernel
theorem dX4_whyNot_36 : decode cX4_whyNot 36 = .ok (.aload_n 0, 1) := by decide +kernel
theorem dX4_whyNot_37 : decode cX4_whyNot 37 = .ok (.aload 5, 2) := by decide +kernel
theorem dX4_whyNot_39 : decode cX4_whyNot 39 = .ok (.aload 6, 2) := by decide +kernel
theorem dX4_whyNot_41 : decode cX4_whyNot 41 = .ok (.iload 4, 2) := by decide +kernel
theorem dX4_whyNot_43 : decode cX4_whyNot 43 = .ok (.invokevirtual 283, 3) := by decide +kernel
theorem dX4_whyNot_46 : decode cX4_whyNot 46 = .ok (.ireturn, 1) := by decide +kernel
set_option maxRecDepth 20000 in
theorem ggX4_best_X4_accusedAt : GoodIn wsX4_best wsX4_accusedAt := goodIn_ca (goodIn_r _ [5, 6, 7, 8, 9, 10, 4, 11, 12, 13, 14, 15, 16, 17, 18, 137, 138, 139, 140, 141, 142, 143, 144, 145, 146, 147, 148, 149, 150, 151, 152, 153, 154] (by decide +kernel) (by decide +kernel)) (goodIn_sub (fun _ h => List.mem_cons_of_mem _ (List.mem_append_left _ (List.mem_append_right _ h))) (by decide +kernel))
set_option maxRecDepth 20000 in
theorem gX4_best_X4_accusedAt : GoodIn wsX4_best (wsV RX4 170 RX4 yX4_accusedAt wsX4_accusedAt) := goodIn_app (goodIn_of _ (by decide +kernel)) ggX4_best_X4_accusedAt
set_option maxRecDepth 20000 in
theorem ggX4_best_X4_checkDay : GoodIn wsX4_best wsX4_checkDay := goodIn_ca (goodIn_r _ [22, 23, 24, 25, 26, 27, 4, 28, 137, 138, 139, 140, 141, 142, 143, 144, 145, 146, 147, 148, 149] (by decide +kernel) (by decide +kernel)) (goodIn_sub (fun _ h => List.mem_cons_of_mem _ (List.mem_append_right _ h)) (by decide +kernel))
set_option maxRecDepth 20000 in
theorem gX4_best_X4_checkDay : GoodIn wsX4_best (wsV RX4 276 RX4 yX4_checkDay wsX4_checkDay) := goodIn_app (goodIn_of _ (by decide +kernel)) ggX4_best_X4_checkDay
set_option maxRecDepth 20000 in
theorem ggX4_best_X4_chargeable : GoodIn wsX4_best wsX4_chargeable := goodIn_r _ [32, 33, 34, 35, 36, 4, 37, 38, 39, 40, 41, 42, 43, 44, 45, 46, 47, 48, 49, 50, 51, 52, 53, 54, 55, 56, 57, 58, 59, 60, 61, 62, 63, 64, 65, 66, 67, 68, 69, 70, 71, 72, 73, 74, 75, 76, 77, 78, 79, 80, 81, 82, 83, 84, 85, 86, 87, 88, 89, 90, 91, 92, 93, 137, 138, 139, 140, 141, 142, 143, 144, 145, 146, 147, 148, 149, 155, 156, 157, 158, 159, 160, 161, 162, 163, 164, 165, 166, 167, 168, 150, 151, 152, 153, 154, 169, 170, 171, 172, 173, 174, 175, 176, 177, 178, 179, 180, 181, 182] (by decide +kernel) (by decide +kernel)
set_option maxRecDepth 20000 in
theorem gX4_best_X4_chargeable : GoodIn wsX4_best (wsV RX4 181 RX4 yX4_chargeable wsX4_chargeable) := goodIn_app (goodIn_of _ (by decide +kernel)) ggX4_best_X4_chargeable
set_option maxRecDepth 20000 in
theorem ggX4_best_X4_bestByGrowing : GoodIn wsX4_best wsX4_bestByGrowing := goodIn_r _ [97, 33, 68, 69, 4, 70, 98, 99, 100, 101, 102, 103, 104, 105, 41, 106, 107, 108, 109, 110, 111, 112, 113, 114, 115, 116, 117, 118, 119, 120, 121, 122, 123, 50, 124, 125, 47, 48, 49, 51, 52, 53, 54, 55, 56, 126, 127, 128, 129, 130, 131, 132, 133, 134, 135, 136, 137, 138, 139, 140, 141, 142, 143, 144, 145, 146, 147, 148, 149, 169, 170, 171, 172] (by decide +kernel) (by decide +kernel)
set_option maxRecDepth 20000 in
theorem gX4_best_X4_bestByGrowing : GoodIn wsX4_best (wsV RX4 287 RX4 yX4_bestByGrowing wsX4_bestByGrowing) := goodIn_app (goodIn_of _ (by decide +kernel)) ggX4_best_X4_bestByGrowing
theorem dX4_best_0 : decode cX4_best 0 = .ok (.aload_n 0, 1) := by decide +kernel
theorem dX4_best_1 : decode cX4_best 1 = .ok (.iload_n 1, 1) := by decide +kernel
theorem dX4_best_2 : decode cX4_best 2 = .ok (.iload_n 2, 1) := by decide +kernel
theorem dX4_best_3 : decode cX4_best 3 = .ok (.invokevirtual 170, 3) := by decide +kernel
theorem dX4_best_6 : decode cX4_best 6 = .ok (.astore 4, 2) := by decide +kernel
theorem dX4_best_8 : decode cX4_best 8 = .ok (.aload_n 0, 1) := by decide +kernel
theorem dX4_best_9 : decode cX4_best 9 = .ok (.iload_n 3, 1) := by decide +kernel
theorem dX4_best_10 : decode cX4_best 10 = .ok (.invokevirtual 276, 3) := by decide +kernel
theorem dX4_best_13 : decode cX4_best 13 = .ok (.aload_n 0, 1) := by decide +kernel
theorem dX4_best_14 : decode cX4_best 14 = .ok (.aload_n 0, 1) := by decide +kernel
theorem dX4_best_15 : decode cX4_best 15 = .ok (.aload 4, 2) := by decide +kernel
theorem dX4_best_17 : decode cX4_best 17 = .ok (.iload_n 3, 1) := by decide +kernel
theorem dX4_best_18 : decode cX4_best 18 = .ok (.invokevirtual 181, 3) := by decide +kernel
theorem dX4_best_21 : decode cX4_best 21 = .ok (.invokevirtual 287, 3) := by decide +kernel
theorem dX4_best_24 : decode cX4_best 24 = .ok (.ireturn, 1) := by decide +kernel
set_option maxRecDepth 20000 in
theorem ggX4_bestAnew_X4_accusedAt : GoodIn wsX4_bestAnew wsX4_accusedAt := goodIn_ca (goodIn_r _ [5, 6, 7, 8, 9, 10, 4, 11, 12, 13, 14, 15, 16, 17, 18, 130, 131, 132, 133, 134, 135, 136, 137, 138, 139, 140, 141, 142, 143, 144, 145, 146, 147] (by decide +kernel) (by decide +kernel)) (goodIn_sub (fun _ h => List.mem_cons_of_mem _ (List.mem_append_left _ (List.mem_append_right _ h))) (by decide +kernel))
set_option maxRecDepth 20000 in
theorem gX4_bestAnew_X4_accusedAt : GoodIn wsX4_bestAnew (wsV RX4 170 RX4 yX4_accusedAt wsX4_accusedAt) := goodIn_app (goodIn_of _ (by decide +kernel)) ggX4_bestAnew_X4_accusedAt
set_option maxRecDepth 20000 in
theorem ggX4_bestAnew_X4_checkDay : GoodIn wsX4_bestAnew wsX4_checkDay := goodIn_ca (goodIn_r _ [22, 23, 24, 25, 26, 27, 4, 28, 130, 131, 132, 133, 134, 135, 136, 137, 138, 139, 140, 141, 142] (by decide +kernel) (by decide +kernel)) (goodIn_sub (fun _ h => List.mem_cons_of_mem _ (List.mem_append_right _ h)) (by decide +kernel))
set_option maxRecDepth 20000 in
theorem gX4_bestAnew_X4_checkDay : GoodIn wsX4_bestAnew (wsV RX4 276 RX4 yX4_checkDay wsX4_checkDay) := goodIn_app (goodIn_of _ (by decide +kernel)) ggX4_bestAnew_X4_checkDay
set_option maxRecDepth 20000 in
theorem ggX4_bestAnew_X4_chargeable : GoodIn wsX4_bestAnew wsX4_chargeable := goodIn_r _ [32, 33, 34, 35, 36, 4, 37, 38, 39, 40, 41, 42, 43, 44, 45, 46, 47, 48, 49, 50, 51, 52, 53, 54, 55, 56, 57, 58, 59, 60, 61, 62, 63, 64, 65, 66, 67, 68, 69, 70, 71, 72, 73, 74, 75, 76, 77, 78, 79, 80, 81, 82, 83, 84, 85, 86, 87, 88, 89, 90, 91, 92, 93, 130, 131, 132, 133, 134, 135, 136, 137, 138, 139, 140, 141, 142, 148, 149, 150, 151, 152, 153, 154, 155, 156, 157, 158, 159, 160, 161, 143, 144, 145, 146, 147, 162, 163, 164, 165, 166, 167, 168, 169, 170, 171, 172, 173, 174, 175] (by decide +kernel) (by decide +kernel)
set_option maxRecDepth 20000 in
theorem gX4_bestAnew_X4_chargeable : GoodIn wsX4_bestAnew (wsV RX4 181 RX4 yX4_chargeable wsX4_chargeable) := goodIn_app (goodIn_of _ (by decide +kernel)) ggX4_bestAnew_X4_chargeable
set_option maxRecDepth 20000 in
theorem ggX4_bestAnew_X4_bestOfAllSets : GoodIn wsX4_bestAnew wsX4_bestOfAllSets := goodIn_r _ [97, 98, 99, 100, 4, 101, 33, 102, 103, 104, 105, 106, 107, 108, 68, 69, 70, 109, 110, 111, 112, 113, 114, 115, 116, 117, 118, 119, 50, 120, 121, 47, 48, 49, 51, 52, 53, 54, 55, 56, 122, 123, 124, 125, 126, 127, 128, 129, 41, 130, 131, 132, 133, 134, 135, 136, 137, 138, 139, 140, 141, 142, 162, 163, 164, 165] (by decide +kernel) (by decide +kernel)
set_option maxRecDepth 20000 in
theorem gX4_bestAnew_X4_bestOfAllSets : GoodIn wsX4_bestAnew (wsV RX4 290 RX4 yX4_bestOfAllSets wsX4_bestOfAllSets) := goodIn_app (goodIn_of _ (by decide +kernel)) ggX4_bestAnew_X4_bestOfAllSets
theorem dX4_bestAnew_0 : decode cX4_bestAnew 0 = .ok (.aload_n 0, 1) := by decide +kernel
theorem dX4_bestAnew_1 : decode cX4_bestAnew 1 = .ok (.iload_n 1, 1) := by decide +kernel
theorem dX4_bestAnew_2 : decode cX4_bestAnew 2 = .ok (.iload_n 2, 1) := by decide +kernel
theorem dX4_bestAnew_3 : decode cX4_bestAnew 3 = .ok (.invokevirtual 170, 3) := by decide +kernel
theorem dX4_bestAnew_6 : decode cX4_bestAnew 6 = .ok (.astore 4, 2) := by decide +kernel
theorem dX4_bestAnew_8 : decode cX4_bestAnew 8 = .ok (.aload_n 0, 1) := by decide +kernel
theorem dX4_bestAnew_9 : decode cX4_bestAnew 9 = .ok (.iload_n 3, 1) := by decide +kernel
theorem dX4_bestAnew_10 : decode cX4_bestAnew 10 = .ok (.invokevirtual 276, 3) := by decide +kernel
theorem dX4_bestAnew_13 : decode cX4_bestAnew 13 = .ok (.aload_n 0, 1) := by decide +kernel
theorem dX4_bestAnew_14 : decode cX4_bestAnew 14 = .ok (.aload_n 0, 1) := by decide +kernel
theorem dX4_bestAnew_15 : decode cX4_bestAnew 15 = .ok (.aload 4, 2) := by decide +kernel
theorem dX4_bestAnew_17 : decode cX4_bestAnew 17 = .ok (.iload_n 3, 1) := by decide +kernel
theorem dX4_bestAnew_18 : decode cX4_bestAnew 18 = .ok (.invokevirtual 181, 3) := by decide +kernel
theorem dX4_bestAnew_21 : decode cX4_bestAnew 21 = .ok (.invokevirtual 290, 3) := by decide +kernel
theorem dX4_bestAnew_24 : decode cX4_bestAnew 24 = .ok (.ireturn, 1) := by decide +kernel
set_option maxRecDepth 20000 in
theorem ggX4_lacks_X4_accusedAt : GoodIn wsX4_lacks wsX4_accusedAt := goodIn_ca (goodIn_r _ [8, 9, 10, 11, 12, 13, 7, 14, 15, 16, 17, 18, 19, 20, 21, 66, 67, 68, 69, 70, 71, 72, 73, 74, 75, 76, 77, 78, 61, 62, 63, 64, 65] (by decide +kernel) (by decide +kernel)) (goodIn_sub (fun _ h => List.mem_cons_of_mem _ (List.mem_append_right _ h)) (by decide +kernel))
set_option maxRecDepth 20000 in
theorem gX4_lacks_X4_accusedAt : GoodIn wsX4_lacks (wsV RX4 170 RX4 yX4_accusedAt wsX4_accusedAt) := goodIn_app (goodIn_of _ (by decide +kernel)) ggX4_lacks_X4_accusedAt
set_option maxRecDepth 20000 in
theorem ggX4_lacks_X4_lackedBy : GoodIn wsX4_lacks wsX4_lackedBy := goodIn_r _ [25, 26, 27, 28, 29, 30, 31, 32, 33, 34, 35, 36, 37, 38, 39, 40, 7, 41, 42, 43, 44, 45, 46, 66, 67, 68, 69, 70, 71, 72, 73, 74, 75, 76, 77, 78, 79, 80, 81, 82, 83, 84, 85, 86, 87, 88] (by decide +kernel) (by decide +kernel)
set_option maxRecDepth 20000 in
theorem gX4_lacks_X4_lackedBy : GoodIn wsX4_lacks (wsV RX4 157 RX4 yX4_lackedBy wsX4_lackedBy) := goodIn_app (goodIn_of _ (by decide +kernel)) ggX4_lacks_X4_lackedBy
theorem dX4_lacks_0 : decode cX4_lacks 0 = .ok (.aload_n 0, 1) := by decide +kernel
theorem dX4_lacks_1 : decode cX4_lacks 1 = .ok (.iload_n 1, 1) := by decide +kernel
theorem dX4_lacks_2 : decode cX4_lacks 2 = .ok (.iload_n 2, 1) := by decide +kernel
theorem dX4_lacks_3 : decode cX4_lacks 3 = .ok (.invokevirtual 170, 3) := by decide +kernel
theorem dX4_lacks_6 : decode cX4_lacks 6 = .ok (.astore_n 3, 1) := by decide +kernel
theorem dX4_lacks_7 : decode cX4_lacks 7 = .ok (.aload_n 0, 1) := by decide +kernel
theorem dX4_lacks_8 : decode cX4_lacks 8 = .ok (.aload_n 3, 1) := by decide +kernel
theorem dX4_lacks_9 : decode cX4_lacks 9 = .ok (.getfield 293, 3) := by decide +kernel
theorem dX4_lacks_12 : decode cX4_lacks 12 = .ok (.getfield 105, 3) := by decide +kernel
theorem dX4_lacks_15 : decode cX4_lacks 15 = .ok (.aload_n 3, 1) := by decide +kernel
theorem dX4_lacks_16 : decode cX4_lacks 16 = .ok (.getfield 296, 3) := by decide +kernel
theorem dX4_lacks_19 : decode cX4_lacks 19 = .ok (.invokevirtual 157, 3) := by decide +kernel
theorem dX4_lacks_22 : decode cX4_lacks 22 = .ok (.ireturn, 1) := by decide +kernel
set_option maxRecDepth 20000 in
theorem ggX4_ofItem_X4_itemAt : GoodIn wsX4_ofItem wsX4_itemAt := goodIn_r _ [17, 18, 29, 30, 31, 32, 33, 34, 35, 36, 37, 38, 39, 40, 41] (by decide +kernel) (by decide +kernel)
set_option maxRecDepth 20000 in
theorem gX4_ofItem_X4_itemAt : GoodIn wsX4_ofItem (wsV RX4 127 RX4 yX4_itemAt wsX4_itemAt) := goodIn_app (goodIn_of _ (by decide +kernel)) ggX4_ofItem_X4_itemAt
theorem dX4_ofItem_0 : decode cX4_ofItem 0 = .ok (.aload_n 0, 1) := by decide +kernel
theorem dX4_ofItem_1 : decode cX4_ofItem 1 = .ok (.iload_n 1, 1) := by decide +kernel
theorem dX4_ofItem_2 : decode cX4_ofItem 2 = .ok (.invokevirtual 127, 3) := by decide +kernel
theorem dX4_ofItem_5 : decode cX4_ofItem 5 = .ok (.astore_n 3, 1) := by decide +kernel
theorem dX4_ofItem_6 : decode cX4_ofItem 6 = .ok (.aload_n 3, 1) := by decide +kernel
theorem dX4_ofItem_7 : decode cX4_ofItem 7 = .ok (.ifnonnull 13, 3) := by decide +kernel
theorem dX4_ofItem_10 : decode cX4_ofItem 10 = .ok (.new 54, 3) := by decide +kernel
theorem dX4_ofItem_13 : decode cX4_ofItem 13 = .ok (.dup, 1) := by decide +kernel
theorem dX4_ofItem_14 : decode cX4_ofItem 14 = .ok (.ldc 131, 2) := by decide +kernel
theorem dX4_ofItem_16 : decode cX4_ofItem 16 = .ok (.invokespecial 58, 3) := by decide +kernel
theorem dX4_ofItem_19 : decode cX4_ofItem 19 = .ok (.athrow, 1) := by decide +kernel
theorem dX4_ofItem_20 : decode cX4_ofItem 20 = .ok (.iload_n 2, 1) := by decide +kernel
theorem dX4_ofItem_21 : decode cX4_ofItem 21 = .ok (.tableswitch 95 0 7 #[47, 52, 57, 62, 67, 72, 77, 82], 47) := by decide +kernel
theorem dX4_ofItem_68 : decode cX4_ofItem 68 = .ok (.aload_n 3, 1) := by decide +kernel
theorem dX4_ofItem_69 : decode cX4_ofItem 69 = .ok (.getfield 154, 3) := by decide +kernel
theorem dX4_ofItem_72 : decode cX4_ofItem 72 = .ok (.ireturn, 1) := by decide +kernel
theorem dX4_ofItem_73 : decode cX4_ofItem 73 = .ok (.aload_n 3, 1) := by decide +kernel
theorem dX4_ofItem_74 : decode cX4_ofItem 74 = .ok (.getfield 299, 3) := by decide +kernel
theorem dX4_ofItem_77 : decode cX4_ofItem 77 = .ok (.ireturn, 1) := by decide +kernel
theorem dX4_ofItem_78 : decode cX4_ofItem 78 = .ok (.aload_n 3, 1) := by decide +kernel
theorem dX4_ofItem_79 : decode cX4_ofItem 79 = .ok (.getfield 302, 3) := by decide +kernel
theorem dX4_ofItem_82 : decode cX4_ofItem 82 = .ok (.ireturn, 1) := by decide +kernel
theorem dX4_ofItem_83 : decode cX4_ofItem 83 = .ok (.aload_n 3, 1) := by decide +kernel
theorem dX4_ofItem_84 : decode cX4_ofItem 84 = .ok (.getfield 305, 3) := by decide +kernel
theorem dX4_ofItem_87 : decode cX4_ofItem 87 = .ok (.ireturn, 1) := by decide +kernel
theorem dX4_ofItem_88 : decode cX4_ofItem 88 = .ok (.aload_n 3, 1) := by decide +kernel
theorem dX4_ofItem_89 : decode cX4_ofItem 89 = .ok (.getfield 308, 3) := by decide +kernel
theorem dX4_ofItem_92 : decode cX4_ofItem 92 = .ok (.ireturn, 1) := by decide +kernel
theorem dX4_ofItem_93 : decode cX4_ofItem 93 = .ok (.aload_n 3, 1) := by decide +kernel
theorem dX4_ofItem_94 : decode cX4_ofItem 94 = .ok (.getfield 136, 3) := by decide +kernel
theorem dX4_ofItem_97 : decode cX4_ofItem 97 = .ok (.ireturn, 1) := by decide +kernel
theorem dX4_ofItem_98 : decode cX4_ofItem 98 = .ok (.aload_n 3, 1) := by decide +kernel
theorem dX4_ofItem_99 : decode cX4_ofItem 99 = .ok (.getfield 151, 3) := by decide +kernel
theorem dX4_ofItem_102 : decode cX4_ofItem 102 = .ok (.ireturn, 1) := by decide +kernel
theorem dX4_ofItem_103 : decode cX4_ofItem 103 = .ok (.aload_n 3, 1) := by decide +kernel
theorem dX4_ofItem_104 : decode cX4_ofItem 104 = .ok (.getfield 165, 3) := by decide +kernel
theorem dX4_ofItem_107 : decode cX4_ofItem 107 = .ok (.ifCond .eq 7, 3) := by decide +kernel
theorem dX4_ofItem_110 : decode cX4_ofItem 110 = .ok (.iconst 1, 1) := by decide +kernel
theorem dX4_ofItem_111 : decode cX4_ofItem 111 = .ok (.goto 4, 3) := by decide +kernel
theorem dX4_ofItem_114 : decode cX4_ofItem 114 = .ok (.iconst 0, 1) := by decide +kernel
theorem dX4_ofItem_115 : decode cX4_ofItem 115 = .ok (.ireturn, 1) := by decide +kernel
theorem dX4_ofItem_116 : decode cX4_ofItem 116 = .ok (.new 31, 3) := by decide +kernel
theorem dX4_ofItem_119 : decode cX4_ofItem 119 = .ok (.dup, 1) := by decide +kernel
theorem dX4_ofItem_120 : decode cX4_ofItem 120 = .ok (.ldc_w 311, 3) := by decide +kernel
theorem dX4_ofItem_123 : decode cX4_ofItem 123 = .ok (.invokespecial 35, 3) := by decide +kernel
theorem dX4_ofItem_126 : decode cX4_ofItem 126 = .ok (.athrow, 1) := by decide +kernel
set_option maxRecDepth 20000 in
theorem ggX4_ofAccused_X4_accusedAt : GoodIn wsX4_ofAccused wsX4_accusedAt := goodIn_ca (goodIn_r _ [14, 15, 16, 17, 18, 19, 13, 20, 21, 22, 23, 24, 25, 26, 27, 68, 69, 70, 71, 72, 73, 74, 75, 76, 77, 78, 79, 80, 81, 82, 83, 84, 85] (by decide +kernel) (by decide +kernel)) (goodIn_sub (fun _ h => List.mem_cons_of_mem _ (List.mem_append_right _ h)) (by decide +kernel))
set_option maxRecDepth 20000 in
theorem gX4_ofAccused_X4_accusedAt : GoodIn wsX4_ofAccused (wsV RX4 170 RX4 yX4_accusedAt wsX4_accusedAt) := goodIn_app (goodIn_of _ (by decide +kernel)) ggX4_ofAccused_X4_accusedAt
set_option maxRecDepth 20000 in
theorem ggX4_ofAccused_X4_spentOffences : GoodIn wsX4_ofAccused wsX4_spentOffences := goodIn_r _ [31, 32, 33, 34, 35, 36, 13, 37, 38, 39, 40, 41, 42, 43, 44, 45, 46, 47, 48, 49, 50, 51, 52, 53, 68, 69, 70, 71, 72, 73, 74, 75, 76, 77, 78, 79, 80, 86, 87, 88, 89, 54, 55, 56, 57, 58, 59, 60, 61, 62, 63, 64, 65, 66, 67] (by decide +kernel) (by decide +kernel)
set_option maxRecDepth 20000 in
theorem gX4_ofAccused_X4_spentOffences : GoodIn wsX4_ofAccused (wsV RX4 322 RX4 yX4_spentOffences wsX4_spentOffences) := goodIn_app (goodIn_of _ (by decide +kernel)) ggX4_ofAccused_X4_spentOffences
theorem dX4_ofAccused_0 : decode cX4_ofAccused 0 = .ok (.aload_n 0, 1) := by decide +kernel
theorem dX4_ofAccused_1 : decode cX4_ofAccused 1 = .ok (.iload_n 1, 1) := by decide +kernel
theorem dX4_ofAccused_2 : decode cX4_ofAccused 2 = .ok (.iload_n 2, 1) := by decide +kernel
theorem dX4_ofAccused_3 : decode cX4_ofAccused 3 = .ok (.invokevirtual 170, 3) := by decide +kernel
theorem dX4_ofAccused_6 : decode cX4_ofAccused 6 = .ok (.astore 4, 2) := by decide +kernel
theorem dX4_ofAccused_8 : decode cX4_ofAccused 8 = .ok (.iload_n 3, 1) := by decide +kernel
theorem dX4_ofAccused_9 : decode cX4_ofAccused 9 = .ok (.tableswitch 104 0 7 #[47, 53, 59, 73, 79, 85, 91, 97], 47) := by decide +kernel
theorem dX4_ofAccused_56 : decode cX4_ofAccused 56 = .ok (.aload 4, 2) := by decide +kernel
theorem dX4_ofAccused_58 : decode cX4_ofAccused 58 = .ok (.getfield 178, 3) := by decide +kernel
theorem dX4_ofAccused_61 : decode cX4_ofAccused 61 = .ok (.ireturn, 1) := by decide +kernel
theorem dX4_ofAccused_62 : decode cX4_ofAccused 62 = .ok (.aload 4, 2) := by decide +kernel
theorem dX4_ofAccused_64 : decode cX4_ofAccused 64 = .ok (.getfield 190, 3) := by decide +kernel
theorem dX4_ofAccused_67 : decode cX4_ofAccused 67 = .ok (.ireturn, 1) := by decide +kernel
theorem dX4_ofAccused_68 : decode cX4_ofAccused 68 = .ok (.aload 4, 2) := by decide +kernel
theorem dX4_ofAccused_70 : decode cX4_ofAccused 70 = .ok (.getfield 207, 3) := by decide +kernel
theorem dX4_ofAccused_73 : decode cX4_ofAccused 73 = .ok (.ifCond .eq 7, 3) := by decide +kernel
theorem dX4_ofAccused_76 : decode cX4_ofAccused 76 = .ok (.iconst 1, 1) := by decide +kernel
theorem dX4_ofAccused_77 : decode cX4_ofAccused 77 = .ok (.goto 4, 3) := by decide +kernel
theorem dX4_ofAccused_80 : decode cX4_ofAccused 80 = .ok (.iconst 0, 1) := by decide +kernel
theorem dX4_ofAccused_81 : decode cX4_ofAccused 81 = .ok (.ireturn, 1) := by decide +kernel
theorem dX4_ofAccused_82 : decode cX4_ofAccused 82 = .ok (.aload 4, 2) := by decide +kernel
theorem dX4_ofAccused_84 : decode cX4_ofAccused 84 = .ok (.getfield 313, 3) := by decide +kernel
theorem dX4_ofAccused_87 : decode cX4_ofAccused 87 = .ok (.ireturn, 1) := by decide +kernel
theorem dX4_ofAccused_88 : decode cX4_ofAccused 88 = .ok (.aload 4, 2) := by decide +kernel
theorem dX4_ofAccused_90 : decode cX4_ofAccused 90 = .ok (.getfield 316, 3) := by decide +kernel
theorem dX4_ofAccused_93 : decode cX4_ofAccused 93 = .ok (.ireturn, 1) := by decide +kernel
theorem dX4_ofAccused_94 : decode cX4_ofAccused 94 = .ok (.aload 4, 2) := by decide +kernel
theorem dX4_ofAccused_96 : decode cX4_ofAccused 96 = .ok (.getfield 249, 3) := by decide +kernel
theorem dX4_ofAccused_99 : decode cX4_ofAccused 99 = .ok (.ireturn, 1) := by decide +kernel
theorem dX4_ofAccused_100 : decode cX4_ofAccused 100 = .ok (.aload 4, 2) := by decide +kernel
theorem dX4_ofAccused_102 : decode cX4_ofAccused 102 = .ok (.getfield 319, 3) := by decide +kernel
theorem dX4_ofAccused_105 : decode cX4_ofAccused 105 = .ok (.ireturn, 1) := by decide +kernel
theorem dX4_ofAccused_106 : decode cX4_ofAccused 106 = .ok (.aload_n 0, 1) := by decide +kernel
theorem dX4_ofAccused_107 : decode cX4_ofAccused 107 = .ok (.aload 4, 2) := by decide +kernel
theorem dX4_ofAccused_109 : decode cX4_ofAccused 109 = .ok (.invokevirtual 322, 3) := by decide +kernel
theorem dX4_ofAccused_112 : decode cX4_ofAccused 112 = .ok (.ireturn, 1) := by decide +kernel
theorem dX4_ofAccused_113 : decode cX4_ofAccused 113 = .ok (.new 31, 3) := by decide +kernel
theorem dX4_ofAccused_116 : decode cX4_ofAccused 116 = .ok (.dup, 1) := by decide +kernel
theorem dX4_ofAccused_117 : decode cX4_ofAccused 117 = .ok (.ldc_w 311, 3) := by decide +kernel
theorem dX4_ofAccused_120 : decode cX4_ofAccused 120 = .ok (.invokespecial 35, 3) := by decide +kernel
theorem dX4_ofAccused_123 : decode cX4_ofAccused 123 = .ok (.athrow, 1) := by decide +kernel
theorem dX4_count_0 : decode cX4_count 0 = .ok (.iload_n 1, 1) := by decide +kernel
theorem dX4_count_1 : decode cX4_count 1 = .ok (.tableswitch 69 0 5 #[39, 44, 49, 54, 59, 64], 39) := by decide +kernel
theorem dX4_count_40 : decode cX4_count 40 = .ok (.aload_n 0, 1) := by decide +kernel
theorem dX4_count_41 : decode cX4_count 41 = .ok (.getfield 224, 3) := by decide +kernel
theorem dX4_count_44 : decode cX4_count 44 = .ok (.ireturn, 1) := by decide +kernel
theorem dX4_count_45 : decode cX4_count 45 = .ok (.aload_n 0, 1) := by decide +kernel
theorem dX4_count_46 : decode cX4_count 46 = .ok (.getfield 232, 3) := by decide +kernel
theorem dX4_count_49 : decode cX4_count 49 = .ok (.ireturn, 1) := by decide +kernel
theorem dX4_count_50 : decode cX4_count 50 = .ok (.aload_n 0, 1) := by decide +kernel
theorem dX4_count_51 : decode cX4_count 51 = .ok (.getfield 246, 3) := by decide +kernel
theorem dX4_count_54 : decode cX4_count 54 = .ok (.ireturn, 1) := by decide +kernel
theorem dX4_count_55 : decode cX4_count 55 = .ok (.aload_n 0, 1) := by decide +kernel
theorem dX4_count_56 : decode cX4_count 56 = .ok (.getfield 210, 3) := by decide +kernel
theorem dX4_count_59 : decode cX4_count 59 = .ok (.ireturn, 1) := by decide +kernel
theorem dX4_count_60 : decode cX4_count 60 = .ok (.aload_n 0, 1) := by decide +kernel
theorem dX4_count_61 : decode cX4_count 61 = .ok (.getfield 215, 3) := by decide +kernel
theorem dX4_count_64 : decode cX4_count 64 = .ok (.ireturn, 1) := by decide +kernel
theorem dX4_count_65 : decode cX4_count 65 = .ok (.aload_n 0, 1) := by decide +kernel
theorem dX4_count_66 : decode cX4_count 66 = .ok (.getfield 75, 3) := by decide +kernel
theorem dX4_count_69 : decode cX4_count 69 = .ok (.ireturn, 1) := by decide +kernel
theorem dX4_count_70 : decode cX4_count 70 = .ok (.new 31, 3) := by decide +kernel
theorem dX4_count_73 : decode cX4_count 73 = .ok (.dup, 1) := by decide +kernel
theorem dX4_count_74 : decode cX4_count 74 = .ok (.ldc_w 311, 3) := by decide +kernel
theorem dX4_count_77 : decode cX4_count 77 = .ok (.invokespecial 35, 3) := by decide +kernel
theorem dX4_count_80 : decode cX4_count 80 = .ok (.athrow, 1) := by decide +kernel
theorem dX4_isWithin_0 : decode cX4_isWithin 0 = .ok (.iload_n 0, 1) := by decide +kernel
theorem dX4_isWithin_1 : decode cX4_isWithin 1 = .ok (.iload_n 1, 1) := by decide +kernel
theorem dX4_isWithin_2 : decode cX4_isWithin 2 = .ok (.if_icmp .lt 12, 3) := by decide +kernel
theorem dX4_isWithin_5 : decode cX4_isWithin 5 = .ok (.iload_n 0, 1) := by decide +kernel
theorem dX4_isWithin_6 : decode cX4_isWithin 6 = .ok (.iload_n 2, 1) := by decide +kernel
theorem dX4_isWithin_7 : decode cX4_isWithin 7 = .ok (.if_icmp .gt 7, 3) := by decide +kernel
theorem dX4_isWithin_10 : decode cX4_isWithin 10 = .ok (.iconst 1, 1) := by decide +kernel
theorem dX4_isWithin_11 : decode cX4_isWithin 11 = .ok (.goto 4, 3) := by decide +kernel
theorem dX4_isWithin_14 : decode cX4_isWithin 14 = .ok (.iconst 0, 1) := by decide +kernel
theorem dX4_isWithin_15 : decode cX4_isWithin 15 = .ok (.ireturn, 1) := by decide +kernel
theorem dX4_hasBit_0 : decode cX4_hasBit 0 = .ok (.iload_n 0, 1) := by decide +kernel
theorem dX4_hasBit_1 : decode cX4_hasBit 1 = .ok (.iload_n 1, 1) := by decide +kernel
theorem dX4_hasBit_2 : decode cX4_hasBit 2 = .ok (.ishr, 1) := by decide +kernel
theorem dX4_hasBit_3 : decode cX4_hasBit 3 = .ok (.iconst 1, 1) := by decide +kernel
theorem dX4_hasBit_4 : decode cX4_hasBit 4 = .ok (.iand, 1) := by decide +kernel
theorem dX4_hasBit_5 : decode cX4_hasBit 5 = .ok (.iconst 1, 1) := by decide +kernel
theorem dX4_hasBit_6 : decode cX4_hasBit 6 = .ok (.if_icmp .ne 7, 3) := by decide +kernel
theorem dX4_hasBit_9 : decode cX4_hasBit 9 = .ok (.iconst 1, 1) := by decide +kernel
theorem dX4_hasBit_10 : decode cX4_hasBit 10 = .ok (.goto 4, 3) := by decide +kernel
theorem dX4_hasBit_13 : decode cX4_hasBit 13 = .ok (.iconst 0, 1) := by decide +kernel
theorem dX4_hasBit_14 : decode cX4_hasBit 14 = .ok (.ireturn, 1) := by decide +kernel
theorem dX4_above_0 : decode cX4_above 0 = .ok (.iconst 2, 1) := by decide +kernel
theorem dX4_above_1 : decode cX4_above 1 = .ok (.iload_n 0, 1) := by decide +kernel
theorem dX4_above_2 : decode cX4_above 2 = .ok (.ishl, 1) := by decide +kernel
theorem dX4_above_3 : decode cX4_above 3 = .ok (.ineg, 1) := by decide +kernel
theorem dX4_above_4 : decode cX4_above 4 = .ok (.ireturn, 1) := by decide +kernel
theorem dX4_offenceAt_0 : decode cX4_offenceAt 0 = .ok (.iload_n 1, 1) := by decide +kernel
theorem dX4_offenceAt_1 : decode cX4_offenceAt 1 = .ok (.ifCond .lt 12, 3) := by decide +kernel
theorem dX4_offenceAt_4 : decode cX4_offenceAt 4 = .ok (.iload_n 1, 1) := by decide +kernel
theorem dX4_offenceAt_5 : decode cX4_offenceAt 5 = .ok (.aload_n 0, 1) := by decide +kernel
theorem dX4_offenceAt_6 : decode cX4_offenceAt 6 = .ok (.getfield 11, 3) := by decide +kernel
theorem dX4_offenceAt_9 : decode cX4_offenceAt 9 = .ok (.arraylength, 1) := by decide +kernel
theorem dX4_offenceAt_10 : decode cX4_offenceAt 10 = .ok (.if_icmp .lt 7, 3) := by decide +kernel
theorem dX4_offenceAt_13 : decode cX4_offenceAt 13 = .ok (.aconst_null, 1) := by decide +kernel
theorem dX4_offenceAt_14 : decode cX4_offenceAt 14 = .ok (.goto 9, 3) := by decide +kernel
theorem dX4_offenceAt_17 : decode cX4_offenceAt 17 = .ok (.aload_n 0, 1) := by decide +kernel
theorem dX4_offenceAt_18 : decode cX4_offenceAt 18 = .ok (.getfield 11, 3) := by decide +kernel
theorem dX4_offenceAt_21 : decode cX4_offenceAt 21 = .ok (.iload_n 1, 1) := by decide +kernel
theorem dX4_offenceAt_22 : decode cX4_offenceAt 22 = .ok (.aaload, 1) := by decide +kernel
theorem dX4_offenceAt_23 : decode cX4_offenceAt 23 = .ok (.areturn, 1) := by decide +kernel
theorem dX4_fileAt_0 : decode cX4_fileAt 0 = .ok (.iload_n 1, 1) := by decide +kernel
theorem dX4_fileAt_1 : decode cX4_fileAt 1 = .ok (.ifCond .lt 12, 3) := by decide +kernel
theorem dX4_fileAt_4 : decode cX4_fileAt 4 = .ok (.iload_n 1, 1) := by decide +kernel
theorem dX4_fileAt_5 : decode cX4_fileAt 5 = .ok (.aload_n 0, 1) := by decide +kernel
theorem dX4_fileAt_6 : decode cX4_fileAt 6 = .ok (.getfield 17, 3) := by decide +kernel
theorem dX4_fileAt_9 : decode cX4_fileAt 9 = .ok (.arraylength, 1) := by decide +kernel
theorem dX4_fileAt_10 : decode cX4_fileAt 10 = .ok (.if_icmp .lt 7, 3) := by decide +kernel
theorem dX4_fileAt_13 : decode cX4_fileAt 13 = .ok (.aconst_null, 1) := by decide +kernel
theorem dX4_fileAt_14 : decode cX4_fileAt 14 = .ok (.goto 9, 3) := by decide +kernel
theorem dX4_fileAt_17 : decode cX4_fileAt 17 = .ok (.aload_n 0, 1) := by decide +kernel
theorem dX4_fileAt_18 : decode cX4_fileAt 18 = .ok (.getfield 17, 3) := by decide +kernel
theorem dX4_fileAt_21 : decode cX4_fileAt 21 = .ok (.iload_n 1, 1) := by decide +kernel
theorem dX4_fileAt_22 : decode cX4_fileAt 22 = .ok (.aaload, 1) := by decide +kernel
theorem dX4_fileAt_23 : decode cX4_fileAt 23 = .ok (.areturn, 1) := by decide +kernel
theorem dX4_itemAt_0 : decode cX4_itemAt 0 = .ok (.iload_n 1, 1) := by decide +kernel
theorem dX4_itemAt_1 : decode cX4_itemAt 1 = .ok (.ifCond .lt 12, 3) := by decide +kernel
theorem dX4_itemAt_4 : decode cX4_itemAt 4 = .ok (.iload_n 1, 1) := by decide +kernel
theorem dX4_itemAt_5 : decode cX4_itemAt 5 = .ok (.aload_n 0, 1) := by decide +kernel
theorem dX4_itemAt_6 : decode cX4_itemAt 6 = .ok (.getfield 23, 3) := by decide +kernel
theorem dX4_itemAt_9 : decode cX4_itemAt 9 = .ok (.arraylength, 1) := by decide +kernel
theorem dX4_itemAt_10 : decode cX4_itemAt 10 = .ok (.if_icmp .lt 7, 3) := by decide +kernel
theorem dX4_itemAt_13 : decode cX4_itemAt 13 = .ok (.aconst_null, 1) := by decide +kernel
theorem dX4_itemAt_14 : decode cX4_itemAt 14 = .ok (.goto 9, 3) := by decide +kernel
theorem dX4_itemAt_17 : decode cX4_itemAt 17 = .ok (.aload_n 0, 1) := by decide +kernel
theorem dX4_itemAt_18 : decode cX4_itemAt 18 = .ok (.getfield 23, 3) := by decide +kernel
theorem dX4_itemAt_21 : decode cX4_itemAt 21 = .ok (.iload_n 1, 1) := by decide +kernel
theorem dX4_itemAt_22 : decode cX4_itemAt 22 = .ok (.aaload, 1) := by decide +kernel
theorem dX4_itemAt_23 : decode cX4_itemAt 23 = .ok (.areturn, 1) := by decide +kernel
set_option maxRecDepth 20000 in
theorem ggX4_accusedAt_X4_fileAt : GoodIn wsX4_accusedAt wsX4_fileAt := goodIn_r _ [7, 8, 15, 16, 17, 18, 19, 20, 21, 22, 23, 24, 25, 26, 27] (by decide +kernel) (by decide +kernel)
set_option maxRecDepth 20000 in
theorem gX4_accusedAt_X4_fileAt : GoodIn wsX4_accusedAt (wsV RX4 108 RX4 yX4_fileAt wsX4_fileAt) := goodIn_app (goodIn_of _ (by decide +kernel)) ggX4_accusedAt_X4_fileAt
set_option maxRecDepth 20000 in
theorem ggX4_accusedAt_X1_rowOf : GoodIn wsX4_accusedAt wsX1_rowOf := goodIn_r _ [13, 14, 28, 29, 30, 31, 32] (by decide +kernel) (by decide +kernel)
set_option maxRecDepth 20000 in
theorem gX4_accusedAt_X1_rowOf : GoodIn wsX4_accusedAt (wsV RX4 325 RX1 yX1_rowOf wsX1_rowOf) := goodIn_app (goodIn_of _ (by decide +kernel)) ggX4_accusedAt_X1_rowOf
theorem dX4_accusedAt_0 : decode cX4_accusedAt 0 = .ok (.aload_n 0, 1) := by decide +kernel
theorem dX4_accusedAt_1 : decode cX4_accusedAt 1 = .ok (.iload_n 1, 1) := by decide +kernel
theorem dX4_accusedAt_2 : decode cX4_accusedAt 2 = .ok (.invokevirtual 108, 3) := by decide +kernel
theorem dX4_accusedAt_5 : decode cX4_accusedAt 5 = .ok (.astore_n 3, 1) := by decide +kernel
theorem dX4_accusedAt_6 : decode cX4_accusedAt 6 = .ok (.aload_n 3, 1) := by decide +kernel
theorem dX4_accusedAt_7 : decode cX4_accusedAt 7 = .ok (.ifnonnull 7, 3) := by decide +kernel
theorem dX4_accusedAt_10 : decode cX4_accusedAt 10 = .ok (.aconst_null, 1) := by decide +kernel
theorem dX4_accusedAt_11 : decode cX4_accusedAt 11 = .ok (.goto 8, 3) := by decide +kernel
theorem dX4_accusedAt_14 : decode cX4_accusedAt 14 = .ok (.aload_n 3, 1) := by decide +kernel
theorem dX4_accusedAt_15 : decode cX4_accusedAt 15 = .ok (.iload_n 2, 1) := by decide +kernel
theorem dX4_accusedAt_16 : decode cX4_accusedAt 16 = .ok (.invokevirtual 325, 3) := by decide +kernel
theorem dX4_accusedAt_19 : decode cX4_accusedAt 19 = .ok (.astore 4, 2) := by decide +kernel
theorem dX4_accusedAt_21 : decode cX4_accusedAt 21 = .ok (.aload 4, 2) := by decide +kernel
theorem dX4_accusedAt_23 : decode cX4_accusedAt 23 = .ok (.ifnonnull 14, 3) := by decide +kernel
theorem dX4_accusedAt_26 : decode cX4_accusedAt 26 = .ok (.new 54, 3) := by decide +kernel
theorem dX4_accusedAt_29 : decode cX4_accusedAt 29 = .ok (.dup, 1) := by decide +kernel
theorem dX4_accusedAt_30 : decode cX4_accusedAt 30 = .ok (.ldc_w 329, 3) := by decide +kernel
theorem dX4_accusedAt_33 : decode cX4_accusedAt 33 = .ok (.invokespecial 58, 3) := by decide +kernel
theorem dX4_accusedAt_36 : decode cX4_accusedAt 36 = .ok (.athrow, 1) := by decide +kernel
theorem dX4_accusedAt_37 : decode cX4_accusedAt 37 = .ok (.aload 4, 2) := by decide +kernel
theorem dX4_accusedAt_39 : decode cX4_accusedAt 39 = .ok (.areturn, 1) := by decide +kernel
set_option maxRecDepth 20000 in
theorem ggX4_checkDay_X4_isWithin : GoodIn wsX4_checkDay wsX4_isWithin := goodIn_r _ [7] (by decide +kernel) (by decide +kernel)
set_option maxRecDepth 20000 in
theorem gX4_checkDay_X4_isWithin : GoodIn wsX4_checkDay (va_wsS RX4 27 yX4_isWithin wsX4_isWithin) := goodIn_app (goodIn_of _ (by decide +kernel)) ggX4_checkDay_X4_isWithin
theorem dX4_checkDay_0 : decode cX4_checkDay 0 = .ok (.iload_n 1, 1) := by decide +kernel
theorem dX4_checkDay_1 : decode cX4_checkDay 1 = .ok (.iconst 0, 1) := by decide +kernel
theorem dX4_checkDay_2 : decode cX4_checkDay 2 = .ok (.aload_n 0, 1) := by decide +kernel
theorem dX4_checkDay_3 : decode cX4_checkDay 3 = .ok (.getfield 70, 3) := by decide +kernel
theorem dX4_checkDay_6 : decode cX4_checkDay 6 = .ok (.invokestatic 27, 3) := by decide +kernel
theorem dX4_checkDay_9 : decode cX4_checkDay 9 = .ok (.ifCond .ne 14, 3) := by decide +kernel
theorem dX4_checkDay_12 : decode cX4_checkDay 12 = .ok (.new 31, 3) := by decide +kernel
theorem dX4_checkDay_15 : decode cX4_checkDay 15 = .ok (.dup, 1) := by decide +kernel
theorem dX4_checkDay_16 : decode cX4_checkDay 16 = .ok (.ldc_w 331, 3) := by decide +kernel
theorem dX4_checkDay_19 : decode cX4_checkDay 19 = .ok (.invokespecial 35, 3) := by decide +kernel
theorem dX4_checkDay_22 : decode cX4_checkDay 22 = .ok (.athrow, 1) := by decide +kernel
theorem dX4_checkDay_23 : decode cX4_checkDay 23 = .ok (.return_, 1) := by decide +kernel
theorem dX4_checkToldOffences_0 : decode cX4_checkToldOffences 0 = .ok (.iconst 1, 1) := by decide +kernel
theorem dX4_checkToldOffences_1 : decode cX4_checkToldOffences 1 = .ok (.aload_n 0, 1) := by decide +kernel
theorem dX4_checkToldOffences_2 : decode cX4_checkToldOffences 2 = .ok (.getfield 38, 3) := by decide +kernel
theorem dX4_checkToldOffences_5 : decode cX4_checkToldOffences 5 = .ok (.ishl, 1) := by decide +kernel
theorem dX4_checkToldOffences_6 : decode cX4_checkToldOffences 6 = .ok (.iconst 1, 1) := by decide +kernel
theorem dX4_checkToldOffences_7 : decode cX4_checkToldOffences 7 = .ok (.isub, 1) := by decide +kernel
theorem dX4_checkToldOffences_8 : decode cX4_checkToldOffences 8 = .ok (.istore_n 2, 1) := by decide +kernel
theorem dX4_checkToldOffences_9 : decode cX4_checkToldOffences 9 = .ok (.iload_n 1, 1) := by decide +kernel
theorem dX4_checkToldOffences_10 : decode cX4_checkToldOffences 10 = .ok (.iload_n 2, 1) := by decide +kernel
theorem dX4_checkToldOffences_11 : decode cX4_checkToldOffences 11 = .ok (.iconst (-1), 1) := by decide +kernel
theorem dX4_checkToldOffences_12 : decode cX4_checkToldOffences 12 = .ok (.ixor, 1) := by decide +kernel
theorem dX4_checkToldOffences_13 : decode cX4_checkToldOffences 13 = .ok (.iand, 1) := by decide +kernel
theorem dX4_checkToldOffences_14 : decode cX4_checkToldOffences 14 = .ok (.ifCond .eq 14, 3) := by decide +kernel
theorem dX4_checkToldOffences_17 : decode cX4_checkToldOffences 17 = .ok (.new 31, 3) := by decide +kernel
theorem dX4_checkToldOffences_20 : decode cX4_checkToldOffences 20 = .ok (.dup, 1) := by decide +kernel
theorem dX4_checkToldOffences_21 : decode cX4_checkToldOffences 21 = .ok (.ldc_w 333, 3) := by decide +kernel
theorem dX4_checkToldOffences_24 : decode cX4_checkToldOffences 24 = .ok (.invokespecial 35, 3) := by decide +kernel
theorem dX4_checkToldOffences_27 : decode cX4_checkToldOffences 27 = .ok (.athrow, 1) := by decide +kernel
theorem dX4_checkToldOffences_28 : decode cX4_checkToldOffences 28 = .ok (.return_, 1) := by decide +kernel
set_option maxRecDepth 20000 in
theorem ggX4_strengthAgainst_X2_isAgainst : GoodIn wsX4_strengthAgainst wsX2_isAgainst := goodIn_r _ [12, 13, 14, 15, 16, 37, 38, 39, 40, 41, 42, 43, 44, 45, 46] (by decide +kernel) (by decide +kernel)
set_option maxRecDepth 20000 in
theorem gX4_strengthAgainst_X2_isAgainst : GoodIn wsX4_strengthAgainst (wsV RX4 143 RX2 yX2_isAgainst wsX2_isAgainst) := goodIn_app (goodIn_of _ (by decide +kernel)) ggX4_strengthAgainst_X2_isAgainst
set_option maxRecDepth 20000 in
theorem ggX4_strengthAgainst_X2_countsOn : GoodIn wsX4_strengthAgainst wsX2_countsOn := goodIn_r _ [20, 21, 22, 23, 37, 38, 39, 40, 41, 42, 43, 44, 45, 46] (by decide +kernel) (by decide +kernel)
set_option maxRecDepth 20000 in
theorem gX4_strengthAgainst_X2_countsOn : GoodIn wsX4_strengthAgainst (wsV RX4 335 RX2 yX2_countsOn wsX2_countsOn) := goodIn_app (goodIn_of _ (by decide +kernel)) ggX4_strengthAgainst_X2_countsOn
theorem dX4_strengthAgainst_0 : decode cX4_strengthAgainst 0 = .ok (.iconst 0, 1) := by decide +kernel
theorem dX4_strengthAgainst_1 : decode cX4_strengthAgainst 1 = .ok (.istore 4, 2) := by decide +kernel
theorem dX4_strengthAgainst_3 : decode cX4_strengthAgainst 3 = .ok (.aload_n 0, 1) := by decide +kernel
theorem dX4_strengthAgainst_4 : decode cX4_strengthAgainst 4 = .ok (.getfield 23, 3) := by decide +kernel
theorem dX4_strengthAgainst_7 : decode cX4_strengthAgainst 7 = .ok (.astore 5, 2) := by decide +kernel
theorem dX4_strengthAgainst_9 : decode cX4_strengthAgainst 9 = .ok (.aload 5, 2) := by decide +kernel
theorem dX4_strengthAgainst_11 : decode cX4_strengthAgainst 11 = .ok (.arraylength, 1) := by decide +kernel
theorem dX4_strengthAgainst_12 : decode cX4_strengthAgainst 12 = .ok (.istore 6, 2) := by decide +kernel
theorem dX4_strengthAgainst_14 : decode cX4_strengthAgainst 14 = .ok (.iconst 0, 1) := by decide +kernel
theorem dX4_strengthAgainst_15 : decode cX4_strengthAgainst 15 = .ok (.istore 7, 2) := by decide +kernel
theorem dX4_strengthAgainst_17 : decode cX4_strengthAgainst 17 = .ok (.iload 7, 2) := by decide +kernel
theorem dX4_strengthAgainst_19 : decode cX4_strengthAgainst 19 = .ok (.iload 6, 2) := by decide +kernel
theorem dX4_strengthAgainst_21 : decode cX4_strengthAgainst 21 = .ok (.if_icmp .ge 76, 3) := by decide +kernel
theorem dX4_strengthAgainst_24 : decode cX4_strengthAgainst 24 = .ok (.aload 5, 2) := by decide +kernel
theorem dX4_strengthAgainst_26 : decode cX4_strengthAgainst 26 = .ok (.iload 7, 2) := by decide +kernel
theorem dX4_strengthAgainst_28 : decode cX4_strengthAgainst 28 = .ok (.aaload, 1) := by decide +kernel
theorem dX4_strengthAgainst_29 : decode cX4_strengthAgainst 29 = .ok (.astore 8, 2) := by decide +kernel
theorem dX4_strengthAgainst_31 : decode cX4_strengthAgainst 31 = .ok (.aload 8, 2) := by decide +kernel
theorem dX4_strengthAgainst_33 : decode cX4_strengthAgainst 33 = .ok (.ifnull 58, 3) := by decide +kernel
theorem dX4_strengthAgainst_36 : decode cX4_strengthAgainst 36 = .ok (.aload 8, 2) := by decide +kernel
theorem dX4_strengthAgainst_38 : decode cX4_strengthAgainst 38 = .ok (.getfield 154, 3) := by decide +kernel
theorem dX4_strengthAgainst_41 : decode cX4_strengthAgainst 41 = .ok (.aload_n 1, 1) := by decide +kernel
theorem dX4_strengthAgainst_42 : decode cX4_strengthAgainst 42 = .ok (.getfield 293, 3) := by decide +kernel
theorem dX4_strengthAgainst_45 : decode cX4_strengthAgainst 45 = .ok (.getfield 105, 3) := by decide +kernel
theorem dX4_strengthAgainst_48 : decode cX4_strengthAgainst 48 = .ok (.if_icmp .ne 43, 3) := by decide +kernel
theorem dX4_strengthAgainst_51 : decode cX4_strengthAgainst 51 = .ok (.aload 8, 2) := by decide +kernel
theorem dX4_strengthAgainst_53 : decode cX4_strengthAgainst 53 = .ok (.getfield 299, 3) := by decide +kernel
theorem dX4_strengthAgainst_56 : decode cX4_strengthAgainst 56 = .ok (.iload_n 2, 1) := by decide +kernel
theorem dX4_strengthAgainst_57 : decode cX4_strengthAgainst 57 = .ok (.if_icmp .ne 34, 3) := by decide +kernel
theorem dX4_strengthAgainst_60 : decode cX4_strengthAgainst 60 = .ok (.aload 8, 2) := by decide +kernel
theorem dX4_strengthAgainst_62 : decode cX4_strengthAgainst 62 = .ok (.aload_n 1, 1) := by decide +kernel
theorem dX4_strengthAgainst_63 : decode cX4_strengthAgainst 63 = .ok (.getfield 296, 3) := by decide +kernel
theorem dX4_strengthAgainst_66 : decode cX4_strengthAgainst 66 = .ok (.invokevirtual 143, 3) := by decide +kernel
theorem dX4_strengthAgainst_69 : decode cX4_strengthAgainst 69 = .ok (.ifCond .eq 22, 3) := by decide +kernel
theorem dX4_strengthAgainst_72 : decode cX4_strengthAgainst 72 = .ok (.aload 8, 2) := by decide +kernel
theorem dX4_strengthAgainst_74 : decode cX4_strengthAgainst 74 = .ok (.iload_n 3, 1) := by decide +kernel
theorem dX4_strengthAgainst_75 : decode cX4_strengthAgainst 75 = .ok (.invokevirtual 335, 3) := by decide +kernel
theorem dX4_strengthAgainst_78 : decode cX4_strengthAgainst 78 = .ok (.ifCond .eq 13, 3) := by decide +kernel
theorem dX4_strengthAgainst_81 : decode cX4_strengthAgainst 81 = .ok (.iload 4, 2) := by decide +kernel
theorem dX4_strengthAgainst_83 : decode cX4_strengthAgainst 83 = .ok (.aload 8, 2) := by decide +kernel
theorem dX4_strengthAgainst_85 : decode cX4_strengthAgainst 85 = .ok (.getfield 302, 3) := by decide +kernel
theorem dX4_strengthAgainst_88 : decode cX4_strengthAgainst 88 = .ok (.iadd, 1) := by decide +kernel
theorem dX4_strengthAgainst_89 : decode cX4_strengthAgainst 89 = .ok (.istore 4, 2) := by decide +kernel
theorem dX4_strengthAgainst_91 : decode cX4_strengthAgainst 91 = .ok (.iinc 7 1, 3) := by decide +kernel
theorem dX4_strengthAgainst_94 : decode cX4_strengthAgainst 94 = .ok (.goto (-77), 3) := by decide +kernel
theorem dX4_strengthAgainst_97 : decode cX4_strengthAgainst 97 = .ok (.iload 4, 2) := by decide +kernel
theorem dX4_strengthAgainst_99 : decode cX4_strengthAgainst 99 = .ok (.ireturn, 1) := by decide +kernel
set_option maxRecDepth 20000 in
theorem ggX4_hasStrength_X4_hasBit : GoodIn wsX4_hasStrength wsX4_hasBit := goodIn_r _ [5] (by decide +kernel) (by decide +kernel)
set_option maxRecDepth 20000 in
theorem gX4_hasStrength_X4_hasBit : GoodIn wsX4_hasStrength (va_wsS RX4 96 yX4_hasBit wsX4_hasBit) := goodIn_app (goodIn_of _ (by decide +kernel)) ggX4_hasStrength_X4_hasBit
set_option maxRecDepth 20000 in
theorem ggX4_hasStrength_X4_strengthAgainst : GoodIn wsX4_hasStrength wsX4_strengthAgainst := goodIn_r _ [9, 10, 11, 12, 13, 14, 15, 16, 17, 18, 19, 20, 21, 22, 3, 4, 5, 23, 24, 25, 26, 27, 28, 29, 34, 35, 36, 37, 38, 39, 40, 41, 42, 43, 44, 45, 46, 47, 48, 49, 50, 51, 52, 53, 54, 55, 56, 57, 58, 59, 60, 61, 62, 63, 64, 65, 66, 67, 68, 69, 70, 71, 72, 73, 74, 75] (by decide +kernel) (by decide +kernel)
set_option maxRecDepth 20000 in
theorem gX4_hasStrength_X4_strengthAgainst : GoodIn wsX4_hasStrength (wsV RX4 279 RX4 yX4_strengthAgainst wsX4_strengthAgainst) := goodIn_app (goodIn_of _ (by decide +kernel)) ggX4_hasStrength_X4_strengthAgainst
theorem dX4_hasStrength_0 : decode cX4_hasStrength 0 = .ok (.iconst 0, 1) := by decide +kernel
theorem dX4_hasStrength_1 : decode cX4_hasStrength 1 = .ok (.istore 5, 2) := by decide +kernel
theorem dX4_hasStrength_3 : decode cX4_hasStrength 3 = .ok (.iload 5, 2) := by decide +kernel
theorem dX4_hasStrength_5 : decode cX4_hasStrength 5 = .ok (.bipush 10, 2) := by decide +kernel
theorem dX4_hasStrength_7 : decode cX4_hasStrength 7 = .ok (.if_icmp .ge 36, 3) := by decide +kernel
theorem dX4_hasStrength_10 : decode cX4_hasStrength 10 = .ok (.aload_n 2, 1) := by decide +kernel
theorem dX4_hasStrength_11 : decode cX4_hasStrength 11 = .ok (.getfield 338, 3) := by decide +kernel
theorem dX4_hasStrength_14 : decode cX4_hasStrength 14 = .ok (.iload 5, 2) := by decide +kernel
theorem dX4_hasStrength_16 : decode cX4_hasStrength 16 = .ok (.invokestatic 96, 3) := by decide +kernel
theorem dX4_hasStrength_19 : decode cX4_hasStrength 19 = .ok (.ifCond .eq 18, 3) := by decide +kernel
theorem dX4_hasStrength_22 : decode cX4_hasStrength 22 = .ok (.aload_n 0, 1) := by decide +kernel
theorem dX4_hasStrength_23 : decode cX4_hasStrength 23 = .ok (.aload_n 1, 1) := by decide +kernel
theorem dX4_hasStrength_24 : decode cX4_hasStrength 24 = .ok (.iload 5, 2) := by decide +kernel
theorem dX4_hasStrength_26 : decode cX4_hasStrength 26 = .ok (.iload 4, 2) := by decide +kernel
theorem dX4_hasStrength_28 : decode cX4_hasStrength 28 = .ok (.invokevirtual 279, 3) := by decide +kernel
theorem dX4_hasStrength_31 : decode cX4_hasStrength 31 = .ok (.iload_n 3, 1) := by decide +kernel
theorem dX4_hasStrength_32 : decode cX4_hasStrength 32 = .ok (.if_icmp .ge 5, 3) := by decide +kernel
theorem dX4_hasStrength_35 : decode cX4_hasStrength 35 = .ok (.iconst 0, 1) := by decide +kernel
theorem dX4_hasStrength_36 : decode cX4_hasStrength 36 = .ok (.ireturn, 1) := by decide +kernel
theorem dX4_hasStrength_37 : decode cX4_hasStrength 37 = .ok (.iinc 5 1, 3) := by decide +kernel
theorem dX4_hasStrength_40 : decode cX4_hasStrength 40 = .ok (.goto (-37), 3) := by decide +kernel
theorem dX4_hasStrength_43 : decode cX4_hasStrength 43 = .ok (.iconst 1, 1) := by decide +kernel
theorem dX4_hasStrength_44 : decode cX4_hasStrength 44 = .ok (.ireturn, 1) := by decide +kernel
set_option maxRecDepth 20000 in
theorem ggX4_isSpent_X3_isAkinTo : GoodIn wsX4_isSpent wsX3_isAkinTo := goodIn_r _ [6, 7, 8, 9, 10, 5, 11, 31, 32, 33, 34] (by decide +kernel) (by decide +kernel)
set_option maxRecDepth 20000 in
theorem gX4_isSpent_X3_isAkinTo : GoodIn wsX4_isSpent (wsV RX4 341 RX3 yX3_isAkinTo wsX3_isAkinTo) := goodIn_app (goodIn_of _ (by decide +kernel)) ggX4_isSpent_X3_isAkinTo
set_option maxRecDepth 20000 in
theorem ggX4_isSpent_X0_hadAnswered : GoodIn wsX4_isSpent wsX0_hadAnswered := goodIn_r _ [16, 17, 35, 36, 37, 38, 39, 40, 41, 42, 43, 44, 45, 46, 47, 48] (by decide +kernel) (by decide +kernel)
set_option maxRecDepth 20000 in
theorem gX4_isSpent_X0_hadAnswered : GoodIn wsX4_isSpent (wsV RX4 344 RX0 yX0_hadAnswered wsX0_hadAnswered) := goodIn_app (goodIn_of _ (by decide +kernel)) ggX4_isSpent_X0_hadAnswered
theorem dX4_isSpent_0 : decode cX4_isSpent 0 = .ok (.iconst 0, 1) := by decide +kernel
theorem dX4_isSpent_1 : decode cX4_isSpent 1 = .ok (.istore 4, 2) := by decide +kernel
theorem dX4_isSpent_3 : decode cX4_isSpent 3 = .ok (.iload 4, 2) := by decide +kernel
theorem dX4_isSpent_5 : decode cX4_isSpent 5 = .ok (.aload_n 0, 1) := by decide +kernel
theorem dX4_isSpent_6 : decode cX4_isSpent 6 = .ok (.getfield 11, 3) := by decide +kernel
theorem dX4_isSpent_9 : decode cX4_isSpent 9 = .ok (.arraylength, 1) := by decide +kernel
theorem dX4_isSpent_10 : decode cX4_isSpent 10 = .ok (.if_icmp .ge 44, 3) := by decide +kernel
theorem dX4_isSpent_13 : decode cX4_isSpent 13 = .ok (.aload_n 0, 1) := by decide +kernel
theorem dX4_isSpent_14 : decode cX4_isSpent 14 = .ok (.getfield 11, 3) := by decide +kernel
theorem dX4_isSpent_17 : decode cX4_isSpent 17 = .ok (.iload 4, 2) := by decide +kernel
theorem dX4_isSpent_19 : decode cX4_isSpent 19 = .ok (.aaload, 1) := by decide +kernel
theorem dX4_isSpent_20 : decode cX4_isSpent 20 = .ok (.astore 5, 2) := by decide +kernel
theorem dX4_isSpent_22 : decode cX4_isSpent 22 = .ok (.aload 5, 2) := by decide +kernel
theorem dX4_isSpent_24 : decode cX4_isSpent 24 = .ok (.ifnull 24, 3) := by decide +kernel
theorem dX4_isSpent_27 : decode cX4_isSpent 27 = .ok (.aload 5, 2) := by decide +kernel
theorem dX4_isSpent_29 : decode cX4_isSpent 29 = .ok (.aload_n 2, 1) := by decide +kernel
theorem dX4_isSpent_30 : decode cX4_isSpent 30 = .ok (.invokevirtual 341, 3) := by decide +kernel
theorem dX4_isSpent_33 : decode cX4_isSpent 33 = .ok (.ifCond .eq 15, 3) := by decide +kernel
theorem dX4_isSpent_36 : decode cX4_isSpent 36 = .ok (.aload_n 1, 1) := by decide +kernel
theorem dX4_isSpent_37 : decode cX4_isSpent 37 = .ok (.iload 4, 2) := by decide +kernel
theorem dX4_isSpent_39 : decode cX4_isSpent 39 = .ok (.iload_n 3, 1) := by decide +kernel
theorem dX4_isSpent_40 : decode cX4_isSpent 40 = .ok (.invokevirtual 344, 3) := by decide +kernel
theorem dX4_isSpent_43 : decode cX4_isSpent 43 = .ok (.ifCond .eq 5, 3) := by decide +kernel
theorem dX4_isSpent_46 : decode cX4_isSpent 46 = .ok (.iconst 1, 1) := by decide +kernel
theorem dX4_isSpent_47 : decode cX4_isSpent 47 = .ok (.ireturn, 1) := by decide +kernel
theorem dX4_isSpent_48 : decode cX4_isSpent 48 = .ok (.iinc 4 1, 3) := by decide +kernel
theorem dX4_isSpent_51 : decode cX4_isSpent 51 = .ok (.goto (-48), 3) := by decide +kernel
theorem dX4_isSpent_54 : decode cX4_isSpent 54 = .ok (.iconst 0, 1) := by decide +kernel
theorem dX4_isSpent_55 : decode cX4_isSpent 55 = .ok (.ireturn, 1) := by decide +kernel
set_option maxRecDepth 20000 in
theorem ggX4_spentOffences_X4_isSpent : GoodIn wsX4_spentOffences wsX4_isSpent := goodIn_r _ [7, 1, 8, 9, 10, 11, 12, 13, 14, 15, 16, 17, 18, 19, 20, 21, 22, 23, 24, 25, 26, 27, 28, 29, 30, 31, 32, 33, 34, 35, 36, 37, 38, 39, 40, 41, 42, 43, 44, 45, 46, 47, 48, 49, 50, 51, 52, 53, 54] (by decide +kernel) (by decide +kernel)
set_option maxRecDepth 20000 in
theorem gX4_spentOffences_X4_isSpent : GoodIn wsX4_spentOffences (wsV RX4 347 RX4 yX4_isSpent wsX4_isSpent) := goodIn_app (goodIn_of _ (by decide +kernel)) ggX4_spentOffences_X4_isSpent
theorem dX4_spentOffences_0 : decode cX4_spentOffences 0 = .ok (.iconst 0, 1) := by decide +kernel
theorem dX4_spentOffences_1 : decode cX4_spentOffences 1 = .ok (.istore_n 2, 1) := by decide +kernel
theorem dX4_spentOffences_2 : decode cX4_spentOffences 2 = .ok (.iconst 0, 1) := by decide +kernel
theorem dX4_spentOffences_3 : decode cX4_spentOffences 3 = .ok (.istore_n 3, 1) := by decide +kernel
theorem dX4_spentOffences_4 : decode cX4_spentOffences 4 = .ok (.iload_n 3, 1) := by decide +kernel
theorem dX4_spentOffences_5 : decode cX4_spentOffences 5 = .ok (.aload_n 0, 1) := by decide +kernel
theorem dX4_spentOffences_6 : decode cX4_spentOffences 6 = .ok (.getfield 11, 3) := by decide +kernel
theorem dX4_spentOffences_9 : decode cX4_spentOffences 9 = .ok (.arraylength, 1) := by decide +kernel
theorem dX4_spentOffences_10 : decode cX4_spentOffences 10 = .ok (.if_icmp .ge 42, 3) := by decide +kernel
theorem dX4_spentOffences_13 : decode cX4_spentOffences 13 = .ok (.aload_n 0, 1) := by decide +kernel
theorem dX4_spentOffences_14 : decode cX4_spentOffences 14 = .ok (.getfield 11, 3) := by decide +kernel
theorem dX4_spentOffences_17 : decode cX4_spentOffences 17 = .ok (.iload_n 3, 1) := by decide +kernel
theorem dX4_spentOffences_18 : decode cX4_spentOffences 18 = .ok (.aaload, 1) := by decide +kernel
theorem dX4_spentOffences_19 : decode cX4_spentOffences 19 = .ok (.astore 4, 2) := by decide +kernel
theorem dX4_spentOffences_21 : decode cX4_spentOffences 21 = .ok (.aload 4, 2) := by decide +kernel
theorem dX4_spentOffences_23 : decode cX4_spentOffences 23 = .ok (.ifnull 23, 3) := by decide +kernel
theorem dX4_spentOffences_26 : decode cX4_spentOffences 26 = .ok (.aload_n 0, 1) := by decide +kernel
theorem dX4_spentOffences_27 : decode cX4_spentOffences 27 = .ok (.aload_n 1, 1) := by decide +kernel
theorem dX4_spentOffences_28 : decode cX4_spentOffences 28 = .ok (.aload 4, 2) := by decide +kernel
theorem dX4_spentOffences_30 : decode cX4_spentOffences 30 = .ok (.aload_n 0, 1) := by decide +kernel
theorem dX4_spentOffences_31 : decode cX4_spentOffences 31 = .ok (.getfield 70, 3) := by decide +kernel
theorem dX4_spentOffences_34 : decode cX4_spentOffences 34 = .ok (.invokevirtual 347, 3) := by decide +kernel
theorem dX4_spentOffences_37 : decode cX4_spentOffences 37 = .ok (.ifCond .eq 9, 3) := by decide +kernel
theorem dX4_spentOffences_40 : decode cX4_spentOffences 40 = .ok (.iload_n 2, 1) := by decide +kernel
theorem dX4_spentOffences_41 : decode cX4_spentOffences 41 = .ok (.iconst 1, 1) := by decide +kernel
theorem dX4_spentOffences_42 : decode cX4_spentOffences 42 = .ok (.iload_n 3, 1) := by decide +kernel
theorem dX4_spentOffences_43 : decode cX4_spentOffences 43 = .ok (.ishl, 1) := by decide +kernel
theorem dX4_spentOffences_44 : decode cX4_spentOffences 44 = .ok (.ior, 1) := by decide +kernel
theorem dX4_spentOffences_45 : decode cX4_spentOffences 45 = .ok (.istore_n 2, 1) := by decide +kernel
theorem dX4_spentOffences_46 : decode cX4_spentOffences 46 = .ok (.iinc 3 1, 3) := by decide +kernel
theorem dX4_spentOffences_49 : decode cX4_spentOffences 49 = .ok (.goto (-45), 3) := by decide +kernel
theorem dX4_spentOffences_52 : decode cX4_spentOffences 52 = .ok (.iload_n 2, 1) := by decide +kernel
theorem dX4_spentOffences_53 : decode cX4_spentOffences 53 = .ok (.ireturn, 1) := by decide +kernel
set_option maxRecDepth 20000 in
theorem ggX4_hindrance_X4_isSpent : GoodIn wsX4_hindrance wsX4_isSpent := goodIn_r _ [10, 11, 12, 13, 14, 15, 16, 17, 18, 19, 20, 21, 22, 23, 24, 25, 26, 27, 82, 83, 84, 85, 86, 87, 88, 89, 90, 91, 92, 93, 94, 78, 79, 80, 81, 59, 60, 61, 62, 63, 64, 65, 66, 67, 68, 69, 70, 71, 72] (by decide +kernel) (by decide +kernel)
set_option maxRecDepth 20000 in
theorem gX4_hindrance_X4_isSpent : GoodIn wsX4_hindrance (wsV RX4 347 RX4 yX4_isSpent wsX4_isSpent) := goodIn_app (goodIn_of _ (by decide +kernel)) ggX4_hindrance_X4_isSpent
set_option maxRecDepth 20000 in
theorem ggX4_hindrance_X4_hasStrength : GoodIn wsX4_hindrance wsX4_hasStrength := goodIn_r _ [31, 32, 33, 34, 9, 35, 36, 37, 38, 39, 40, 41, 1, 42, 43, 44, 45, 46, 47, 48, 49, 50, 51, 52, 53, 54, 55, 56, 57, 58, 78, 79, 80, 81, 82, 83, 84, 85, 86, 87, 88, 89, 90, 91, 92, 93, 94, 95, 96, 97, 98, 99, 100, 101, 102, 103, 104, 59, 60, 61, 62, 63, 64, 65, 66, 67, 68, 69, 70, 71, 72, 73, 74, 75, 76, 77] (by decide +kernel) (by decide +kernel)
set_option maxRecDepth 20000 in
theorem gX4_hindrance_X4_hasStrength : GoodIn wsX4_hindrance (wsV RX4 357 RX4 yX4_hasStrength wsX4_hasStrength) := goodIn_app (goodIn_of _ (by decide +kernel)) ggX4_hindrance_X4_hasStrength
theorem dX4_hindrance_0 : decode cX4_hindrance 0 = .ok (.iload_n 3, 1) := by decide +kernel
theorem dX4_hindrance_1 : decode cX4_hindrance 1 = .ok (.aload_n 1, 1) := by decide +kernel
theorem dX4_hindrance_2 : decode cX4_hindrance 2 = .ok (.getfield 293, 3) := by decide +kernel
theorem dX4_hindrance_5 : decode cX4_hindrance 5 = .ok (.getfield 351, 3) := by decide +kernel
theorem dX4_hindrance_8 : decode cX4_hindrance 8 = .ok (.aload_n 2, 1) := by decide +kernel
theorem dX4_hindrance_9 : decode cX4_hindrance 9 = .ok (.getfield 354, 3) := by decide +kernel
theorem dX4_hindrance_12 : decode cX4_hindrance 12 = .ok (.iadd, 1) := by decide +kernel
theorem dX4_hindrance_13 : decode cX4_hindrance 13 = .ok (.if_icmp .le 5, 3) := by decide +kernel
theorem dX4_hindrance_16 : decode cX4_hindrance 16 = .ok (.iconst 1, 1) := by decide +kernel
theorem dX4_hindrance_17 : decode cX4_hindrance 17 = .ok (.ireturn, 1) := by decide +kernel
theorem dX4_hindrance_18 : decode cX4_hindrance 18 = .ok (.aload_n 0, 1) := by decide +kernel
theorem dX4_hindrance_19 : decode cX4_hindrance 19 = .ok (.aload_n 1, 1) := by decide +kernel
theorem dX4_hindrance_20 : decode cX4_hindrance 20 = .ok (.aload_n 2, 1) := by decide +kernel
theorem dX4_hindrance_21 : decode cX4_hindrance 21 = .ok (.iload_n 3, 1) := by decide +kernel
theorem dX4_hindrance_22 : decode cX4_hindrance 22 = .ok (.invokevirtual 347, 3) := by decide +kernel
theorem dX4_hindrance_25 : decode cX4_hindrance 25 = .ok (.ifCond .eq 5, 3) := by decide +kernel
theorem dX4_hindrance_28 : decode cX4_hindrance 28 = .ok (.iconst 2, 1) := by decide +kernel
theorem dX4_hindrance_29 : decode cX4_hindrance 29 = .ok (.ireturn, 1) := by decide +kernel
theorem dX4_hindrance_30 : decode cX4_hindrance 30 = .ok (.aload_n 0, 1) := by decide +kernel
theorem dX4_hindrance_31 : decode cX4_hindrance 31 = .ok (.aload_n 1, 1) := by decide +kernel
theorem dX4_hindrance_32 : decode cX4_hindrance 32 = .ok (.aload_n 2, 1) := by decide +kernel
theorem dX4_hindrance_33 : decode cX4_hindrance 33 = .ok (.iconst 5, 1) := by decide +kernel
theorem dX4_hindrance_34 : decode cX4_hindrance 34 = .ok (.iload_n 3, 1) := by decide +kernel
theorem dX4_hindrance_35 : decode cX4_hindrance 35 = .ok (.invokevirtual 357, 3) := by decide +kernel
theorem dX4_hindrance_38 : decode cX4_hindrance 38 = .ok (.ifCond .ne 5, 3) := by decide +kernel
theorem dX4_hindrance_41 : decode cX4_hindrance 41 = .ok (.iconst 3, 1) := by decide +kernel
theorem dX4_hindrance_42 : decode cX4_hindrance 42 = .ok (.ireturn, 1) := by decide +kernel
theorem dX4_hindrance_43 : decode cX4_hindrance 43 = .ok (.aload_n 2, 1) := by decide +kernel
theorem dX4_hindrance_44 : decode cX4_hindrance 44 = .ok (.getfield 361, 3) := by decide +kernel
theorem dX4_hindrance_47 : decode cX4_hindrance 47 = .ok (.aload_n 1, 1) := by decide +kernel
theorem dX4_hindrance_48 : decode cX4_hindrance 48 = .ok (.getfield 293, 3) := by decide +kernel
theorem dX4_hindrance_51 : decode cX4_hindrance 51 = .ok (.getfield 364, 3) := by decide +kernel
theorem dX4_hindrance_54 : decode cX4_hindrance 54 = .ok (.iadd, 1) := by decide +kernel
theorem dX4_hindrance_55 : decode cX4_hindrance 55 = .ok (.ifCond .gt 7, 3) := by decide +kernel
theorem dX4_hindrance_58 : decode cX4_hindrance 58 = .ok (.iconst 4, 1) := by decide +kernel
theorem dX4_hindrance_59 : decode cX4_hindrance 59 = .ok (.goto 4, 3) := by decide +kernel
theorem dX4_hindrance_62 : decode cX4_hindrance 62 = .ok (.iconst 0, 1) := by decide +kernel
theorem dX4_hindrance_63 : decode cX4_hindrance 63 = .ok (.ireturn, 1) := by decide +kernel
set_option maxRecDepth 20000 in
theorem ggX4_chargeable_X4_hindrance : GoodIn wsX4_chargeable wsX4_hindrance := goodIn_r _ [6, 7, 8, 9, 10, 11, 12, 13, 14, 5, 15, 1, 16, 17, 18, 19, 20, 21, 22, 23, 24, 25, 26, 27, 28, 29, 30, 31, 32, 33, 34, 35, 36, 37, 38, 39, 40, 41, 42, 43, 44, 45, 46, 47, 48, 49, 50, 51, 52, 53, 54, 55, 56, 57, 58, 59, 60, 61, 62, 76, 77, 78, 79, 80, 81, 82, 83, 84, 85, 86, 87, 88, 89, 90, 91, 92, 93, 94, 95, 96, 97, 98, 63, 64, 65, 66, 67, 68, 69, 70, 71, 72, 73, 74, 75, 99, 100, 101, 102, 103, 104, 105, 106, 107, 108] (by decide +kernel) (by decide +kernel)
set_option maxRecDepth 20000 in
theorem gX4_chargeable_X4_hindrance : GoodIn wsX4_chargeable (wsV RX4 283 RX4 yX4_hindrance wsX4_hindrance) := goodIn_app (goodIn_of _ (by decide +kernel)) ggX4_chargeable_X4_hindrance
theorem dX4_chargeable_0 : decode cX4_chargeable 0 = .ok (.iconst 0, 1) := by decide +kernel
theorem dX4_chargeable_1 : decode cX4_chargeable 1 = .ok (.istore_n 3, 1) := by decide +kernel
theorem dX4_chargeable_2 : decode cX4_chargeable 2 = .ok (.iconst 0, 1) := by decide +kernel
theorem dX4_chargeable_3 : decode cX4_chargeable 3 = .ok (.istore 4, 2) := by decide +kernel
theorem dX4_chargeable_5 : decode cX4_chargeable 5 = .ok (.iload 4, 2) := by decide +kernel
theorem dX4_chargeable_7 : decode cX4_chargeable 7 = .ok (.aload_n 0, 1) := by decide +kernel
theorem dX4_chargeable_8 : decode cX4_chargeable 8 = .ok (.getfield 11, 3) := by decide +kernel
theorem dX4_chargeable_11 : decode cX4_chargeable 11 = .ok (.arraylength, 1) := by decide +kernel
theorem dX4_chargeable_12 : decode cX4_chargeable 12 = .ok (.if_icmp .ge 41, 3) := by decide +kernel
theorem dX4_chargeable_15 : decode cX4_chargeable 15 = .ok (.aload_n 0, 1) := by decide +kernel
theorem dX4_chargeable_16 : decode cX4_chargeable 16 = .ok (.getfield 11, 3) := by decide +kernel
theorem dX4_chargeable_19 : decode cX4_chargeable 19 = .ok (.iload 4, 2) := by decide +kernel
theorem dX4_chargeable_21 : decode cX4_chargeable 21 = .ok (.aaload, 1) := by decide +kernel
theorem dX4_chargeable_22 : decode cX4_chargeable 22 = .ok (.astore 5, 2) := by decide +kernel
theorem dX4_chargeable_24 : decode cX4_chargeable 24 = .ok (.aload 5, 2) := by decide +kernel
theorem dX4_chargeable_26 : decode cX4_chargeable 26 = .ok (.ifnull 21, 3) := by decide +kernel
theorem dX4_chargeable_29 : decode cX4_chargeable 29 = .ok (.aload_n 0, 1) := by decide +kernel
theorem dX4_chargeable_30 : decode cX4_chargeable 30 = .ok (.aload_n 1, 1) := by decide +kernel
theorem dX4_chargeable_31 : decode cX4_chargeable 31 = .ok (.aload 5, 2) := by decide +kernel
theorem dX4_chargeable_33 : decode cX4_chargeable 33 = .ok (.iload_n 2, 1) := by decide +kernel
theorem dX4_chargeable_34 : decode cX4_chargeable 34 = .ok (.invokevirtual 283, 3) := by decide +kernel
theorem dX4_chargeable_37 : decode cX4_chargeable 37 = .ok (.ifCond .ne 10, 3) := by decide +kernel
theorem dX4_chargeable_40 : decode cX4_chargeable 40 = .ok (.iload_n 3, 1) := by decide +kernel
theorem dX4_chargeable_41 : decode cX4_chargeable 41 = .ok (.iconst 1, 1) := by decide +kernel
theorem dX4_chargeable_42 : decode cX4_chargeable 42 = .ok (.iload 4, 2) := by decide +kernel
theorem dX4_chargeable_44 : decode cX4_chargeable 44 = .ok (.ishl, 1) := by decide +kernel
theorem dX4_chargeable_45 : decode cX4_chargeable 45 = .ok (.ior, 1) := by decide +kernel
theorem dX4_chargeable_46 : decode cX4_chargeable 46 = .ok (.istore_n 3, 1) := by decide +kernel
theorem dX4_chargeable_47 : decode cX4_chargeable 47 = .ok (.iinc 4 1, 3) := by decide +kernel
theorem dX4_chargeable_50 : decode cX4_chargeable 50 = .ok (.goto (-45), 3) := by decide +kernel
theorem dX4_chargeable_53 : decode cX4_chargeable 53 = .ok (.iload_n 3, 1) := by decide +kernel
theorem dX4_chargeable_54 : decode cX4_chargeable 54 = .ok (.ireturn, 1) := by decide +kernel
set_option maxRecDepth 20000 in
theorem ggX4_provenCharges_X4_hasBit : GoodIn wsX4_provenCharges wsX4_hasBit := goodIn_r _ [7] (by decide +kernel) (by decide +kernel)
set_option maxRecDepth 20000 in
theorem gX4_provenCharges_X4_hasBit : GoodIn wsX4_provenCharges (va_wsS RX4 96 yX4_hasBit wsX4_hasBit) := goodIn_app (goodIn_of _ (by decide +kernel)) ggX4_provenCharges_X4_hasBit
set_option maxRecDepth 20000 in
theorem ggX4_provenCharges_X4_hasStrength : GoodIn wsX4_provenCharges wsX4_hasStrength := goodIn_r _ [11, 12, 4, 5, 6, 7, 13, 14, 15, 16, 17, 18, 19, 20, 21, 22, 23, 24, 25, 26, 27, 28, 29, 30, 31, 32, 33, 34, 35, 36, 64, 65, 66, 67, 37, 38, 39, 40, 41, 42, 43, 44, 45, 46, 47, 48, 49, 68, 69, 70, 71, 72, 73, 74, 75, 76, 77, 50, 51, 52, 53, 54, 55, 56, 57, 58, 59, 60, 61, 62, 63, 78, 79, 80, 81, 82] (by decide +kernel) (by decide +kernel)
set_option maxRecDepth 20000 in
theorem gX4_provenCharges_X4_hasStrength : GoodIn wsX4_provenCharges (wsV RX4 357 RX4 yX4_hasStrength wsX4_hasStrength) := goodIn_app (goodIn_of _ (by decide +kernel)) ggX4_provenCharges_X4_hasStrength
theorem dX4_provenCharges_0 : decode cX4_provenCharges 0 = .ok (.iconst 0, 1) := by decide +kernel
theorem dX4_provenCharges_1 : decode cX4_provenCharges 1 = .ok (.istore_n 2, 1) := by decide +kernel
theorem dX4_provenCharges_2 : decode cX4_provenCharges 2 = .ok (.iconst 0, 1) := by decide +kernel
theorem dX4_provenCharges_3 : decode cX4_provenCharges 3 = .ok (.istore_n 3, 1) := by decide +kernel
theorem dX4_provenCharges_4 : decode cX4_provenCharges 4 = .ok (.iload_n 3, 1) := by decide +kernel
theorem dX4_provenCharges_5 : decode cX4_provenCharges 5 = .ok (.aload_n 0, 1) := by decide +kernel
theorem dX4_provenCharges_6 : decode cX4_provenCharges 6 = .ok (.getfield 11, 3) := by decide +kernel
theorem dX4_provenCharges_9 : decode cX4_provenCharges 9 = .ok (.arraylength, 1) := by decide +kernel
theorem dX4_provenCharges_10 : decode cX4_provenCharges 10 = .ok (.if_icmp .ge 55, 3) := by decide +kernel
theorem dX4_provenCharges_13 : decode cX4_provenCharges 13 = .ok (.aload_n 0, 1) := by decide +kernel
theorem dX4_provenCharges_14 : decode cX4_provenCharges 14 = .ok (.getfield 11, 3) := by decide +kernel
theorem dX4_provenCharges_17 : decode cX4_provenCharges 17 = .ok (.iload_n 3, 1) := by decide +kernel
theorem dX4_provenCharges_18 : decode cX4_provenCharges 18 = .ok (.aaload, 1) := by decide +kernel
theorem dX4_provenCharges_19 : decode cX4_provenCharges 19 = .ok (.astore 4, 2) := by decide +kernel
theorem dX4_provenCharges_21 : decode cX4_provenCharges 21 = .ok (.aload 4, 2) := by decide +kernel
theorem dX4_provenCharges_23 : decode cX4_provenCharges 23 = .ok (.ifnull 36, 3) := by decide +kernel
theorem dX4_provenCharges_26 : decode cX4_provenCharges 26 = .ok (.aload_n 1, 1) := by decide +kernel
theorem dX4_provenCharges_27 : decode cX4_provenCharges 27 = .ok (.getfield 190, 3) := by decide +kernel
theorem dX4_provenCharges_30 : decode cX4_provenCharges 30 = .ok (.iload_n 3, 1) := by decide +kernel
theorem dX4_provenCharges_31 : decode cX4_provenCharges 31 = .ok (.invokestatic 96, 3) := by decide +kernel
theorem dX4_provenCharges_34 : decode cX4_provenCharges 34 = .ok (.ifCond .eq 25, 3) := by decide +kernel
theorem dX4_provenCharges_37 : decode cX4_provenCharges 37 = .ok (.aload_n 0, 1) := by decide +kernel
theorem dX4_provenCharges_38 : decode cX4_provenCharges 38 = .ok (.aload_n 1, 1) := by decide +kernel
theorem dX4_provenCharges_39 : decode cX4_provenCharges 39 = .ok (.aload 4, 2) := by decide +kernel
theorem dX4_provenCharges_41 : decode cX4_provenCharges 41 = .ok (.bipush 8, 2) := by decide +kernel
theorem dX4_provenCharges_43 : decode cX4_provenCharges 43 = .ok (.aload_n 0, 1) := by decide +kernel
theorem dX4_provenCharges_44 : decode cX4_provenCharges 44 = .ok (.getfield 70, 3) := by decide +kernel
theorem dX4_provenCharges_47 : decode cX4_provenCharges 47 = .ok (.invokevirtual 357, 3) := by decide +kernel
theorem dX4_provenCharges_50 : decode cX4_provenCharges 50 = .ok (.ifCond .eq 9, 3) := by decide +kernel
theorem dX4_provenCharges_53 : decode cX4_provenCharges 53 = .ok (.iload_n 2, 1) := by decide +kernel
theorem dX4_provenCharges_54 : decode cX4_provenCharges 54 = .ok (.iconst 1, 1) := by decide +kernel
theorem dX4_provenCharges_55 : decode cX4_provenCharges 55 = .ok (.iload_n 3, 1) := by decide +kernel
theorem dX4_provenCharges_56 : decode cX4_provenCharges 56 = .ok (.ishl, 1) := by decide +kernel
theorem dX4_provenCharges_57 : decode cX4_provenCharges 57 = .ok (.ior, 1) := by decide +kernel
theorem dX4_provenCharges_58 : decode cX4_provenCharges 58 = .ok (.istore_n 2, 1) := by decide +kernel
theorem dX4_provenCharges_59 : decode cX4_provenCharges 59 = .ok (.iinc 3 1, 3) := by decide +kernel
theorem dX4_provenCharges_62 : decode cX4_provenCharges 62 = .ok (.goto (-58), 3) := by decide +kernel
theorem dX4_provenCharges_65 : decode cX4_provenCharges 65 = .ok (.iload_n 2, 1) := by decide +kernel
theorem dX4_provenCharges_66 : decode cX4_provenCharges 66 = .ok (.ireturn, 1) := by decide +kernel
set_option maxRecDepth 20000 in
theorem ggX4_gravityOf_X4_hasBit : GoodIn wsX4_gravityOf wsX4_hasBit := goodIn_r _ [6] (by decide +kernel) (by decide +kernel)
set_option maxRecDepth 20000 in
theorem gX4_gravityOf_X4_hasBit : GoodIn wsX4_gravityOf (va_wsS RX4 96 yX4_hasBit wsX4_hasBit) := goodIn_app (goodIn_of _ (by decide +kernel)) ggX4_gravityOf_X4_hasBit
theorem dX4_gravityOf_0 : decode cX4_gravityOf 0 = .ok (.iconst 0, 1) := by decide +kernel
theorem dX4_gravityOf_1 : decode cX4_gravityOf 1 = .ok (.istore_n 2, 1) := by decide +kernel
theorem dX4_gravityOf_2 : decode cX4_gravityOf 2 = .ok (.iconst 0, 1) := by decide +kernel
theorem dX4_gravityOf_3 : decode cX4_gravityOf 3 = .ok (.istore_n 3, 1) := by decide +kernel
theorem dX4_gravityOf_4 : decode cX4_gravityOf 4 = .ok (.iload_n 3, 1) := by decide +kernel
theorem dX4_gravityOf_5 : decode cX4_gravityOf 5 = .ok (.aload_n 0, 1) := by decide +kernel
theorem dX4_gravityOf_6 : decode cX4_gravityOf 6 = .ok (.getfield 11, 3) := by decide +kernel
theorem dX4_gravityOf_9 : decode cX4_gravityOf 9 = .ok (.arraylength, 1) := by decide +kernel
theorem dX4_gravityOf_10 : decode cX4_gravityOf 10 = .ok (.if_icmp .ge 38, 3) := by decide +kernel
theorem dX4_gravityOf_13 : decode cX4_gravityOf 13 = .ok (.aload_n 0, 1) := by decide +kernel
theorem dX4_gravityOf_14 : decode cX4_gravityOf 14 = .ok (.getfield 11, 3) := by decide +kernel
theorem dX4_gravityOf_17 : decode cX4_gravityOf 17 = .ok (.iload_n 3, 1) := by decide +kernel
theorem dX4_gravityOf_18 : decode cX4_gravityOf 18 = .ok (.aaload, 1) := by decide +kernel
theorem dX4_gravityOf_19 : decode cX4_gravityOf 19 = .ok (.astore 4, 2) := by decide +kernel
theorem dX4_gravityOf_21 : decode cX4_gravityOf 21 = .ok (.aload 4, 2) := by decide +kernel
theorem dX4_gravityOf_23 : decode cX4_gravityOf 23 = .ok (.ifnull 19, 3) := by decide +kernel
theorem dX4_gravityOf_26 : decode cX4_gravityOf 26 = .ok (.iload_n 1, 1) := by decide +kernel
theorem dX4_gravityOf_27 : decode cX4_gravityOf 27 = .ok (.iload_n 3, 1) := by decide +kernel
theorem dX4_gravityOf_28 : decode cX4_gravityOf 28 = .ok (.invokestatic 96, 3) := by decide +kernel
theorem dX4_gravityOf_31 : decode cX4_gravityOf 31 = .ok (.ifCond .eq 11, 3) := by decide +kernel
theorem dX4_gravityOf_34 : decode cX4_gravityOf 34 = .ok (.iload_n 2, 1) := by decide +kernel
theorem dX4_gravityOf_35 : decode cX4_gravityOf 35 = .ok (.aload 4, 2) := by decide +kernel
theorem dX4_gravityOf_37 : decode cX4_gravityOf 37 = .ok (.getfield 361, 3) := by decide +kernel
theorem dX4_gravityOf_40 : decode cX4_gravityOf 40 = .ok (.iadd, 1) := by decide +kernel
theorem dX4_gravityOf_41 : decode cX4_gravityOf 41 = .ok (.istore_n 2, 1) := by decide +kernel
theorem dX4_gravityOf_42 : decode cX4_gravityOf 42 = .ok (.iinc 3 1, 3) := by decide +kernel
theorem dX4_gravityOf_45 : decode cX4_gravityOf 45 = .ok (.goto (-41), 3) := by decide +kernel
theorem dX4_gravityOf_48 : decode cX4_gravityOf 48 = .ok (.iload_n 2, 1) := by decide +kernel
theorem dX4_gravityOf_49 : decode cX4_gravityOf 49 = .ok (.ireturn, 1) := by decide +kernel
set_option maxRecDepth 20000 in
theorem ggX4_matesOf_X4_offenceAt : GoodIn wsX4_matesOf wsX4_offenceAt := goodIn_r _ [6, 1, 24, 25, 26, 27, 28, 29, 30, 31, 32, 33, 34, 35, 36] (by decide +kernel) (by decide +kernel)
set_option maxRecDepth 20000 in
theorem gX4_matesOf_X4_offenceAt : GoodIn wsX4_matesOf (wsV RX4 50 RX4 yX4_offenceAt wsX4_offenceAt) := goodIn_app (goodIn_of _ (by decide +kernel)) ggX4_matesOf_X4_offenceAt
set_option maxRecDepth 20000 in
theorem ggX4_matesOf_X3_excludes : GoodIn wsX4_matesOf wsX3_excludes := goodIn_r _ [11, 12, 13, 5, 14, 37, 38, 39, 40] (by decide +kernel) (by decide +kernel)
set_option maxRecDepth 20000 in
theorem gX4_matesOf_X3_excludes : GoodIn wsX4_matesOf (wsV RX4 61 RX3 yX3_excludes wsX3_excludes) := goodIn_app (goodIn_of _ (by decide +kernel)) ggX4_matesOf_X3_excludes
set_option maxRecDepth 20000 in
theorem ggX4_matesOf_X3_isAkinTo : GoodIn wsX4_matesOf wsX3_isAkinTo := goodIn_r _ [18, 19, 20, 21, 22, 10, 23, 37, 38, 39, 40] (by decide +kernel) (by decide +kernel)
set_option maxRecDepth 20000 in
theorem gX4_matesOf_X3_isAkinTo : GoodIn wsX4_matesOf (wsV RX4 341 RX3 yX3_isAkinTo wsX3_isAkinTo) := goodIn_app (goodIn_of _ (by decide +kernel)) ggX4_matesOf_X3_isAkinTo
theorem dX4_matesOf_0 : decode cX4_matesOf 0 = .ok (.aload_n 0, 1) := by decide +kernel
theorem dX4_matesOf_1 : decode cX4_matesOf 1 = .ok (.iload_n 1, 1) := by decide +kernel
theorem dX4_matesOf_2 : decode cX4_matesOf 2 = .ok (.invokevirtual 50, 3) := by decide +kernel
theorem dX4_matesOf_5 : decode cX4_matesOf 5 = .ok (.astore_n 2, 1) := by decide +kernel
theorem dX4_matesOf_6 : decode cX4_matesOf 6 = .ok (.iconst 0, 1) := by decide +kernel
theorem dX4_matesOf_7 : decode cX4_matesOf 7 = .ok (.istore_n 3, 1) := by decide +kernel
theorem dX4_matesOf_8 : decode cX4_matesOf 8 = .ok (.iconst 0, 1) := by decide +kernel
theorem dX4_matesOf_9 : decode cX4_matesOf 9 = .ok (.istore 4, 2) := by decide +kernel
theorem dX4_matesOf_11 : decode cX4_matesOf 11 = .ok (.iload 4, 2) := by decide +kernel
theorem dX4_matesOf_13 : decode cX4_matesOf 13 = .ok (.aload_n 0, 1) := by decide +kernel
theorem dX4_matesOf_14 : decode cX4_matesOf 14 = .ok (.getfield 11, 3) := by decide +kernel
theorem dX4_matesOf_17 : decode cX4_matesOf 17 = .ok (.arraylength, 1) := by decide +kernel
theorem dX4_matesOf_18 : decode cX4_matesOf 18 = .ok (.if_icmp .ge 52, 3) := by decide +kernel
theorem dX4_matesOf_21 : decode cX4_matesOf 21 = .ok (.aload_n 0, 1) := by decide +kernel
theorem dX4_matesOf_22 : decode cX4_matesOf 22 = .ok (.getfield 11, 3) := by decide +kernel
theorem dX4_matesOf_25 : decode cX4_matesOf 25 = .ok (.iload 4, 2) := by decide +kernel
theorem dX4_matesOf_27 : decode cX4_matesOf 27 = .ok (.aaload, 1) := by decide +kernel
theorem dX4_matesOf_28 : decode cX4_matesOf 28 = .ok (.astore 5, 2) := by decide +kernel
theorem dX4_matesOf_30 : decode cX4_matesOf 30 = .ok (.aload_n 2, 1) := by decide +kernel
theorem dX4_matesOf_31 : decode cX4_matesOf 31 = .ok (.ifnull 33, 3) := by decide +kernel
theorem dX4_matesOf_34 : decode cX4_matesOf 34 = .ok (.aload 5, 2) := by decide +kernel
theorem dX4_matesOf_36 : decode cX4_matesOf 36 = .ok (.ifnull 28, 3) := by decide +kernel
theorem dX4_matesOf_39 : decode cX4_matesOf 39 = .ok (.aload_n 2, 1) := by decide +kernel
theorem dX4_matesOf_40 : decode cX4_matesOf 40 = .ok (.iload 4, 2) := by decide +kernel
theorem dX4_matesOf_42 : decode cX4_matesOf 42 = .ok (.invokevirtual 61, 3) := by decide +kernel
theorem dX4_matesOf_45 : decode cX4_matesOf 45 = .ok (.ifCond .ne 19, 3) := by decide +kernel
theorem dX4_matesOf_48 : decode cX4_matesOf 48 = .ok (.aload_n 2, 1) := by decide +kernel
theorem dX4_matesOf_49 : decode cX4_matesOf 49 = .ok (.aload 5, 2) := by decide +kernel
theorem dX4_matesOf_51 : decode cX4_matesOf 51 = .ok (.invokevirtual 341, 3) := by decide +kernel
theorem dX4_matesOf_54 : decode cX4_matesOf 54 = .ok (.ifCond .ne 10, 3) := by decide +kernel
theorem dX4_matesOf_57 : decode cX4_matesOf 57 = .ok (.iload_n 3, 1) := by decide +kernel
theorem dX4_matesOf_58 : decode cX4_matesOf 58 = .ok (.iconst 1, 1) := by decide +kernel
theorem dX4_matesOf_59 : decode cX4_matesOf 59 = .ok (.iload 4, 2) := by decide +kernel
theorem dX4_matesOf_61 : decode cX4_matesOf 61 = .ok (.ishl, 1) := by decide +kernel
theorem dX4_matesOf_62 : decode cX4_matesOf 62 = .ok (.ior, 1) := by decide +kernel
theorem dX4_matesOf_63 : decode cX4_matesOf 63 = .ok (.istore_n 3, 1) := by decide +kernel
theorem dX4_matesOf_64 : decode cX4_matesOf 64 = .ok (.iinc 4 1, 3) := by decide +kernel
theorem dX4_matesOf_67 : decode cX4_matesOf 67 = .ok (.goto (-56), 3) := by decide +kernel
theorem dX4_matesOf_70 : decode cX4_matesOf 70 = .ok (.iload_n 3, 1) := by decide +kernel
theorem dX4_matesOf_71 : decode cX4_matesOf 71 = .ok (.ireturn, 1) := by decide +kernel
set_option maxRecDepth 20000 in
theorem ggX4_isRight_J6_bitCount_0f7a4 : GoodIn wsX4_isRight wsJ6_bitCount_0f7a4 := goodIn_r _ [5, 6, 7, 8] (by decide +kernel) (by decide +kernel)
set_option maxRecDepth 20000 in
theorem gX4_isRight_J6_bitCount_0f7a4 : GoodIn wsX4_isRight (va_wsS RX4 227 yJ6_bitCount_0f7a4 wsJ6_bitCount_0f7a4) := goodIn_app (goodIn_of _ (by decide +kernel)) ggX4_isRight_J6_bitCount_0f7a4
set_option maxRecDepth 20000 in
theorem ggX4_isRight_X4_hasBit : GoodIn wsX4_isRight wsX4_hasBit := goodIn_r _ [12] (by decide +kernel) (by decide +kernel)
set_option maxRecDepth 20000 in
theorem gX4_isRight_X4_hasBit : GoodIn wsX4_isRight (va_wsS RX4 96 yX4_hasBit wsX4_hasBit) := goodIn_app (goodIn_of _ (by decide +kernel)) ggX4_isRight_X4_hasBit
set_option maxRecDepth 20000 in
theorem ggX4_isRight_X4_matesOf : GoodIn wsX4_isRight wsX4_matesOf := goodIn_r _ [16, 1, 17, 18, 19, 11, 20, 21, 22, 23, 24, 25, 26, 10, 12, 27, 28, 29, 30, 31, 32, 33, 34, 35, 36, 37, 38, 39, 40, 41, 42, 43, 44, 45, 46, 47, 48, 49, 50, 51, 52] (by decide +kernel) (by decide +kernel)
set_option maxRecDepth 20000 in
theorem gX4_isRight_X4_matesOf : GoodIn wsX4_isRight (wsV RX4 367 RX4 yX4_matesOf wsX4_matesOf) := goodIn_app (goodIn_of _ (by decide +kernel)) ggX4_isRight_X4_matesOf
theorem dX4_isRight_0 : decode cX4_isRight 0 = .ok (.iload_n 1, 1) := by decide +kernel
theorem dX4_isRight_1 : decode cX4_isRight 1 = .ok (.invokestatic 227, 3) := by decide +kernel
theorem dX4_isRight_4 : decode cX4_isRight 4 = .ok (.istore_n 3, 1) := by decide +kernel
theorem dX4_isRight_5 : decode cX4_isRight 5 = .ok (.iload_n 3, 1) := by decide +kernel
theorem dX4_isRight_6 : decode cX4_isRight 6 = .ok (.iconst 1, 1) := by decide +kernel
theorem dX4_isRight_7 : decode cX4_isRight 7 = .ok (.if_icmp .lt 16, 3) := by decide +kernel
theorem dX4_isRight_10 : decode cX4_isRight 10 = .ok (.iload_n 3, 1) := by decide +kernel
theorem dX4_isRight_11 : decode cX4_isRight 11 = .ok (.iconst 3, 1) := by decide +kernel
theorem dX4_isRight_12 : decode cX4_isRight 12 = .ok (.if_icmp .gt 11, 3) := by decide +kernel
theorem dX4_isRight_15 : decode cX4_isRight 15 = .ok (.iload_n 1, 1) := by decide +kernel
theorem dX4_isRight_16 : decode cX4_isRight 16 = .ok (.iload_n 2, 1) := by decide +kernel
theorem dX4_isRight_17 : decode cX4_isRight 17 = .ok (.iconst (-1), 1) := by decide +kernel
theorem dX4_isRight_18 : decode cX4_isRight 18 = .ok (.ixor, 1) := by decide +kernel
theorem dX4_isRight_19 : decode cX4_isRight 19 = .ok (.iand, 1) := by decide +kernel
theorem dX4_isRight_20 : decode cX4_isRight 20 = .ok (.ifCond .eq 5, 3) := by decide +kernel
theorem dX4_isRight_23 : decode cX4_isRight 23 = .ok (.iconst 0, 1) := by decide +kernel
theorem dX4_isRight_24 : decode cX4_isRight 24 = .ok (.ireturn, 1) := by decide +kernel
theorem dX4_isRight_25 : decode cX4_isRight 25 = .ok (.iconst 0, 1) := by decide +kernel
theorem dX4_isRight_26 : decode cX4_isRight 26 = .ok (.istore 4, 2) := by decide +kernel
theorem dX4_isRight_28 : decode cX4_isRight 28 = .ok (.iload 4, 2) := by decide +kernel
theorem dX4_isRight_30 : decode cX4_isRight 30 = .ok (.aload_n 0, 1) := by decide +kernel
theorem dX4_isRight_31 : decode cX4_isRight 31 = .ok (.getfield 11, 3) := by decide +kernel
theorem dX4_isRight_34 : decode cX4_isRight 34 = .ok (.arraylength, 1) := by decide +kernel
theorem dX4_isRight_35 : decode cX4_isRight 35 = .ok (.if_icmp .ge 40, 3) := by decide +kernel
theorem dX4_isRight_38 : decode cX4_isRight 38 = .ok (.iload_n 1, 1) := by decide +kernel
theorem dX4_isRight_39 : decode cX4_isRight 39 = .ok (.iload 4, 2) := by decide +kernel
theorem dX4_isRight_41 : decode cX4_isRight 41 = .ok (.invokestatic 96, 3) := by decide +kernel
theorem dX4_isRight_44 : decode cX4_isRight 44 = .ok (.ifCond .eq 25, 3) := by decide +kernel
theorem dX4_isRight_47 : decode cX4_isRight 47 = .ok (.iload_n 1, 1) := by decide +kernel
theorem dX4_isRight_48 : decode cX4_isRight 48 = .ok (.iconst 1, 1) := by decide +kernel
theorem dX4_isRight_49 : decode cX4_isRight 49 = .ok (.iload 4, 2) := by decide +kernel
theorem dX4_isRight_51 : decode cX4_isRight 51 = .ok (.ishl, 1) := by decide +kernel
theorem dX4_isRight_52 : decode cX4_isRight 52 = .ok (.iconst (-1), 1) := by decide +kernel
theorem dX4_isRight_53 : decode cX4_isRight 53 = .ok (.ixor, 1) := by decide +kernel
theorem dX4_isRight_54 : decode cX4_isRight 54 = .ok (.iand, 1) := by decide +kernel
theorem dX4_isRight_55 : decode cX4_isRight 55 = .ok (.aload_n 0, 1) := by decide +kernel
theorem dX4_isRight_56 : decode cX4_isRight 56 = .ok (.iload 4, 2) := by decide +kernel
theorem dX4_isRight_58 : decode cX4_isRight 58 = .ok (.invokevirtual 367, 3) := by decide +kernel
theorem dX4_isRight_61 : decode cX4_isRight 61 = .ok (.iconst (-1), 1) := by decide +kernel
theorem dX4_isRight_62 : decode cX4_isRight 62 = .ok (.ixor, 1) := by decide +kernel
theorem dX4_isRight_63 : decode cX4_isRight 63 = .ok (.iand, 1) := by decide +kernel
theorem dX4_isRight_64 : decode cX4_isRight 64 = .ok (.ifCond .eq 5, 3) := by decide +kernel
theorem dX4_isRight_67 : decode cX4_isRight 67 = .ok (.iconst 0, 1) := by decide +kernel
theorem dX4_isRight_68 : decode cX4_isRight 68 = .ok (.ireturn, 1) := by decide +kernel
theorem dX4_isRight_69 : decode cX4_isRight 69 = .ok (.iinc 4 1, 3) := by decide +kernel
theorem dX4_isRight_72 : decode cX4_isRight 72 = .ok (.goto (-44), 3) := by decide +kernel
theorem dX4_isRight_75 : decode cX4_isRight 75 = .ok (.iconst 1, 1) := by decide +kernel
theorem dX4_isRight_76 : decode cX4_isRight 76 = .ok (.ireturn, 1) := by decide +kernel
set_option maxRecDepth 20000 in
theorem ggX4_better_X4_gravityOf : GoodIn wsX4_better wsX4_gravityOf := goodIn_r _ [5, 6, 7, 8, 9, 4, 10, 18, 19, 20, 21, 22, 23, 24, 25, 26, 27, 28, 29, 30, 31, 32, 33, 34] (by decide +kernel) (by decide +kernel)
set_option maxRecDepth 20000 in
theorem gX4_better_X4_gravityOf : GoodIn wsX4_better (wsV RX4 196 RX4 yX4_gravityOf wsX4_gravityOf) := goodIn_app (goodIn_of _ (by decide +kernel)) ggX4_better_X4_gravityOf
set_option maxRecDepth 20000 in
theorem ggX4_better_J6_bitCount_0f7a4 : GoodIn wsX4_better wsJ6_bitCount_0f7a4 := goodIn_r _ [14, 15, 16, 17] (by decide +kernel) (by decide +kernel)
set_option maxRecDepth 20000 in
theorem gX4_better_J6_bitCount_0f7a4 : GoodIn wsX4_better (va_wsS RX4 227 yJ6_bitCount_0f7a4 wsJ6_bitCount_0f7a4) := goodIn_app (goodIn_of _ (by decide +kernel)) ggX4_better_J6_bitCount_0f7a4
theorem dX4_better_0 : decode cX4_better 0 = .ok (.aload_n 0, 1) := by decide +kernel
theorem dX4_better_1 : decode cX4_better 1 = .ok (.iload_n 2, 1) := by decide +kernel
theorem dX4_better_2 : decode cX4_better 2 = .ok (.invokevirtual 196, 3) := by decide +kernel
theorem dX4_better_5 : decode cX4_better 5 = .ok (.aload_n 0, 1) := by decide +kernel
theorem dX4_better_6 : decode cX4_better 6 = .ok (.iload_n 1, 1) := by decide +kernel
theorem dX4_better_7 : decode cX4_better 7 = .ok (.invokevirtual 196, 3) := by decide +kernel
theorem dX4_better_10 : decode cX4_better 10 = .ok (.isub, 1) := by decide +kernel
theorem dX4_better_11 : decode cX4_better 11 = .ok (.istore_n 3, 1) := by decide +kernel
theorem dX4_better_12 : decode cX4_better 12 = .ok (.iload_n 3, 1) := by decide +kernel
theorem dX4_better_13 : decode cX4_better 13 = .ok (.ifCond .eq 13, 3) := by decide +kernel
theorem dX4_better_16 : decode cX4_better 16 = .ok (.iload_n 3, 1) := by decide +kernel
theorem dX4_better_17 : decode cX4_better 17 = .ok (.ifCond .le 7, 3) := by decide +kernel
theorem dX4_better_20 : decode cX4_better 20 = .ok (.iload_n 2, 1) := by decide +kernel
theorem dX4_better_21 : decode cX4_better 21 = .ok (.goto 4, 3) := by decide +kernel
theorem dX4_better_24 : decode cX4_better 24 = .ok (.iload_n 1, 1) := by decide +kernel
theorem dX4_better_25 : decode cX4_better 25 = .ok (.ireturn, 1) := by decide +kernel
theorem dX4_better_26 : decode cX4_better 26 = .ok (.iload_n 1, 1) := by decide +kernel
theorem dX4_better_27 : decode cX4_better 27 = .ok (.invokestatic 227, 3) := by decide +kernel
theorem dX4_better_30 : decode cX4_better 30 = .ok (.iload_n 2, 1) := by decide +kernel
theorem dX4_better_31 : decode cX4_better 31 = .ok (.invokestatic 227, 3) := by decide +kernel
theorem dX4_better_34 : decode cX4_better 34 = .ok (.isub, 1) := by decide +kernel
theorem dX4_better_35 : decode cX4_better 35 = .ok (.istore 4, 2) := by decide +kernel
theorem dX4_better_37 : decode cX4_better 37 = .ok (.iload 4, 2) := by decide +kernel
theorem dX4_better_39 : decode cX4_better 39 = .ok (.ifCond .eq 14, 3) := by decide +kernel
theorem dX4_better_42 : decode cX4_better 42 = .ok (.iload 4, 2) := by decide +kernel
theorem dX4_better_44 : decode cX4_better 44 = .ok (.ifCond .le 7, 3) := by decide +kernel
theorem dX4_better_47 : decode cX4_better 47 = .ok (.iload_n 2, 1) := by decide +kernel
theorem dX4_better_48 : decode cX4_better 48 = .ok (.goto 4, 3) := by decide +kernel
theorem dX4_better_51 : decode cX4_better 51 = .ok (.iload_n 1, 1) := by decide +kernel
theorem dX4_better_52 : decode cX4_better 52 = .ok (.ireturn, 1) := by decide +kernel
theorem dX4_better_53 : decode cX4_better 53 = .ok (.iload_n 2, 1) := by decide +kernel
theorem dX4_better_54 : decode cX4_better 54 = .ok (.iload_n 1, 1) := by decide +kernel
theorem dX4_better_55 : decode cX4_better 55 = .ok (.if_icmp .ge 7, 3) := by decide +kernel
theorem dX4_better_58 : decode cX4_better 58 = .ok (.iload_n 2, 1) := by decide +kernel
theorem dX4_better_59 : decode cX4_better 59 = .ok (.goto 4, 3) := by decide +kernel
theorem dX4_better_62 : decode cX4_better 62 = .ok (.iload_n 1, 1) := by decide +kernel
theorem dX4_better_63 : decode cX4_better 63 = .ok (.ireturn, 1) := by decide +kernel
set_option maxRecDepth 20000 in
theorem ggX4_bestByGrowing_X4_hasBit : GoodIn wsX4_bestByGrowing wsX4_hasBit := goodIn_r _ [5] (by decide +kernel) (by decide +kernel)
set_option maxRecDepth 20000 in
theorem gX4_bestByGrowing_X4_hasBit : GoodIn wsX4_bestByGrowing (va_wsS RX4 96 yX4_hasBit wsX4_hasBit) := goodIn_app (goodIn_of _ (by decide +kernel)) ggX4_bestByGrowing_X4_hasBit
set_option maxRecDepth 20000 in
theorem ggX4_bestByGrowing_X4_better : GoodIn wsX4_bestByGrowing wsX4_better := goodIn_r _ [9, 10, 11, 12, 4, 13, 1, 14, 2, 3, 5, 15, 16, 17, 18, 19, 20, 21, 56, 57, 58, 59, 60, 61, 62, 63, 64, 65, 66, 67, 68, 69, 70, 71, 72] (by decide +kernel) (by decide +kernel)
set_option maxRecDepth 20000 in
theorem gX4_bestByGrowing_X4_better : GoodIn wsX4_bestByGrowing (wsV RX4 370 RX4 yX4_better wsX4_better) := goodIn_app (goodIn_of _ (by decide +kernel)) ggX4_bestByGrowing_X4_better
set_option maxRecDepth 20000 in
theorem ggX4_bestByGrowing_X4_matesOf : GoodIn wsX4_bestByGrowing wsX4_matesOf := goodIn_r _ [25, 1, 26, 27, 28, 4, 29, 30, 31, 32, 33, 34, 35, 3, 5, 36, 37, 38, 39, 40, 41, 42, 43, 44, 56, 57, 58, 59, 60, 61, 62, 63, 64, 65, 66, 67, 68, 69, 70, 71, 72] (by decide +kernel) (by decide +kernel)
set_option maxRecDepth 20000 in
theorem gX4_bestByGrowing_X4_matesOf : GoodIn wsX4_bestByGrowing (wsV RX4 367 RX4 yX4_matesOf wsX4_matesOf) := goodIn_app (goodIn_of _ (by decide +kernel)) ggX4_bestByGrowing_X4_matesOf
set_option maxRecDepth 20000 in
theorem ggX4_bestByGrowing_X4_above : GoodIn wsX4_bestByGrowing wsX4_above := goodIn_r _ [47] (by decide +kernel) (by decide +kernel)
set_option maxRecDepth 20000 in
theorem gX4_bestByGrowing_X4_above : GoodIn wsX4_bestByGrowing (va_wsS RX4 373 yX4_above wsX4_above) := goodIn_app (goodIn_of _ (by decide +kernel)) ggX4_bestByGrowing_X4_above
set_option maxRecDepth 20000 in
theorem ggX4_bestByGrowing_X4_bestWithMates : GoodIn wsX4_bestByGrowing wsX4_bestWithMates := goodIn_r _ [51, 1, 2, 3, 4, 5, 6, 7, 8, 9, 10, 11, 12, 13, 14, 15, 16, 17, 18, 19, 20, 21, 22, 23, 24, 25, 26, 27, 28, 29, 30, 31, 32, 33, 34, 35, 36, 37, 38, 39, 40, 41, 42, 43, 44, 45, 46, 47, 52, 53, 54, 55, 56, 57, 58, 59, 60, 61, 62, 63, 64, 65, 66, 67, 68, 69, 70, 71, 72] (by decide +kernel) (by decide +kernel)
set_option maxRecDepth 20000 in
theorem gX4_bestByGrowing_X4_bestWithMates : GoodIn wsX4_bestByGrowing (wsV RX4 376 RX4 yX4_bestWithMates wsX4_bestWithMates) := goodIn_app (goodIn_of _ (by decide +kernel)) ggX4_bestByGrowing_X4_bestWithMates
theorem dX4_bestByGrowing_0 : decode cX4_bestByGrowing 0 = .ok (.iconst 0, 1) := by decide +kernel
theorem dX4_bestByGrowing_1 : decode cX4_bestByGrowing 1 = .ok (.istore_n 2, 1) := by decide +kernel
theorem dX4_bestByGrowing_2 : decode cX4_bestByGrowing 2 = .ok (.iconst 0, 1) := by decide +kernel
theorem dX4_bestByGrowing_3 : decode cX4_bestByGrowing 3 = .ok (.istore_n 3, 1) := by decide +kernel
theorem dX4_bestByGrowing_4 : decode cX4_bestByGrowing 4 = .ok (.iload_n 3, 1) := by decide +kernel
theorem dX4_bestByGrowing_5 : decode cX4_bestByGrowing 5 = .ok (.aload_n 0, 1) := by decide +kernel
theorem dX4_bestByGrowing_6 : decode cX4_bestByGrowing 6 = .ok (.getfield 11, 3) := by decide +kernel
theorem dX4_bestByGrowing_9 : decode cX4_bestByGrowing 9 = .ok (.arraylength, 1) := by decide +kernel
theorem dX4_bestByGrowing_10 : decode cX4_bestByGrowing 10 = .ok (.if_icmp .ge 50, 3) := by decide +kernel
theorem dX4_bestByGrowing_13 : decode cX4_bestByGrowing 13 = .ok (.iload_n 1, 1) := by decide +kernel
theorem dX4_bestByGrowing_14 : decode cX4_bestByGrowing 14 = .ok (.iload_n 3, 1) := by decide +kernel
theorem dX4_bestByGrowing_15 : decode cX4_bestByGrowing 15 = .ok (.invokestatic 96, 3) := by decide +kernel
theorem dX4_bestByGrowing_18 : decode cX4_bestByGrowing 18 = .ok (.ifCond .eq 36, 3) := by decide +kernel
theorem dX4_bestByGrowing_21 : decode cX4_bestByGrowing 21 = .ok (.iconst 1, 1) := by decide +kernel
theorem dX4_bestByGrowing_22 : decode cX4_bestByGrowing 22 = .ok (.iload_n 3, 1) := by decide +kernel
theorem dX4_bestByGrowing_23 : decode cX4_bestByGrowing 23 = .ok (.ishl, 1) := by decide +kernel
theorem dX4_bestByGrowing_24 : decode cX4_bestByGrowing 24 = .ok (.istore 4, 2) := by decide +kernel
theorem dX4_bestByGrowing_26 : decode cX4_bestByGrowing 26 = .ok (.aload_n 0, 1) := by decide +kernel
theorem dX4_bestByGrowing_27 : decode cX4_bestByGrowing 27 = .ok (.iload_n 2, 1) := by decide +kernel
theorem dX4_bestByGrowing_28 : decode cX4_bestByGrowing 28 = .ok (.iload 4, 2) := by decide +kernel
theorem dX4_bestByGrowing_30 : decode cX4_bestByGrowing 30 = .ok (.invokevirtual 370, 3) := by decide +kernel
theorem dX4_bestByGrowing_33 : decode cX4_bestByGrowing 33 = .ok (.istore_n 2, 1) := by decide +kernel
theorem dX4_bestByGrowing_34 : decode cX4_bestByGrowing 34 = .ok (.aload_n 0, 1) := by decide +kernel
theorem dX4_bestByGrowing_35 : decode cX4_bestByGrowing 35 = .ok (.iload_n 2, 1) := by decide +kernel
theorem dX4_bestByGrowing_36 : decode cX4_bestByGrowing 36 = .ok (.iload 4, 2) := by decide +kernel
theorem dX4_bestByGrowing_38 : decode cX4_bestByGrowing 38 = .ok (.iload_n 1, 1) := by decide +kernel
theorem dX4_bestByGrowing_39 : decode cX4_bestByGrowing 39 = .ok (.aload_n 0, 1) := by decide +kernel
theorem dX4_bestByGrowing_40 : decode cX4_bestByGrowing 40 = .ok (.iload_n 3, 1) := by decide +kernel
theorem dX4_bestByGrowing_41 : decode cX4_bestByGrowing 41 = .ok (.invokevirtual 367, 3) := by decide +kernel
theorem dX4_bestByGrowing_44 : decode cX4_bestByGrowing 44 = .ok (.iand, 1) := by decide +kernel
theorem dX4_bestByGrowing_45 : decode cX4_bestByGrowing 45 = .ok (.iload_n 3, 1) := by decide +kernel
theorem dX4_bestByGrowing_46 : decode cX4_bestByGrowing 46 = .ok (.invokestatic 373, 3) := by decide +kernel
theorem dX4_bestByGrowing_49 : decode cX4_bestByGrowing 49 = .ok (.iand, 1) := by decide +kernel
theorem dX4_bestByGrowing_50 : decode cX4_bestByGrowing 50 = .ok (.invokevirtual 376, 3) := by decide +kernel
theorem dX4_bestByGrowing_53 : decode cX4_bestByGrowing 53 = .ok (.istore_n 2, 1) := by decide +kernel
theorem dX4_bestByGrowing_54 : decode cX4_bestByGrowing 54 = .ok (.iinc 3 1, 3) := by decide +kernel
theorem dX4_bestByGrowing_57 : decode cX4_bestByGrowing 57 = .ok (.goto (-53), 3) := by decide +kernel
theorem dX4_bestByGrowing_60 : decode cX4_bestByGrowing 60 = .ok (.iload_n 2, 1) := by decide +kernel
theorem dX4_bestByGrowing_61 : decode cX4_bestByGrowing 61 = .ok (.ireturn, 1) := by decide +kernel
set_option maxRecDepth 20000 in
theorem ggX4_bestWithMates_X4_hasBit : GoodIn wsX4_bestWithMates wsX4_hasBit := goodIn_r _ [5] (by decide +kernel) (by decide +kernel)
set_option maxRecDepth 20000 in
theorem gX4_bestWithMates_X4_hasBit : GoodIn wsX4_bestWithMates (va_wsS RX4 96 yX4_hasBit wsX4_hasBit) := goodIn_app (goodIn_of _ (by decide +kernel)) ggX4_bestWithMates_X4_hasBit
set_option maxRecDepth 20000 in
theorem ggX4_bestWithMates_X4_better : GoodIn wsX4_bestWithMates wsX4_better := goodIn_r _ [9, 10, 11, 12, 4, 13, 1, 14, 2, 3, 5, 15, 16, 17, 18, 19, 20, 21, 52, 53, 54, 55, 56, 57, 58, 59, 60, 61, 62, 63, 64, 65, 66, 67, 68] (by decide +kernel) (by decide +kernel)
set_option maxRecDepth 20000 in
theorem gX4_bestWithMates_X4_better : GoodIn wsX4_bestWithMates (wsV RX4 370 RX4 yX4_better wsX4_better) := goodIn_app (goodIn_of _ (by decide +kernel)) ggX4_bestWithMates_X4_better
set_option maxRecDepth 20000 in
theorem ggX4_bestWithMates_X4_matesOf : GoodIn wsX4_bestWithMates wsX4_matesOf := goodIn_r _ [25, 1, 26, 27, 28, 4, 29, 30, 31, 32, 33, 34, 35, 3, 5, 36, 37, 38, 39, 40, 41, 42, 43, 44, 52, 53, 54, 55, 56, 57, 58, 59, 60, 61, 62, 63, 64, 65, 66, 67, 68] (by decide +kernel) (by decide +kernel)
set_option maxRecDepth 20000 in
theorem gX4_bestWithMates_X4_matesOf : GoodIn wsX4_bestWithMates (wsV RX4 367 RX4 yX4_matesOf wsX4_matesOf) := goodIn_app (goodIn_of _ (by decide +kernel)) ggX4_bestWithMates_X4_matesOf
set_option maxRecDepth 20000 in
theorem ggX4_bestWithMates_X4_above : GoodIn wsX4_bestWithMates wsX4_above := goodIn_r _ [47] (by decide +kernel) (by decide +kernel)
set_option maxRecDepth 20000 in
theorem gX4_bestWithMates_X4_above : GoodIn wsX4_bestWithMates (va_wsS RX4 373 yX4_above wsX4_above) := goodIn_app (goodIn_of _ (by decide +kernel)) ggX4_bestWithMates_X4_above
set_option maxRecDepth 20000 in
theorem ggX4_bestWithMates_X4_bestWithThird : GoodIn wsX4_bestWithMates wsX4_bestWithThird := goodIn_r _ [51, 1, 2, 3, 4, 5, 6, 7, 8, 9, 10, 11, 12, 13, 14, 15, 16, 17, 18, 19, 20, 21, 52, 53, 54, 55, 56, 57, 58, 59, 60, 61, 62, 63, 64, 65, 66, 67, 68] (by decide +kernel) (by decide +kernel)
set_option maxRecDepth 20000 in
theorem gX4_bestWithMates_X4_bestWithThird : GoodIn wsX4_bestWithMates (wsV RX4 380 RX4 yX4_bestWithThird wsX4_bestWithThird) := goodIn_app (goodIn_of _ (by decide +kernel)) ggX4_bestWithMates_X4_bestWithThird
theorem dX4_bestWithMates_0 : decode cX4_bestWithMates 0 = .ok (.iload_n 1, 1) := by decide +kernel
theorem dX4_bestWithMates_1 : decode cX4_bestWithMates 1 = .ok (.istore 4, 2) := by decide +kernel
theorem dX4_bestWithMates_3 : decode cX4_bestWithMates 3 = .ok (.iconst 0, 1) := by decide +kernel
theorem dX4_bestWithMates_4 : decode cX4_bestWithMates 4 = .ok (.istore 5, 2) := by decide +kernel
theorem dX4_bestWithMates_6 : decode cX4_bestWithMates 6 = .ok (.iload 5, 2) := by decide +kernel
theorem dX4_bestWithMates_8 : decode cX4_bestWithMates 8 = .ok (.aload_n 0, 1) := by decide +kernel
theorem dX4_bestWithMates_9 : decode cX4_bestWithMates 9 = .ok (.getfield 11, 3) := by decide +kernel
theorem dX4_bestWithMates_12 : decode cX4_bestWithMates 12 = .ok (.arraylength, 1) := by decide +kernel
theorem dX4_bestWithMates_13 : decode cX4_bestWithMates 13 = .ok (.if_icmp .ge 60, 3) := by decide +kernel
theorem dX4_bestWithMates_16 : decode cX4_bestWithMates 16 = .ok (.iload_n 3, 1) := by decide +kernel
theorem dX4_bestWithMates_17 : decode cX4_bestWithMates 17 = .ok (.iload 5, 2) := by decide +kernel
theorem dX4_bestWithMates_19 : decode cX4_bestWithMates 19 = .ok (.invokestatic 96, 3) := by decide +kernel
theorem dX4_bestWithMates_22 : decode cX4_bestWithMates 22 = .ok (.ifCond .eq 45, 3) := by decide +kernel
theorem dX4_bestWithMates_25 : decode cX4_bestWithMates 25 = .ok (.iload_n 2, 1) := by decide +kernel
theorem dX4_bestWithMates_26 : decode cX4_bestWithMates 26 = .ok (.iconst 1, 1) := by decide +kernel
theorem dX4_bestWithMates_27 : decode cX4_bestWithMates 27 = .ok (.iload 5, 2) := by decide +kernel
theorem dX4_bestWithMates_29 : decode cX4_bestWithMates 29 = .ok (.ishl, 1) := by decide +kernel
theorem dX4_bestWithMates_30 : decode cX4_bestWithMates 30 = .ok (.ior, 1) := by decide +kernel
theorem dX4_bestWithMates_31 : decode cX4_bestWithMates 31 = .ok (.istore 6, 2) := by decide +kernel
theorem dX4_bestWithMates_33 : decode cX4_bestWithMates 33 = .ok (.aload_n 0, 1) := by decide +kernel
theorem dX4_bestWithMates_34 : decode cX4_bestWithMates 34 = .ok (.iload 4, 2) := by decide +kernel
theorem dX4_bestWithMates_36 : decode cX4_bestWithMates 36 = .ok (.iload 6, 2) := by decide +kernel
theorem dX4_bestWithMates_38 : decode cX4_bestWithMates 38 = .ok (.invokevirtual 370, 3) := by decide +kernel
theorem dX4_bestWithMates_41 : decode cX4_bestWithMates 41 = .ok (.istore 4, 2) := by decide +kernel
theorem dX4_bestWithMates_43 : decode cX4_bestWithMates 43 = .ok (.aload_n 0, 1) := by decide +kernel
theorem dX4_bestWithMates_44 : decode cX4_bestWithMates 44 = .ok (.iload 4, 2) := by decide +kernel
theorem dX4_bestWithMates_46 : decode cX4_bestWithMates 46 = .ok (.iload 6, 2) := by decide +kernel
theorem dX4_bestWithMates_48 : decode cX4_bestWithMates 48 = .ok (.iload_n 3, 1) := by decide +kernel
theorem dX4_bestWithMates_49 : decode cX4_bestWithMates 49 = .ok (.aload_n 0, 1) := by decide +kernel
theorem dX4_bestWithMates_50 : decode cX4_bestWithMates 50 = .ok (.iload 5, 2) := by decide +kernel
theorem dX4_bestWithMates_52 : decode cX4_bestWithMates 52 = .ok (.invokevirtual 367, 3) := by decide +kernel
theorem dX4_bestWithMates_55 : decode cX4_bestWithMates 55 = .ok (.iand, 1) := by decide +kernel
theorem dX4_bestWithMates_56 : decode cX4_bestWithMates 56 = .ok (.iload 5, 2) := by decide +kernel
theorem dX4_bestWithMates_58 : decode cX4_bestWithMates 58 = .ok (.invokestatic 373, 3) := by decide +kernel
theorem dX4_bestWithMates_61 : decode cX4_bestWithMates 61 = .ok (.iand, 1) := by decide +kernel
theorem dX4_bestWithMates_62 : decode cX4_bestWithMates 62 = .ok (.invokevirtual 380, 3) := by decide +kernel
theorem dX4_bestWithMates_65 : decode cX4_bestWithMates 65 = .ok (.istore 4, 2) := by decide +kernel
theorem dX4_bestWithMates_67 : decode cX4_bestWithMates 67 = .ok (.iinc 5 1, 3) := by decide +kernel
theorem dX4_bestWithMates_70 : decode cX4_bestWithMates 70 = .ok (.goto (-64), 3) := by decide +kernel
theorem dX4_bestWithMates_73 : decode cX4_bestWithMates 73 = .ok (.iload 4, 2) := by decide +kernel
theorem dX4_bestWithMates_75 : decode cX4_bestWithMates 75 = .ok (.ireturn, 1) := by decide +kernel
set_option maxRecDepth 20000 in
theorem ggX4_bestWithThird_X4_hasBit : GoodIn wsX4_bestWithThird wsX4_hasBit := goodIn_r _ [5] (by decide +kernel) (by decide +kernel)
set_option maxRecDepth 20000 in
theorem gX4_bestWithThird_X4_hasBit : GoodIn wsX4_bestWithThird (va_wsS RX4 96 yX4_hasBit wsX4_hasBit) := goodIn_app (goodIn_of _ (by decide +kernel)) ggX4_bestWithThird_X4_hasBit
set_option maxRecDepth 20000 in
theorem ggX4_bestWithThird_X4_better : GoodIn wsX4_bestWithThird wsX4_better := goodIn_r _ [9, 10, 11, 12, 4, 13, 1, 14, 2, 3, 5, 15, 16, 17, 18, 19, 20, 21, 22, 23, 24, 25, 26, 27, 28, 29, 30, 31, 32, 33, 34, 35, 36, 37, 38] (by decide +kernel) (by decide +kernel)
set_option maxRecDepth 20000 in
theorem gX4_bestWithThird_X4_better : GoodIn wsX4_bestWithThird (wsV RX4 370 RX4 yX4_better wsX4_better) := goodIn_app (goodIn_of _ (by decide +kernel)) ggX4_bestWithThird_X4_better
theorem dX4_bestWithThird_0 : decode cX4_bestWithThird 0 = .ok (.iload_n 1, 1) := by decide +kernel
theorem dX4_bestWithThird_1 : decode cX4_bestWithThird 1 = .ok (.istore 4, 2) := by decide +kernel
theorem dX4_bestWithThird_3 : decode cX4_bestWithThird 3 = .ok (.iconst 0, 1) := by decide +kernel
theorem dX4_bestWithThird_4 : decode cX4_bestWithThird 4 = .ok (.istore 5, 2) := by decide +kernel
theorem dX4_bestWithThird_6 : decode cX4_bestWithThird 6 = .ok (.iload 5, 2) := by decide +kernel
theorem dX4_bestWithThird_8 : decode cX4_bestWithThird 8 = .ok (.aload_n 0, 1) := by decide +kernel
theorem dX4_bestWithThird_9 : decode cX4_bestWithThird 9 = .ok (.getfield 11, 3) := by decide +kernel
theorem dX4_bestWithThird_12 : decode cX4_bestWithThird 12 = .ok (.arraylength, 1) := by decide +kernel
theorem dX4_bestWithThird_13 : decode cX4_bestWithThird 13 = .ok (.if_icmp .ge 32, 3) := by decide +kernel
theorem dX4_bestWithThird_16 : decode cX4_bestWithThird 16 = .ok (.iload_n 3, 1) := by decide +kernel
theorem dX4_bestWithThird_17 : decode cX4_bestWithThird 17 = .ok (.iload 5, 2) := by decide +kernel
theorem dX4_bestWithThird_19 : decode cX4_bestWithThird 19 = .ok (.invokestatic 96, 3) := by decide +kernel
theorem dX4_bestWithThird_22 : decode cX4_bestWithThird 22 = .ok (.ifCond .eq 17, 3) := by decide +kernel
theorem dX4_bestWithThird_25 : decode cX4_bestWithThird 25 = .ok (.aload_n 0, 1) := by decide +kernel
theorem dX4_bestWithThird_26 : decode cX4_bestWithThird 26 = .ok (.iload 4, 2) := by decide +kernel
theorem dX4_bestWithThird_28 : decode cX4_bestWithThird 28 = .ok (.iload_n 2, 1) := by decide +kernel
theorem dX4_bestWithThird_29 : decode cX4_bestWithThird 29 = .ok (.iconst 1, 1) := by decide +kernel
theorem dX4_bestWithThird_30 : decode cX4_bestWithThird 30 = .ok (.iload 5, 2) := by decide +kernel
theorem dX4_bestWithThird_32 : decode cX4_bestWithThird 32 = .ok (.ishl, 1) := by decide +kernel
theorem dX4_bestWithThird_33 : decode cX4_bestWithThird 33 = .ok (.ior, 1) := by decide +kernel
theorem dX4_bestWithThird_34 : decode cX4_bestWithThird 34 = .ok (.invokevirtual 370, 3) := by decide +kernel
theorem dX4_bestWithThird_37 : decode cX4_bestWithThird 37 = .ok (.istore 4, 2) := by decide +kernel
theorem dX4_bestWithThird_39 : decode cX4_bestWithThird 39 = .ok (.iinc 5 1, 3) := by decide +kernel
theorem dX4_bestWithThird_42 : decode cX4_bestWithThird 42 = .ok (.goto (-36), 3) := by decide +kernel
theorem dX4_bestWithThird_45 : decode cX4_bestWithThird 45 = .ok (.iload 4, 2) := by decide +kernel
theorem dX4_bestWithThird_47 : decode cX4_bestWithThird 47 = .ok (.ireturn, 1) := by decide +kernel
set_option maxRecDepth 20000 in
theorem ggX4_bestOfAllSets_X4_isRight : GoodIn wsX4_bestOfAllSets wsX4_isRight := goodIn_r _ [5, 6, 7, 8, 9, 10, 11, 12, 13, 14, 15, 4, 16, 17, 18, 19, 20, 21, 22, 23, 24, 25, 26, 27, 28, 29, 30, 31, 32, 33, 34, 35, 36, 37, 38, 39, 49, 50, 51, 52, 53, 54, 55, 56, 57, 58, 59, 60, 61, 62, 63, 64, 65] (by decide +kernel) (by decide +kernel)
set_option maxRecDepth 20000 in
theorem gX4_bestOfAllSets_X4_isRight : GoodIn wsX4_bestOfAllSets (wsV RX4 185 RX4 yX4_isRight wsX4_isRight) := goodIn_app (goodIn_of _ (by decide +kernel)) ggX4_bestOfAllSets_X4_isRight
set_option maxRecDepth 20000 in
theorem ggX4_bestOfAllSets_X4_better : GoodIn wsX4_bestOfAllSets wsX4_better := goodIn_r _ [43, 44, 45, 46, 4, 47, 6, 48, 14, 15, 16, 7, 8, 9, 10, 11, 12, 13, 49, 50, 51, 52, 53, 54, 55, 56, 57, 58, 59, 60, 61, 62, 63, 64, 65] (by decide +kernel) (by decide +kernel)
set_option maxRecDepth 20000 in
theorem gX4_bestOfAllSets_X4_better : GoodIn wsX4_bestOfAllSets (wsV RX4 370 RX4 yX4_better wsX4_better) := goodIn_app (goodIn_of _ (by decide +kernel)) ggX4_bestOfAllSets_X4_better
theorem dX4_bestOfAllSets_0 : decode cX4_bestOfAllSets 0 = .ok (.iconst 0, 1) := by decide +kernel
theorem dX4_bestOfAllSets_1 : decode cX4_bestOfAllSets 1 = .ok (.istore_n 2, 1) := by decide +kernel
theorem dX4_bestOfAllSets_2 : decode cX4_bestOfAllSets 2 = .ok (.iconst 1, 1) := by decide +kernel
theorem dX4_bestOfAllSets_3 : decode cX4_bestOfAllSets 3 = .ok (.istore_n 3, 1) := by decide +kernel
theorem dX4_bestOfAllSets_4 : decode cX4_bestOfAllSets 4 = .ok (.iload_n 3, 1) := by decide +kernel
theorem dX4_bestOfAllSets_5 : decode cX4_bestOfAllSets 5 = .ok (.sipush 256, 3) := by decide +kernel
theorem dX4_bestOfAllSets_8 : decode cX4_bestOfAllSets 8 = .ok (.if_icmp .ge 25, 3) := by decide +kernel
theorem dX4_bestOfAllSets_11 : decode cX4_bestOfAllSets 11 = .ok (.aload_n 0, 1) := by decide +kernel
theorem dX4_bestOfAllSets_12 : decode cX4_bestOfAllSets 12 = .ok (.iload_n 3, 1) := by decide +kernel
theorem dX4_bestOfAllSets_13 : decode cX4_bestOfAllSets 13 = .ok (.iload_n 1, 1) := by decide +kernel
theorem dX4_bestOfAllSets_14 : decode cX4_bestOfAllSets 14 = .ok (.invokevirtual 185, 3) := by decide +kernel
theorem dX4_bestOfAllSets_17 : decode cX4_bestOfAllSets 17 = .ok (.ifCond .eq 10, 3) := by decide +kernel
theorem dX4_bestOfAllSets_20 : decode cX4_bestOfAllSets 20 = .ok (.aload_n 0, 1) := by decide +kernel
theorem dX4_bestOfAllSets_21 : decode cX4_bestOfAllSets 21 = .ok (.iload_n 2, 1) := by decide +kernel
theorem dX4_bestOfAllSets_22 : decode cX4_bestOfAllSets 22 = .ok (.iload_n 3, 1) := by decide +kernel
theorem dX4_bestOfAllSets_23 : decode cX4_bestOfAllSets 23 = .ok (.invokevirtual 370, 3) := by decide +kernel
theorem dX4_bestOfAllSets_26 : decode cX4_bestOfAllSets 26 = .ok (.istore_n 2, 1) := by decide +kernel
theorem dX4_bestOfAllSets_27 : decode cX4_bestOfAllSets 27 = .ok (.iinc 3 1, 3) := by decide +kernel
theorem dX4_bestOfAllSets_30 : decode cX4_bestOfAllSets 30 = .ok (.goto (-26), 3) := by decide +kernel
theorem dX4_bestOfAllSets_33 : decode cX4_bestOfAllSets 33 = .ok (.iload_n 2, 1) := by decide +kernel
theorem dX4_bestOfAllSets_34 : decode cX4_bestOfAllSets 34 = .ok (.ireturn, 1) := by decide +kernel
set_option maxRecDepth 20000 in
theorem ggX4_lackedBy_X2_isLackedBy : GoodIn wsX4_lackedBy wsX2_isLackedBy := goodIn_r _ [7, 8, 9, 10, 11, 12, 6, 13, 14, 15, 16, 17, 18, 19, 20, 21, 22, 36, 37, 38, 39, 40, 41, 42, 43, 44, 45] (by decide +kernel) (by decide +kernel)
set_option maxRecDepth 20000 in
theorem gX4_lackedBy_X2_isLackedBy : GoodIn wsX4_lackedBy (wsV RX4 383 RX2 yX2_isLackedBy wsX2_isLackedBy) := goodIn_app (goodIn_of _ (by decide +kernel)) ggX4_lackedBy_X2_isLackedBy
theorem dX4_lackedBy_0 : decode cX4_lackedBy 0 = .ok (.iconst 0, 1) := by decide +kernel
theorem dX4_lackedBy_1 : decode cX4_lackedBy 1 = .ok (.istore_n 3, 1) := by decide +kernel
theorem dX4_lackedBy_2 : decode cX4_lackedBy 2 = .ok (.aload_n 0, 1) := by decide +kernel
theorem dX4_lackedBy_3 : decode cX4_lackedBy 3 = .ok (.getfield 23, 3) := by decide +kernel
theorem dX4_lackedBy_6 : decode cX4_lackedBy 6 = .ok (.astore 4, 2) := by decide +kernel
theorem dX4_lackedBy_8 : decode cX4_lackedBy 8 = .ok (.aload 4, 2) := by decide +kernel
theorem dX4_lackedBy_10 : decode cX4_lackedBy 10 = .ok (.arraylength, 1) := by decide +kernel
theorem dX4_lackedBy_11 : decode cX4_lackedBy 11 = .ok (.istore 5, 2) := by decide +kernel
theorem dX4_lackedBy_13 : decode cX4_lackedBy 13 = .ok (.iconst 0, 1) := by decide +kernel
theorem dX4_lackedBy_14 : decode cX4_lackedBy 14 = .ok (.istore 6, 2) := by decide +kernel
theorem dX4_lackedBy_16 : decode cX4_lackedBy 16 = .ok (.iload 6, 2) := by decide +kernel
theorem dX4_lackedBy_18 : decode cX4_lackedBy 18 = .ok (.iload 5, 2) := by decide +kernel
theorem dX4_lackedBy_20 : decode cX4_lackedBy 20 = .ok (.if_icmp .ge 42, 3) := by decide +kernel
theorem dX4_lackedBy_23 : decode cX4_lackedBy 23 = .ok (.aload 4, 2) := by decide +kernel
theorem dX4_lackedBy_25 : decode cX4_lackedBy 25 = .ok (.iload 6, 2) := by decide +kernel
theorem dX4_lackedBy_27 : decode cX4_lackedBy 27 = .ok (.aaload, 1) := by decide +kernel
theorem dX4_lackedBy_28 : decode cX4_lackedBy 28 = .ok (.astore 7, 2) := by decide +kernel
theorem dX4_lackedBy_30 : decode cX4_lackedBy 30 = .ok (.aload 7, 2) := by decide +kernel
theorem dX4_lackedBy_32 : decode cX4_lackedBy 32 = .ok (.ifnull 24, 3) := by decide +kernel
theorem dX4_lackedBy_35 : decode cX4_lackedBy 35 = .ok (.aload 7, 2) := by decide +kernel
theorem dX4_lackedBy_37 : decode cX4_lackedBy 37 = .ok (.getfield 154, 3) := by decide +kernel
theorem dX4_lackedBy_40 : decode cX4_lackedBy 40 = .ok (.iload_n 1, 1) := by decide +kernel
theorem dX4_lackedBy_41 : decode cX4_lackedBy 41 = .ok (.if_icmp .ne 15, 3) := by decide +kernel
theorem dX4_lackedBy_44 : decode cX4_lackedBy 44 = .ok (.aload 7, 2) := by decide +kernel
theorem dX4_lackedBy_46 : decode cX4_lackedBy 46 = .ok (.iload_n 2, 1) := by decide +kernel
theorem dX4_lackedBy_47 : decode cX4_lackedBy 47 = .ok (.invokevirtual 383, 3) := by decide +kernel
theorem dX4_lackedBy_50 : decode cX4_lackedBy 50 = .ok (.ifCond .eq 6, 3) := by decide +kernel
theorem dX4_lackedBy_53 : decode cX4_lackedBy 53 = .ok (.iinc 3 1, 3) := by decide +kernel
theorem dX4_lackedBy_56 : decode cX4_lackedBy 56 = .ok (.iinc 6 1, 3) := by decide +kernel
theorem dX4_lackedBy_59 : decode cX4_lackedBy 59 = .ok (.goto (-43), 3) := by decide +kernel
theorem dX4_lackedBy_62 : decode cX4_lackedBy 62 = .ok (.iload_n 3, 1) := by decide +kernel
theorem dX4_lackedBy_63 : decode cX4_lackedBy 63 = .ok (.ireturn, 1) := by decide +kernel
theorem dX4_discountAfter_0 : decode cX4_discountAfter 0 = .ok (.iload_n 0, 1) := by decide +kernel
theorem dX4_discountAfter_1 : decode cX4_discountAfter 1 = .ok (.bipush 10, 2) := by decide +kernel
theorem dX4_discountAfter_3 : decode cX4_discountAfter 3 = .ok (.if_icmp .gt 6, 3) := by decide +kernel
theorem dX4_discountAfter_6 : decode cX4_discountAfter 6 = .ok (.bipush 33, 2) := by decide +kernel
theorem dX4_discountAfter_8 : decode cX4_discountAfter 8 = .ok (.ireturn, 1) := by decide +kernel
theorem dX4_discountAfter_9 : decode cX4_discountAfter 9 = .ok (.iload_n 0, 1) := by decide +kernel
theorem dX4_discountAfter_10 : decode cX4_discountAfter 10 = .ok (.bipush 30, 2) := by decide +kernel
theorem dX4_discountAfter_12 : decode cX4_discountAfter 12 = .ok (.if_icmp .gt 8, 3) := by decide +kernel
theorem dX4_discountAfter_15 : decode cX4_discountAfter 15 = .ok (.bipush 25, 2) := by decide +kernel
theorem dX4_discountAfter_17 : decode cX4_discountAfter 17 = .ok (.goto 5, 3) := by decide +kernel
theorem dX4_discountAfter_20 : decode cX4_discountAfter 20 = .ok (.bipush 10, 2) := by decide +kernel
theorem dX4_discountAfter_22 : decode cX4_discountAfter 22 = .ok (.ireturn, 1) := by decide +kernel
theorem dJ6_bitCount_0f7a4_0 : decode cJ6_bitCount_0f7a4 0 = .ok (.iload_n 0, 1) := by decide +kernel
theorem dJ6_bitCount_0f7a4_1 : decode cJ6_bitCount_0f7a4 1 = .ok (.iload_n 0, 1) := by decide +kernel
theorem dJ6_bitCount_0f7a4_2 : decode cJ6_bitCount_0f7a4 2 = .ok (.iconst 1, 1) := by decide +kernel
theorem dJ6_bitCount_0f7a4_3 : decode cJ6_bitCount_0f7a4 3 = .ok (.iushr, 1) := by decide +kernel
theorem dJ6_bitCount_0f7a4_4 : decode cJ6_bitCount_0f7a4 4 = .ok (.ldc_w 265, 3) := by decide +kernel
theorem dJ6_bitCount_0f7a4_7 : decode cJ6_bitCount_0f7a4 7 = .ok (.iand, 1) := by decide +kernel
theorem dJ6_bitCount_0f7a4_8 : decode cJ6_bitCount_0f7a4 8 = .ok (.isub, 1) := by decide +kernel
theorem dJ6_bitCount_0f7a4_9 : decode cJ6_bitCount_0f7a4 9 = .ok (.istore_n 0, 1) := by decide +kernel
theorem dJ6_bitCount_0f7a4_10 : decode cJ6_bitCount_0f7a4 10 = .ok (.iload_n 0, 1) := by decide +kernel
theorem dJ6_bitCount_0f7a4_11 : decode cJ6_bitCount_0f7a4 11 = .ok (.ldc_w 266, 3) := by decide +kernel
theorem dJ6_bitCount_0f7a4_14 : decode cJ6_bitCount_0f7a4 14 = .ok (.iand, 1) := by decide +kernel
theorem dJ6_bitCount_0f7a4_15 : decode cJ6_bitCount_0f7a4 15 = .ok (.iload_n 0, 1) := by decide +kernel
theorem dJ6_bitCount_0f7a4_16 : decode cJ6_bitCount_0f7a4 16 = .ok (.iconst 2, 1) := by decide +kernel
theorem dJ6_bitCount_0f7a4_17 : decode cJ6_bitCount_0f7a4 17 = .ok (.iushr, 1) := by decide +kernel
theorem dJ6_bitCount_0f7a4_18 : decode cJ6_bitCount_0f7a4 18 = .ok (.ldc_w 266, 3) := by decide +kernel
theorem dJ6_bitCount_0f7a4_21 : decode cJ6_bitCount_0f7a4 21 = .ok (.iand, 1) := by decide +kernel
theorem dJ6_bitCount_0f7a4_22 : decode cJ6_bitCount_0f7a4 22 = .ok (.iadd, 1) := by decide +kernel
theorem dJ6_bitCount_0f7a4_23 : decode cJ6_bitCount_0f7a4 23 = .ok (.istore_n 0, 1) := by decide +kernel
theorem dJ6_bitCount_0f7a4_24 : decode cJ6_bitCount_0f7a4 24 = .ok (.iload_n 0, 1) := by decide +kernel
theorem dJ6_bitCount_0f7a4_25 : decode cJ6_bitCount_0f7a4 25 = .ok (.iload_n 0, 1) := by decide +kernel
theorem dJ6_bitCount_0f7a4_26 : decode cJ6_bitCount_0f7a4 26 = .ok (.iconst 4, 1) := by decide +kernel
theorem dJ6_bitCount_0f7a4_27 : decode cJ6_bitCount_0f7a4 27 = .ok (.iushr, 1) := by decide +kernel
theorem dJ6_bitCount_0f7a4_28 : decode cJ6_bitCount_0f7a4 28 = .ok (.iadd, 1) := by decide +kernel
theorem dJ6_bitCount_0f7a4_29 : decode cJ6_bitCount_0f7a4 29 = .ok (.ldc_w 267, 3) := by decide +kernel
theorem dJ6_bitCount_0f7a4_32 : decode cJ6_bitCount_0f7a4 32 = .ok (.iand, 1) := by decide +kernel
theorem dJ6_bitCount_0f7a4_33 : decode cJ6_bitCount_0f7a4 33 = .ok (.istore_n 0, 1) := by decide +kernel
theorem dJ6_bitCount_0f7a4_34 : decode cJ6_bitCount_0f7a4 34 = .ok (.iload_n 0, 1) := by decide +kernel
theorem dJ6_bitCount_0f7a4_35 : decode cJ6_bitCount_0f7a4 35 = .ok (.iload_n 0, 1) := by decide +kernel
theorem dJ6_bitCount_0f7a4_36 : decode cJ6_bitCount_0f7a4 36 = .ok (.bipush 8, 2) := by decide +kernel
theorem dJ6_bitCount_0f7a4_38 : decode cJ6_bitCount_0f7a4 38 = .ok (.iushr, 1) := by decide +kernel
theorem dJ6_bitCount_0f7a4_39 : decode cJ6_bitCount_0f7a4 39 = .ok (.iadd, 1) := by decide +kernel
theorem dJ6_bitCount_0f7a4_40 : decode cJ6_bitCount_0f7a4 40 = .ok (.istore_n 0, 1) := by decide +kernel
theorem dJ6_bitCount_0f7a4_41 : decode cJ6_bitCount_0f7a4 41 = .ok (.iload_n 0, 1) := by decide +kernel
theorem dJ6_bitCount_0f7a4_42 : decode cJ6_bitCount_0f7a4 42 = .ok (.iload_n 0, 1) := by decide +kernel
theorem dJ6_bitCount_0f7a4_43 : decode cJ6_bitCount_0f7a4 43 = .ok (.bipush 16, 2) := by decide +kernel
theorem dJ6_bitCount_0f7a4_45 : decode cJ6_bitCount_0f7a4 45 = .ok (.iushr, 1) := by decide +kernel
theorem dJ6_bitCount_0f7a4_46 : decode cJ6_bitCount_0f7a4 46 = .ok (.iadd, 1) := by decide +kernel
theorem dJ6_bitCount_0f7a4_47 : decode cJ6_bitCount_0f7a4 47 = .ok (.istore_n 0, 1) := by decide +kernel
theorem dJ6_bitCount_0f7a4_48 : decode cJ6_bitCount_0f7a4 48 = .ok (.iload_n 0, 1) := by decide +kernel
theorem dJ6_bitCount_0f7a4_49 : decode cJ6_bitCount_0f7a4 49 = .ok (.bipush 63, 2) := by decide +kernel
theorem dJ6_bitCount_0f7a4_51 : decode cJ6_bitCount_0f7a4 51 = .ok (.iand, 1) := by decide +kernel
theorem dJ6_bitCount_0f7a4_52 : decode cJ6_bitCount_0f7a4 52 = .ok (.ireturn, 1) := by decide +kernel
theorem dJ9_min_7cf53_0 : decode cJ9_min_7cf53 0 = .ok (.iload_n 0, 1) := by decide +kernel
theorem dJ9_min_7cf53_1 : decode cJ9_min_7cf53 1 = .ok (.iload_n 1, 1) := by decide +kernel
theorem dJ9_min_7cf53_2 : decode cJ9_min_7cf53 2 = .ok (.if_icmp .gt 7, 3) := by decide +kernel
theorem dJ9_min_7cf53_5 : decode cJ9_min_7cf53 5 = .ok (.iload_n 0, 1) := by decide +kernel
theorem dJ9_min_7cf53_6 : decode cJ9_min_7cf53 6 = .ok (.goto 4, 3) := by decide +kernel
theorem dJ9_min_7cf53_9 : decode cJ9_min_7cf53 9 = .ok (.iload_n 1, 1) := by decide +kernel
theorem dJ9_min_7cf53_10 : decode cJ9_min_7cf53 10 = .ok (.ireturn, 1) := by decide +kernel
set_option maxRecDepth 20000 in
theorem ggL_offence_X4_offence : GoodIn wsL_offence wsX4_offence := goodIn_ca (goodIn_ca (goodIn_r _ [8, 9, 10, 11, 12, 13, 14, 15, 16, 17, 18, 19, 7, 20, 21, 22, 23, 24, 25, 26, 27, 28, 29, 30, 31, 32, 33, 34, 35, 36, 37, 38, 39, 40, 41, 42, 43, 44, 45, 46] (by decide +kernel) (by decide +kernel)) (goodIn_sub (fun _ h => List.mem_cons_of_mem _ (List.mem_append_left _ (List.mem_append_right _ h))) (by decide +kernel))) (goodIn_sub (fun _ h => List.mem_cons_of_mem _ (List.mem_append_right _ h)) (by decide +kernel))
set_option maxRecDepth 20000 in
theorem gL_offence_X4_offence : GoodIn wsL_offence (wsV RL 7 RX4 yX4_offence wsX4_offence) := goodIn_app (goodIn_of _ (by decide +kernel)) ggL_offence_X4_offence
