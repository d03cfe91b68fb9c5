theorem dL_offence_0 : decode cL_offence 0 = .ok (.aload 4, 2) := by decide +kernel
theorem dL_offence_2 : decode cL_offence 2 = .ok (.iconst 0, 1) := by decide +kernel
theorem dL_offence_3 : decode cL_offence 3 = .ok (.aload_n 0, 1) := by decide +kernel
theorem dL_offence_4 : decode cL_offence 4 = .ok (.iload_n 1, 1) := by decide +kernel
theorem dL_offence_5 : decode cL_offence 5 = .ok (.iload_n 2, 1) := by decide +kernel
theorem dL_offence_6 : decode cL_offence 6 = .ok (.iload_n 3, 1) := by decide +kernel
theorem dL_offence_7 : decode cL_offence 7 = .ok (.invokevirtual 7, 3) := by decide +kernel
theorem dL_offence_10 : decode cL_offence 10 = .ok (.i2l, 1) := by decide +kernel
theorem dL_offence_11 : decode cL_offence 11 = .ok (.lastore, 1) := by decide +kernel
theorem dL_offence_12 : decode cL_offence 12 = .ok (.goto 11, 3) := by decide +kernel
theorem dL_offence_15 : decode cL_offence 15 = .ok (.astore 5, 2) := by decide +kernel
theorem dL_offence_17 : decode cL_offence 17 = .ok (.iconst 1, 1) := by decide +kernel
theorem dL_offence_18 : decode cL_offence 18 = .ok (.ireturn, 1) := by decide +kernel
theorem dL_offence_19 : decode cL_offence 19 = .ok (.astore 5, 2) := by decide +kernel
theorem dL_offence_21 : decode cL_offence 21 = .ok (.iconst 2, 1) := by decide +kernel
theorem dL_offence_22 : decode cL_offence 22 = .ok (.ireturn, 1) := by decide +kernel
theorem dL_offence_23 : decode cL_offence 23 = .ok (.iconst 0, 1) := by decide +kernel
theorem dL_offence_24 : decode cL_offence 24 = .ok (.ireturn, 1) := by decide +kernel
set_option maxRecDepth 20000 in
theorem ggL_exclude_X4_exclude : GoodIn wsL_exclude wsX4_exclude := goodIn_ca (goodIn_ca (goodIn_r _ [6, 7, 8, 9, 10, 11, 12, 13, 14, 5, 15, 16, 17, 18, 19, 20, 21, 22, 23, 24, 25, 26, 27, 28, 29, 30, 31, 32, 33, 34, 35, 36, 37, 38, 39, 40, 41] (by decide +kernel) (by decide +kernel)) (goodIn_sub (fun _ h => List.mem_cons_of_mem _ (List.mem_append_left _ (List.mem_append_right _ h))) (by decide +kernel))) (goodIn_sub (fun _ h => List.mem_cons_of_mem _ (List.mem_append_right _ h)) (by decide +kernel))
set_option maxRecDepth 20000 in
theorem gL_exclude_X4_exclude : GoodIn wsL_exclude (wsV RL 17 RX4 yX4_exclude wsX4_exclude) := goodIn_app (goodIn_of _ (by decide +kernel)) ggL_exclude_X4_exclude
theorem dL_exclude_0 : decode cL_exclude 0 = .ok (.aload_n 3, 1) := by decide +kernel
theorem dL_exclude_1 : decode cL_exclude 1 = .ok (.iconst 0, 1) := by decide +kernel
theorem dL_exclude_2 : decode cL_exclude 2 = .ok (.aload_n 0, 1) := by decide +kernel
theorem dL_exclude_3 : decode cL_exclude 3 = .ok (.iload_n 1, 1) := by decide +kernel
theorem dL_exclude_4 : decode cL_exclude 4 = .ok (.iload_n 2, 1) := by decide +kernel
theorem dL_exclude_5 : decode cL_exclude 5 = .ok (.invokevirtual 17, 3) := by decide +kernel
theorem dL_exclude_8 : decode cL_exclude 8 = .ok (.ifCond .eq 7, 3) := by decide +kernel
theorem dL_exclude_11 : decode cL_exclude 11 = .ok (.lconst 1, 1) := by decide +kernel
theorem dL_exclude_12 : decode cL_exclude 12 = .ok (.goto 4, 3) := by decide +kernel
theorem dL_exclude_15 : decode cL_exclude 15 = .ok (.lconst 0, 1) := by decide +kernel
theorem dL_exclude_16 : decode cL_exclude 16 = .ok (.lastore, 1) := by decide +kernel
theorem dL_exclude_17 : decode cL_exclude 17 = .ok (.goto 11, 3) := by decide +kernel
theorem dL_exclude_20 : decode cL_exclude 20 = .ok (.astore 4, 2) := by decide +kernel
theorem dL_exclude_22 : decode cL_exclude 22 = .ok (.iconst 1, 1) := by decide +kernel
theorem dL_exclude_23 : decode cL_exclude 23 = .ok (.ireturn, 1) := by decide +kernel
theorem dL_exclude_24 : decode cL_exclude 24 = .ok (.astore 4, 2) := by decide +kernel
theorem dL_exclude_26 : decode cL_exclude 26 = .ok (.iconst 2, 1) := by decide +kernel
theorem dL_exclude_27 : decode cL_exclude 27 = .ok (.ireturn, 1) := by decide +kernel
theorem dL_exclude_28 : decode cL_exclude 28 = .ok (.iconst 0, 1) := by decide +kernel
theorem dL_exclude_29 : decode cL_exclude 29 = .ok (.ireturn, 1) := by decide +kernel
set_option maxRecDepth 20000 in
theorem ggL_pass_X4_pass : GoodIn wsL_pass wsX4_pass := goodIn_ca (goodIn_ca (goodIn_r _ [6, 7, 8, 9, 10, 11, 12, 13, 14, 15, 5, 16, 17, 18, 19, 20, 21, 22, 23, 24, 25, 26, 27, 28, 29, 30, 31, 32, 33, 34, 35, 36, 37, 38, 39, 40, 41, 42, 43, 44, 45, 46, 47, 48, 49, 50, 51, 52, 53, 54, 55, 56, 57, 58, 59, 60, 61, 62, 63, 64, 65, 66, 67, 68, 69, 70, 71, 72, 73, 74, 75, 76, 77, 78, 79] (by decide +kernel) (by decide +kernel)) (goodIn_sub (fun _ h => List.mem_cons_of_mem _ (List.mem_append_left _ (List.mem_append_right _ h))) (by decide +kernel))) (goodIn_sub (fun _ h => List.mem_cons_of_mem _ (List.mem_append_right _ h)) (by decide +kernel))
set_option maxRecDepth 20000 in
theorem gL_pass_X4_pass : GoodIn wsL_pass (wsV RL 23 RX4 yX4_pass wsX4_pass) := goodIn_app (goodIn_of _ (by decide +kernel)) ggL_pass_X4_pass
theorem dL_pass_0 : decode cL_pass 0 = .ok (.aload_n 2, 1) := by decide +kernel
theorem dL_pass_1 : decode cL_pass 1 = .ok (.iconst 0, 1) := by decide +kernel
theorem dL_pass_2 : decode cL_pass 2 = .ok (.aload_n 0, 1) := by decide +kernel
theorem dL_pass_3 : decode cL_pass 3 = .ok (.iload_n 1, 1) := by decide +kernel
theorem dL_pass_4 : decode cL_pass 4 = .ok (.invokevirtual 23, 3) := by decide +kernel
theorem dL_pass_7 : decode cL_pass 7 = .ok (.i2l, 1) := by decide +kernel
theorem dL_pass_8 : decode cL_pass 8 = .ok (.lastore, 1) := by decide +kernel
theorem dL_pass_9 : decode cL_pass 9 = .ok (.goto 9, 3) := by decide +kernel
theorem dL_pass_12 : decode cL_pass 12 = .ok (.astore_n 3, 1) := by decide +kernel
theorem dL_pass_13 : decode cL_pass 13 = .ok (.iconst 1, 1) := by decide +kernel
theorem dL_pass_14 : decode cL_pass 14 = .ok (.ireturn, 1) := by decide +kernel
theorem dL_pass_15 : decode cL_pass 15 = .ok (.astore_n 3, 1) := by decide +kernel
theorem dL_pass_16 : decode cL_pass 16 = .ok (.iconst 2, 1) := by decide +kernel
theorem dL_pass_17 : decode cL_pass 17 = .ok (.ireturn, 1) := by decide +kernel
theorem dL_pass_18 : decode cL_pass 18 = .ok (.iconst 0, 1) := by decide +kernel
theorem dL_pass_19 : decode cL_pass 19 = .ok (.ireturn, 1) := by decide +kernel
set_option maxRecDepth 20000 in
theorem ggL_file_X4_file : GoodIn wsL_file wsX4_file := goodIn_ca (goodIn_ca (goodIn_r _ [6, 7, 8, 9, 10, 11, 12, 13, 14, 15, 16, 17, 18, 19, 20, 21, 22, 23, 5, 24, 25, 26, 27, 28, 29, 30, 31, 32, 33, 34, 35, 36, 37, 38, 39, 40, 41, 42, 43, 44, 45, 46, 47, 48, 49, 50, 51, 52, 53, 54, 55, 56, 57, 58, 59, 60, 61, 62, 63, 64, 65, 66, 67, 68, 69, 70, 71, 72, 73, 74, 75, 76, 77, 78, 79, 80] (by decide +kernel) (by decide +kernel)) (goodIn_sub (fun _ h => List.mem_cons_of_mem _ (List.mem_append_left _ (List.mem_append_right _ h))) (by decide +kernel))) (goodIn_sub (fun _ h => List.mem_cons_of_mem _ (List.mem_append_right _ h)) (by decide +kernel))
set_option maxRecDepth 20000 in
theorem gL_file_X4_file : GoodIn wsL_file (wsV RL 27 RX4 yX4_file wsX4_file) := goodIn_app (goodIn_of _ (by decide +kernel)) ggL_file_X4_file
theorem dL_file_0 : decode cL_file 0 = .ok (.aload 4, 2) := by decide +kernel
theorem dL_file_2 : decode cL_file 2 = .ok (.iconst 0, 1) := by decide +kernel
theorem dL_file_3 : decode cL_file 3 = .ok (.aload_n 0, 1) := by decide +kernel
theorem dL_file_4 : decode cL_file 4 = .ok (.iload_n 1, 1) := by decide +kernel
theorem dL_file_5 : decode cL_file 5 = .ok (.iload_n 2, 1) := by decide +kernel
theorem dL_file_6 : decode cL_file 6 = .ok (.iload_n 3, 1) := by decide +kernel
theorem dL_file_7 : decode cL_file 7 = .ok (.invokevirtual 27, 3) := by decide +kernel
theorem dL_file_10 : decode cL_file 10 = .ok (.i2l, 1) := by decide +kernel
theorem dL_file_11 : decode cL_file 11 = .ok (.lastore, 1) := by decide +kernel
theorem dL_file_12 : decode cL_file 12 = .ok (.goto 11, 3) := by decide +kernel
theorem dL_file_15 : decode cL_file 15 = .ok (.astore 5, 2) := by decide +kernel
theorem dL_file_17 : decode cL_file 17 = .ok (.iconst 1, 1) := by decide +kernel
theorem dL_file_18 : decode cL_file 18 = .ok (.ireturn, 1) := by decide +kernel
theorem dL_file_19 : decode cL_file 19 = .ok (.astore 5, 2) := by decide +kernel
theorem dL_file_21 : decode cL_file 21 = .ok (.iconst 2, 1) := by decide +kernel
theorem dL_file_22 : decode cL_file 22 = .ok (.ireturn, 1) := by decide +kernel
theorem dL_file_23 : decode cL_file 23 = .ok (.iconst 0, 1) := by decide +kernel
theorem dL_file_24 : decode cL_file 24 = .ok (.ireturn, 1) := by decide +kernel
set_option maxRecDepth 20000 in
theorem ggL_item_X4_item : GoodIn wsL_item wsX4_item := goodIn_ca (goodIn_ca (goodIn_ca (goodIn_r _ [6, 7, 8, 9, 10, 11, 12, 13, 14, 15, 16, 17, 18, 19, 20, 21, 5, 22, 23, 24, 25, 26, 27, 28, 29, 30, 31, 32, 33, 34, 35, 36, 37, 38, 39, 40, 41, 42, 43, 44, 45, 46, 47, 48, 49, 50, 51, 52, 53, 54, 55, 56, 57, 58, 59, 60, 61, 62, 63, 64, 65, 66, 67, 68, 69, 70, 71, 72, 73, 74] (by decide +kernel) (by decide +kernel)) (goodIn_sub (fun _ h => List.mem_cons_of_mem _ (List.mem_append_left _ (List.mem_append_left _ (List.mem_append_right _ h)))) (by decide +kernel))) (goodIn_sub (fun _ h => List.mem_cons_of_mem _ (List.mem_append_left _ (List.mem_append_right _ h))) (by decide +kernel))) (goodIn_sub (fun _ h => List.mem_cons_of_mem _ (List.mem_append_right _ h)) (by decide +kernel))
set_option maxRecDepth 20000 in
theorem gL_item_X4_item : GoodIn wsL_item (wsV RL 30 RX4 yX4_item wsX4_item) := goodIn_app (goodIn_of _ (by decide +kernel)) ggL_item_X4_item
theorem dL_item_0 : decode cL_item 0 = .ok (.aload 7, 2) := by decide +kernel
theorem dL_item_2 : decode cL_item 2 = .ok (.iconst 0, 1) := by decide +kernel
theorem dL_item_3 : decode cL_item 3 = .ok (.aload_n 0, 1) := by decide +kernel
theorem dL_item_4 : decode cL_item 4 = .ok (.iload_n 1, 1) := by decide +kernel
theorem dL_item_5 : decode cL_item 5 = .ok (.iload_n 2, 1) := by decide +kernel
theorem dL_item_6 : decode cL_item 6 = .ok (.iload_n 3, 1) := by decide +kernel
theorem dL_item_7 : decode cL_item 7 = .ok (.iload 4, 2) := by decide +kernel
theorem dL_item_9 : decode cL_item 9 = .ok (.iload 5, 2) := by decide +kernel
theorem dL_item_11 : decode cL_item 11 = .ok (.iload 6, 2) := by decide +kernel
theorem dL_item_13 : decode cL_item 13 = .ok (.invokevirtual 30, 3) := by decide +kernel
theorem dL_item_16 : decode cL_item 16 = .ok (.i2l, 1) := by decide +kernel
theorem dL_item_17 : decode cL_item 17 = .ok (.lastore, 1) := by decide +kernel
theorem dL_item_18 : decode cL_item 18 = .ok (.goto 15, 3) := by decide +kernel
theorem dL_item_21 : decode cL_item 21 = .ok (.astore 8, 2) := by decide +kernel
theorem dL_item_23 : decode cL_item 23 = .ok (.iconst 1, 1) := by decide +kernel
theorem dL_item_24 : decode cL_item 24 = .ok (.ireturn, 1) := by decide +kernel
theorem dL_item_25 : decode cL_item 25 = .ok (.astore 8, 2) := by decide +kernel
theorem dL_item_27 : decode cL_item 27 = .ok (.iconst 2, 1) := by decide +kernel
theorem dL_item_28 : decode cL_item 28 = .ok (.ireturn, 1) := by decide +kernel
theorem dL_item_29 : decode cL_item 29 = .ok (.astore 8, 2) := by decide +kernel
theorem dL_item_31 : decode cL_item 31 = .ok (.iconst 3, 1) := by decide +kernel
theorem dL_item_32 : decode cL_item 32 = .ok (.ireturn, 1) := by decide +kernel
theorem dL_item_33 : decode cL_item 33 = .ok (.iconst 0, 1) := by decide +kernel
theorem dL_item_34 : decode cL_item 34 = .ok (.ireturn, 1) := by decide +kernel
set_option maxRecDepth 20000 in
theorem ggL_admit_X4_admit : GoodIn wsL_admit wsX4_admit := goodIn_ca (goodIn_ca (goodIn_r _ [6, 7, 8, 9, 10, 11, 12, 13, 14, 15, 16, 5, 17, 18, 19, 20, 21, 22, 23, 24, 25, 26, 27, 28, 29, 30, 31, 32, 33, 34, 35, 36, 37, 38, 39, 40, 41] (by decide +kernel) (by decide +kernel)) (goodIn_sub (fun _ h => List.mem_cons_of_mem _ (List.mem_append_left _ (List.mem_append_right _ h))) (by decide +kernel))) (goodIn_sub (fun _ h => List.mem_cons_of_mem _ (List.mem_append_right _ h)) (by decide +kernel))
set_option maxRecDepth 20000 in
theorem gL_admit_X4_admit : GoodIn wsL_admit (wsV RL 34 RX4 yX4_admit wsX4_admit) := goodIn_app (goodIn_of _ (by decide +kernel)) ggL_admit_X4_admit
theorem dL_admit_0 : decode cL_admit 0 = .ok (.aload_n 0, 1) := by decide +kernel
theorem dL_admit_1 : decode cL_admit 1 = .ok (.iload_n 1, 1) := by decide +kernel
theorem dL_admit_2 : decode cL_admit 2 = .ok (.invokevirtual 34, 3) := by decide +kernel
theorem dL_admit_5 : decode cL_admit 5 = .ok (.goto 9, 3) := by decide +kernel
theorem dL_admit_8 : decode cL_admit 8 = .ok (.astore_n 2, 1) := by decide +kernel
theorem dL_admit_9 : decode cL_admit 9 = .ok (.iconst 1, 1) := by decide +kernel
theorem dL_admit_10 : decode cL_admit 10 = .ok (.ireturn, 1) := by decide +kernel
theorem dL_admit_11 : decode cL_admit 11 = .ok (.astore_n 2, 1) := by decide +kernel
theorem dL_admit_12 : decode cL_admit 12 = .ok (.iconst 2, 1) := by decide +kernel
theorem dL_admit_13 : decode cL_admit 13 = .ok (.ireturn, 1) := by decide +kernel
theorem dL_admit_14 : decode cL_admit 14 = .ok (.iconst 0, 1) := by decide +kernel
theorem dL_admit_15 : decode cL_admit 15 = .ok (.ireturn, 1) := by decide +kernel
set_option maxRecDepth 20000 in
theorem ggL_show_X4_show : GoodIn wsL_show wsX4_show := goodIn_ca (goodIn_ca (goodIn_r _ [6, 7, 8, 9, 10, 11, 12, 13, 14, 15, 5, 16, 17, 18, 19, 20, 21, 22, 23, 24, 25, 26, 27, 28, 29, 30, 31, 32, 33, 34, 35, 36, 37, 38, 39, 40, 41, 42, 43, 44, 45, 46, 47, 48, 49, 50, 51, 52, 53, 54, 55, 56, 57, 58, 59, 60, 61, 62, 63, 64, 65, 66, 67, 68] (by decide +kernel) (by decide +kernel)) (goodIn_sub (fun _ h => List.mem_cons_of_mem _ (List.mem_append_left _ (List.mem_append_right _ h))) (by decide +kernel))) (goodIn_sub (fun _ h => List.mem_cons_of_mem _ (List.mem_append_right _ h)) (by decide +kernel))
set_option maxRecDepth 20000 in
theorem gL_show_X4_show : GoodIn wsL_show (wsV RL 38 RX4 yX4_show wsX4_show) := goodIn_app (goodIn_of _ (by decide +kernel)) ggL_show_X4_show
theorem dL_show_0 : decode cL_show 0 = .ok (.aload_n 3, 1) := by decide +kernel
theorem dL_show_1 : decode cL_show 1 = .ok (.iconst 0, 1) := by decide +kernel
theorem dL_show_2 : decode cL_show 2 = .ok (.aload_n 0, 1) := by decide +kernel
theorem dL_show_3 : decode cL_show 3 = .ok (.iload_n 1, 1) := by decide +kernel
theorem dL_show_4 : decode cL_show 4 = .ok (.iload_n 2, 1) := by decide +kernel
theorem dL_show_5 : decode cL_show 5 = .ok (.invokevirtual 38, 3) := by decide +kernel
theorem dL_show_8 : decode cL_show 8 = .ok (.i2l, 1) := by decide +kernel
theorem dL_show_9 : decode cL_show 9 = .ok (.lastore, 1) := by decide +kernel
theorem dL_show_10 : decode cL_show 10 = .ok (.goto 11, 3) := by decide +kernel
theorem dL_show_13 : decode cL_show 13 = .ok (.astore 4, 2) := by decide +kernel
theorem dL_show_15 : decode cL_show 15 = .ok (.iconst 1, 1) := by decide +kernel
theorem dL_show_16 : decode cL_show 16 = .ok (.ireturn, 1) := by decide +kernel
theorem dL_show_17 : decode cL_show 17 = .ok (.astore 4, 2) := by decide +kernel
theorem dL_show_19 : decode cL_show 19 = .ok (.iconst 2, 1) := by decide +kernel
theorem dL_show_20 : decode cL_show 20 = .ok (.ireturn, 1) := by decide +kernel
theorem dL_show_21 : decode cL_show 21 = .ok (.iconst 0, 1) := by decide +kernel
theorem dL_show_22 : decode cL_show 22 = .ok (.ireturn, 1) := by decide +kernel
set_option maxRecDepth 20000 in
theorem ggL_withhold_X4_withhold : GoodIn wsL_withhold wsX4_withhold := goodIn_ca (goodIn_ca (goodIn_r _ [6, 7, 8, 9, 10, 11, 12, 13, 14, 15, 5, 16, 17, 18, 19, 20, 21, 22, 23, 24, 25, 26, 27, 28, 29, 30, 31, 32, 33, 34, 35, 36, 37, 38, 39, 40] (by decide +kernel) (by decide +kernel)) (goodIn_sub (fun _ h => List.mem_cons_of_mem _ (List.mem_append_left _ (List.mem_append_right _ h))) (by decide +kernel))) (goodIn_sub (fun _ h => List.mem_cons_of_mem _ (List.mem_append_right _ h)) (by decide +kernel))
set_option maxRecDepth 20000 in
theorem gL_withhold_X4_withhold : GoodIn wsL_withhold (wsV RL 42 RX4 yX4_withhold wsX4_withhold) := goodIn_app (goodIn_of _ (by decide +kernel)) ggL_withhold_X4_withhold
theorem dL_withhold_0 : decode cL_withhold 0 = .ok (.aload_n 0, 1) := by decide +kernel
theorem dL_withhold_1 : decode cL_withhold 1 = .ok (.iload_n 1, 1) := by decide +kernel
theorem dL_withhold_2 : decode cL_withhold 2 = .ok (.invokevirtual 42, 3) := by decide +kernel
theorem dL_withhold_5 : decode cL_withhold 5 = .ok (.goto 9, 3) := by decide +kernel
theorem dL_withhold_8 : decode cL_withhold 8 = .ok (.astore_n 2, 1) := by decide +kernel
theorem dL_withhold_9 : decode cL_withhold 9 = .ok (.iconst 1, 1) := by decide +kernel
theorem dL_withhold_10 : decode cL_withhold 10 = .ok (.ireturn, 1) := by decide +kernel
theorem dL_withhold_11 : decode cL_withhold 11 = .ok (.astore_n 2, 1) := by decide +kernel
theorem dL_withhold_12 : decode cL_withhold 12 = .ok (.iconst 2, 1) := by decide +kernel
theorem dL_withhold_13 : decode cL_withhold 13 = .ok (.ireturn, 1) := by decide +kernel
theorem dL_withhold_14 : decode cL_withhold 14 = .ok (.iconst 0, 1) := by decide +kernel
theorem dL_withhold_15 : decode cL_withhold 15 = .ok (.ireturn, 1) := by decide +kernel
set_option maxRecDepth 20000 in
theorem ggL_charge_X4_charge : GoodIn wsL_charge wsX4_charge := goodIn_ca (goodIn_ca (goodIn_ca (goodIn_r _ [6, 7, 8, 9, 10, 11, 12, 13, 14, 15, 5, 16, 17, 18, 19, 20, 21, 22, 23, 24, 25, 26, 27, 28, 29, 30, 31, 32, 33, 34, 35, 36, 37, 38, 39, 40, 41, 42, 43, 44, 45, 46, 47, 48, 49, 50, 51, 52, 53, 54, 55, 56, 57, 58, 59, 60, 61, 62, 63, 64, 65, 66, 67, 68, 69, 70, 71, 72, 73, 74, 75, 76, 77, 78, 79, 80, 81, 82, 83, 84, 85, 86, 87, 88, 89, 90, 91, 92, 93, 94, 95, 96, 97, 98, 99, 100, 101, 102, 103, 104, 105, 106, 107, 108, 109, 110, 111, 112, 113, 114, 115, 116, 117, 118, 119, 120, 121, 122, 123, 124, 125, 126, 127, 128, 129, 130, 131, 132, 133, 134, 135, 136, 137, 138, 139, 140, 141, 142, 143, 144, 145, 146, 147, 148, 149, 150, 151, 152, 153, 154, 155, 156, 157, 158, 159, 160, 161, 162, 163, 164, 165, 166, 167, 168, 169, 170, 171, 172, 173, 174, 175] (by decide +kernel) (by decide +kernel)) (goodIn_sub (fun _ h => List.mem_cons_of_mem _ (List.mem_append_left _ (List.mem_append_left _ (List.mem_append_right _ h)))) (by decide +kernel))) (goodIn_sub (fun _ h => List.mem_cons_of_mem _ (List.mem_append_left _ (List.mem_append_right _ h))) (by decide +kernel))) (goodIn_sub (fun _ h => List.mem_cons_of_mem _ (List.mem_append_right _ h)) (by decide +kernel))
set_option maxRecDepth 20000 in
theorem gL_charge_X4_charge : GoodIn wsL_charge (wsV RL 45 RX4 yX4_charge wsX4_charge) := goodIn_app (goodIn_of _ (by decide +kernel)) ggL_charge_X4_charge
theorem dL_charge_0 : decode cL_charge 0 = .ok (.aload 4, 2) := by decide +kernel
theorem dL_charge_2 : decode cL_charge 2 = .ok (.iconst 0, 1) := by decide +kernel
theorem dL_charge_3 : decode cL_charge 3 = .ok (.aload_n 0, 1) := by decide +kernel
theorem dL_charge_4 : decode cL_charge 4 = .ok (.iload_n 1, 1) := by decide +kernel
theorem dL_charge_5 : decode cL_charge 5 = .ok (.iload_n 2, 1) := by decide +kernel
theorem dL_charge_6 : decode cL_charge 6 = .ok (.iload_n 3, 1) := by decide +kernel
theorem dL_charge_7 : decode cL_charge 7 = .ok (.invokevirtual 45, 3) := by decide +kernel
theorem dL_charge_10 : decode cL_charge 10 = .ok (.i2l, 1) := by decide +kernel
theorem dL_charge_11 : decode cL_charge 11 = .ok (.lastore, 1) := by decide +kernel
theorem dL_charge_12 : decode cL_charge 12 = .ok (.goto 15, 3) := by decide +kernel
theorem dL_charge_15 : decode cL_charge 15 = .ok (.astore 5, 2) := by decide +kernel
theorem dL_charge_17 : decode cL_charge 17 = .ok (.iconst 1, 1) := by decide +kernel
theorem dL_charge_18 : decode cL_charge 18 = .ok (.ireturn, 1) := by decide +kernel
theorem dL_charge_19 : decode cL_charge 19 = .ok (.astore 5, 2) := by decide +kernel
theorem dL_charge_21 : decode cL_charge 21 = .ok (.iconst 2, 1) := by decide +kernel
theorem dL_charge_22 : decode cL_charge 22 = .ok (.ireturn, 1) := by decide +kernel
theorem dL_charge_23 : decode cL_charge 23 = .ok (.astore 5, 2) := by decide +kernel
theorem dL_charge_25 : decode cL_charge 25 = .ok (.iconst 3, 1) := by decide +kernel
theorem dL_charge_26 : decode cL_charge 26 = .ok (.ireturn, 1) := by decide +kernel
theorem dL_charge_27 : decode cL_charge 27 = .ok (.iconst 0, 1) := by decide +kernel
theorem dL_charge_28 : decode cL_charge 28 = .ok (.ireturn, 1) := by decide +kernel
set_option maxRecDepth 20000 in
theorem ggL_drop_X4_drop : GoodIn wsL_drop wsX4_drop := goodIn_ca (goodIn_ca (goodIn_r _ [6, 7, 8, 9, 10, 11, 12, 13, 14, 15, 16, 17, 5, 18, 19, 20, 21, 22, 23, 24, 25, 26, 27, 28, 29, 30, 31, 32, 33, 34, 35, 36, 37, 38, 39, 40, 41, 42, 43, 44, 45, 46, 47, 48, 49, 50, 51, 52, 53, 54, 55, 56, 57, 58, 59, 60, 61, 62, 63] (by decide +kernel) (by decide +kernel)) (goodIn_sub (fun _ h => List.mem_cons_of_mem _ (List.mem_append_left _ (List.mem_append_right _ h))) (by decide +kernel))) (goodIn_sub (fun _ h => List.mem_cons_of_mem _ (List.mem_append_right _ h)) (by decide +kernel))
set_option maxRecDepth 20000 in
theorem gL_drop_X4_drop : GoodIn wsL_drop (wsV RL 48 RX4 yX4_drop wsX4_drop) := goodIn_app (goodIn_of _ (by decide +kernel)) ggL_drop_X4_drop
theorem dL_drop_0 : decode cL_drop 0 = .ok (.aload_n 0, 1) := by decide +kernel
theorem dL_drop_1 : decode cL_drop 1 = .ok (.iload_n 1, 1) := by decide +kernel
theorem dL_drop_2 : decode cL_drop 2 = .ok (.iload_n 2, 1) := by decide +kernel
theorem dL_drop_3 : decode cL_drop 3 = .ok (.invokevirtual 48, 3) := by decide +kernel
theorem dL_drop_6 : decode cL_drop 6 = .ok (.goto 9, 3) := by decide +kernel
theorem dL_drop_9 : decode cL_drop 9 = .ok (.astore_n 3, 1) := by decide +kernel
theorem dL_drop_10 : decode cL_drop 10 = .ok (.iconst 1, 1) := by decide +kernel
theorem dL_drop_11 : decode cL_drop 11 = .ok (.ireturn, 1) := by decide +kernel
theorem dL_drop_12 : decode cL_drop 12 = .ok (.astore_n 3, 1) := by decide +kernel
theorem dL_drop_13 : decode cL_drop 13 = .ok (.iconst 2, 1) := by decide +kernel
theorem dL_drop_14 : decode cL_drop 14 = .ok (.ireturn, 1) := by decide +kernel
theorem dL_drop_15 : decode cL_drop 15 = .ok (.iconst 0, 1) := by decide +kernel
theorem dL_drop_16 : decode cL_drop 16 = .ok (.ireturn, 1) := by decide +kernel
set_option maxRecDepth 20000 in
theorem ggL_review_X4_review : GoodIn wsL_review wsX4_review := goodIn_ca (goodIn_ca (goodIn_r _ [6, 7, 8, 9, 10, 11, 12, 13, 14, 15, 16, 5, 17, 18, 19, 20, 21, 22, 23, 24, 25, 26, 27, 28, 29, 30, 31, 32, 33, 34, 35, 36, 37, 38, 39, 40, 41, 42, 43, 44, 45, 46, 47, 48, 49, 50, 51, 52, 53, 54, 55, 56, 57, 58, 59, 60, 61, 62, 63, 64, 65, 66, 67, 68, 69, 70, 71, 72, 73, 74, 75, 76, 77, 78, 79, 80, 81, 82, 83, 84, 85, 86, 87, 88, 89, 90, 91, 92, 93, 94, 95, 96, 97, 98, 99, 100, 101, 102, 103, 104, 105, 106, 107, 108, 109, 110, 111, 112, 113, 114, 115, 116, 117, 118, 119, 120, 121, 122, 123, 124, 125, 126, 127, 128, 129, 130, 131, 132, 133, 134, 135, 136, 137, 138, 139, 140, 141] (by decide +kernel) (by decide +kernel)) (goodIn_sub (fun _ h => List.mem_cons_of_mem _ (List.mem_append_left _ (List.mem_append_right _ h))) (by decide +kernel))) (goodIn_sub (fun _ h => List.mem_cons_of_mem _ (List.mem_append_right _ h)) (by decide +kernel))
set_option maxRecDepth 20000 in
theorem gL_review_X4_review : GoodIn wsL_review (wsV RL 52 RX4 yX4_review wsX4_review) := goodIn_app (goodIn_of _ (by decide +kernel)) ggL_review_X4_review
theorem dL_review_0 : decode cL_review 0 = .ok (.aload_n 3, 1) := by decide +kernel
theorem dL_review_1 : decode cL_review 1 = .ok (.iconst 0, 1) := by decide +kernel
theorem dL_review_2 : decode cL_review 2 = .ok (.aload_n 0, 1) := by decide +kernel
theorem dL_review_3 : decode cL_review 3 = .ok (.iload_n 1, 1) := by decide +kernel
theorem dL_review_4 : decode cL_review 4 = .ok (.iload_n 2, 1) := by decide +kernel
theorem dL_review_5 : decode cL_review 5 = .ok (.invokevirtual 52, 3) := by decide +kernel
theorem dL_review_8 : decode cL_review 8 = .ok (.ifCond .eq 7, 3) := by decide +kernel
theorem dL_review_11 : decode cL_review 11 = .ok (.lconst 1, 1) := by decide +kernel
theorem dL_review_12 : decode cL_review 12 = .ok (.goto 4, 3) := by decide +kernel
theorem dL_review_15 : decode cL_review 15 = .ok (.lconst 0, 1) := by decide +kernel
theorem dL_review_16 : decode cL_review 16 = .ok (.lastore, 1) := by decide +kernel
theorem dL_review_17 : decode cL_review 17 = .ok (.goto 11, 3) := by decide +kernel
theorem dL_review_20 : decode cL_review 20 = .ok (.astore 4, 2) := by decide +kernel
theorem dL_review_22 : decode cL_review 22 = .ok (.iconst 1, 1) := by decide +kernel
theorem dL_review_23 : decode cL_review 23 = .ok (.ireturn, 1) := by decide +kernel
theorem dL_review_24 : decode cL_review 24 = .ok (.astore 4, 2) := by decide +kernel
theorem dL_review_26 : decode cL_review 26 = .ok (.iconst 2, 1) := by decide +kernel
theorem dL_review_27 : decode cL_review 27 = .ok (.ireturn, 1) := by decide +kernel
theorem dL_review_28 : decode cL_review 28 = .ok (.iconst 0, 1) := by decide +kernel
theorem dL_review_29 : decode cL_review 29 = .ok (.ireturn, 1) := by decide +kernel
set_option maxRecDepth 20000 in
theorem ggL_trial_X4_trial : GoodIn wsL_trial wsX4_trial := goodIn_ca (goodIn_ca (goodIn_r _ [6, 7, 8, 9, 10, 11, 12, 13, 14, 15, 16, 5, 17, 18, 19, 20, 21, 22, 23, 24, 25, 26, 27, 28, 29, 30, 31, 32, 33, 34, 35, 36, 37, 38, 39, 40, 41, 42, 43, 44, 45, 46, 47, 48, 49, 50, 51, 52, 53, 54, 55, 56, 57, 58, 59, 60, 61, 62, 63, 64, 65, 66, 67, 68, 69, 70, 71, 72, 73, 74, 75, 76, 77, 78, 79, 80, 81, 82, 83, 84, 85, 86, 87, 88, 89, 90, 91, 92, 93, 94, 95, 96, 97, 98, 99, 100, 101, 102, 103, 104, 105, 106, 107, 108, 109, 110, 111, 112, 113, 114, 115, 116, 117, 118, 119, 120, 121, 122, 123, 124, 125, 126, 127, 128, 129, 130, 131, 132, 133, 134, 135, 136, 137, 138, 139, 140, 141, 142, 143, 144, 145, 146, 147] (by decide +kernel) (by decide +kernel)) (goodIn_sub (fun _ h => List.mem_cons_of_mem _ (List.mem_append_left _ (List.mem_append_right _ h))) (by decide +kernel))) (goodIn_sub (fun _ h => List.mem_cons_of_mem _ (List.mem_append_right _ h)) (by decide +kernel))
set_option maxRecDepth 20000 in
theorem gL_trial_X4_trial : GoodIn wsL_trial (wsV RL 55 RX4 yX4_trial wsX4_trial) := goodIn_app (goodIn_of _ (by decide +kernel)) ggL_trial_X4_trial
theorem dL_trial_0 : decode cL_trial 0 = .ok (.aload_n 3, 1) := by decide +kernel
theorem dL_trial_1 : decode cL_trial 1 = .ok (.iconst 0, 1) := by decide +kernel
theorem dL_trial_2 : decode cL_trial 2 = .ok (.aload_n 0, 1) := by decide +kernel
theorem dL_trial_3 : decode cL_trial 3 = .ok (.iload_n 1, 1) := by decide +kernel
theorem dL_trial_4 : decode cL_trial 4 = .ok (.iload_n 2, 1) := by decide +kernel
theorem dL_trial_5 : decode cL_trial 5 = .ok (.invokevirtual 55, 3) := by decide +kernel
theorem dL_trial_8 : decode cL_trial 8 = .ok (.i2l, 1) := by decide +kernel
theorem dL_trial_9 : decode cL_trial 9 = .ok (.lastore, 1) := by decide +kernel
theorem dL_trial_10 : decode cL_trial 10 = .ok (.goto 11, 3) := by decide +kernel
theorem dL_trial_13 : decode cL_trial 13 = .ok (.astore 4, 2) := by decide +kernel
theorem dL_trial_15 : decode cL_trial 15 = .ok (.iconst 1, 1) := by decide +kernel
theorem dL_trial_16 : decode cL_trial 16 = .ok (.ireturn, 1) := by decide +kernel
theorem dL_trial_17 : decode cL_trial 17 = .ok (.astore 4, 2) := by decide +kernel
theorem dL_trial_19 : decode cL_trial 19 = .ok (.iconst 2, 1) := by decide +kernel
theorem dL_trial_20 : decode cL_trial 20 = .ok (.ireturn, 1) := by decide +kernel
theorem dL_trial_21 : decode cL_trial 21 = .ok (.iconst 0, 1) := by decide +kernel
theorem dL_trial_22 : decode cL_trial 22 = .ok (.ireturn, 1) := by decide +kernel
set_option maxRecDepth 20000 in
theorem ggL_plea_X4_plea : GoodIn wsL_plea wsX4_plea := goodIn_ca (goodIn_ca (goodIn_ca (goodIn_r _ [6, 7, 8, 9, 10, 11, 12, 13, 14, 15, 16, 17, 18, 5, 19, 20, 21, 22, 23, 24, 25, 26, 27, 28, 29, 30, 31, 32, 33, 34, 35, 36, 37, 38, 39, 40, 41, 42, 43, 44, 45, 46, 47, 48, 49, 50, 51, 52, 53, 54, 55, 56, 57, 58, 59, 60, 61, 62, 63, 64, 65, 66, 67, 68, 69, 70, 71, 72, 73, 74, 75, 76, 77, 78, 79, 80, 81, 82, 83, 84, 85, 86, 87, 88, 89, 90, 91, 92, 93, 94, 95, 96, 97, 98, 99, 100, 101, 102, 103, 104, 105] (by decide +kernel) (by decide +kernel)) (goodIn_sub (fun _ h => List.mem_cons_of_mem _ (List.mem_append_left _ (List.mem_append_left _ (List.mem_append_right _ h)))) (by decide +kernel))) (goodIn_sub (fun _ h => List.mem_cons_of_mem _ (List.mem_append_left _ (List.mem_append_right _ h))) (by decide +kernel))) (goodIn_sub (fun _ h => List.mem_cons_of_mem _ (List.mem_append_right _ h)) (by decide +kernel))
set_option maxRecDepth 20000 in
theorem gL_plea_X4_plea : GoodIn wsL_plea (wsV RL 58 RX4 yX4_plea wsX4_plea) := goodIn_app (goodIn_of _ (by decide +kernel)) ggL_plea_X4_plea
theorem dL_plea_0 : decode cL_plea 0 = .ok (.aload 4, 2) := by decide +kernel
theorem dL_plea_2 : decode cL_plea 2 = .ok (.iconst 0, 1) := by decide +kernel
theorem dL_plea_3 : decode cL_plea 3 = .ok (.aload_n 0, 1) := by decide +kernel
theorem dL_plea_4 : decode cL_plea 4 = .ok (.iload_n 1, 1) := by decide +kernel
theorem dL_plea_5 : decode cL_plea 5 = .ok (.iload_n 2, 1) := by decide +kernel
theorem dL_plea_6 : decode cL_plea 6 = .ok (.iload_n 3, 1) := by decide +kernel
theorem dL_plea_7 : decode cL_plea 7 = .ok (.invokevirtual 58, 3) := by decide +kernel
theorem dL_plea_10 : decode cL_plea 10 = .ok (.i2l, 1) := by decide +kernel
theorem dL_plea_11 : decode cL_plea 11 = .ok (.lastore, 1) := by decide +kernel
theorem dL_plea_12 : decode cL_plea 12 = .ok (.goto 15, 3) := by decide +kernel
theorem dL_plea_15 : decode cL_plea 15 = .ok (.astore 5, 2) := by decide +kernel
theorem dL_plea_17 : decode cL_plea 17 = .ok (.iconst 1, 1) := by decide +kernel
theorem dL_plea_18 : decode cL_plea 18 = .ok (.ireturn, 1) := by decide +kernel
theorem dL_plea_19 : decode cL_plea 19 = .ok (.astore 5, 2) := by decide +kernel
theorem dL_plea_21 : decode cL_plea 21 = .ok (.iconst 2, 1) := by decide +kernel
theorem dL_plea_22 : decode cL_plea 22 = .ok (.ireturn, 1) := by decide +kernel
theorem dL_plea_23 : decode cL_plea 23 = .ok (.astore 5, 2) := by decide +kernel
theorem dL_plea_25 : decode cL_plea 25 = .ok (.iconst 3, 1) := by decide +kernel
theorem dL_plea_26 : decode cL_plea 26 = .ok (.ireturn, 1) := by decide +kernel
theorem dL_plea_27 : decode cL_plea 27 = .ok (.iconst 0, 1) := by decide +kernel
theorem dL_plea_28 : decode cL_plea 28 = .ok (.ireturn, 1) := by decide +kernel
set_option maxRecDepth 20000 in
theorem ggL_arrest_X4_arrest : GoodIn wsL_arrest wsX4_arrest := goodIn_ca (goodIn_ca (goodIn_r _ [6, 7, 8, 9, 10, 11, 12, 13, 5, 14, 15, 16, 17, 18, 19, 20, 21, 22, 23, 24, 25, 26, 27, 28, 29, 30, 31, 32, 33, 34, 35, 36, 37, 38, 39, 40, 41, 42, 43, 44, 45, 46, 47, 48, 49, 50, 51, 52, 53, 54, 55, 56, 57, 58, 59, 60, 61, 62, 63, 64, 65, 66, 67, 68, 69, 70, 71, 72, 73, 74] (by decide +kernel) (by decide +kernel)) (goodIn_sub (fun _ h => List.mem_cons_of_mem _ (List.mem_append_left _ (List.mem_append_right _ h))) (by decide +kernel))) (goodIn_sub (fun _ h => List.mem_cons_of_mem _ (List.mem_append_right _ h)) (by decide +kernel))
set_option maxRecDepth 20000 in
theorem gL_arrest_X4_arrest : GoodIn wsL_arrest (wsV RL 61 RX4 yX4_arrest wsX4_arrest) := goodIn_app (goodIn_of _ (by decide +kernel)) ggL_arrest_X4_arrest
theorem dL_arrest_0 : decode cL_arrest 0 = .ok (.aload_n 3, 1) := by decide +kernel
theorem dL_arrest_1 : decode cL_arrest 1 = .ok (.iconst 0, 1) := by decide +kernel
theorem dL_arrest_2 : decode cL_arrest 2 = .ok (.aload_n 0, 1) := by decide +kernel
theorem dL_arrest_3 : decode cL_arrest 3 = .ok (.iload_n 1, 1) := by decide +kernel
theorem dL_arrest_4 : decode cL_arrest 4 = .ok (.iload_n 2, 1) := by decide +kernel
theorem dL_arrest_5 : decode cL_arrest 5 = .ok (.invokevirtual 61, 3) := by decide +kernel
theorem dL_arrest_8 : decode cL_arrest 8 = .ok (.i2l, 1) := by decide +kernel
theorem dL_arrest_9 : decode cL_arrest 9 = .ok (.lastore, 1) := by decide +kernel
theorem dL_arrest_10 : decode cL_arrest 10 = .ok (.goto 11, 3) := by decide +kernel
theorem dL_arrest_13 : decode cL_arrest 13 = .ok (.astore 4, 2) := by decide +kernel
theorem dL_arrest_15 : decode cL_arrest 15 = .ok (.iconst 1, 1) := by decide +kernel
theorem dL_arrest_16 : decode cL_arrest 16 = .ok (.ireturn, 1) := by decide +kernel
theorem dL_arrest_17 : decode cL_arrest 17 = .ok (.astore 4, 2) := by decide +kernel
theorem dL_arrest_19 : decode cL_arrest 19 = .ok (.iconst 2, 1) := by decide +kernel
theorem dL_arrest_20 : decode cL_arrest 20 = .ok (.ireturn, 1) := by decide +kernel
theorem dL_arrest_21 : decode cL_arrest 21 = .ok (.iconst 0, 1) := by decide +kernel
theorem dL_arrest_22 : decode cL_arrest 22 = .ok (.ireturn, 1) := by decide +kernel
set_option maxRecDepth 20000 in
theorem ggL_extend_X4_extend : GoodIn wsL_extend wsX4_extend := goodIn_ca (goodIn_ca (goodIn_ca (goodIn_r _ [6, 7, 8, 9, 10, 11, 12, 13, 14, 15, 5, 16, 17, 18, 19, 20, 21, 22, 23, 24, 25, 26, 27, 28, 29, 30, 31, 32, 33, 34, 35, 36, 37, 38, 39, 40, 41, 42, 43, 44, 45, 46, 47, 48, 49, 50, 51, 52, 53, 54, 55, 56, 57, 58, 59, 60, 61, 62, 63, 64, 65, 66, 67, 68, 69, 70, 71, 72, 73] (by decide +kernel) (by decide +kernel)) (goodIn_sub (fun _ h => List.mem_cons_of_mem _ (List.mem_append_left _ (List.mem_append_left _ (List.mem_append_right _ h)))) (by decide +kernel))) (goodIn_sub (fun _ h => List.mem_cons_of_mem _ (List.mem_append_left _ (List.mem_append_right _ h))) (by decide +kernel))) (goodIn_sub (fun _ h => List.mem_cons_of_mem _ (List.mem_append_right _ h)) (by decide +kernel))
set_option maxRecDepth 20000 in
theorem gL_extend_X4_extend : GoodIn wsL_extend (wsV RL 64 RX4 yX4_extend wsX4_extend) := goodIn_app (goodIn_of _ (by decide +kernel)) ggL_extend_X4_extend
theorem dL_extend_0 : decode cL_extend 0 = .ok (.aload 4, 2) := by decide +kernel
theorem dL_extend_2 : decode cL_extend 2 = .ok (.iconst 0, 1) := by decide +kernel
theorem dL_extend_3 : decode cL_extend 3 = .ok (.aload_n 0, 1) := by decide +kernel
theorem dL_extend_4 : decode cL_extend 4 = .ok (.iload_n 1, 1) := by decide +kernel
theorem dL_extend_5 : decode cL_extend 5 = .ok (.iload_n 2, 1) := by decide +kernel
theorem dL_extend_6 : decode cL_extend 6 = .ok (.iload_n 3, 1) := by decide +kernel
theorem dL_extend_7 : decode cL_extend 7 = .ok (.invokevirtual 64, 3) := by decide +kernel
theorem dL_extend_10 : decode cL_extend 10 = .ok (.i2l, 1) := by decide +kernel
theorem dL_extend_11 : decode cL_extend 11 = .ok (.lastore, 1) := by decide +kernel
theorem dL_extend_12 : decode cL_extend 12 = .ok (.goto 15, 3) := by decide +kernel
theorem dL_extend_15 : decode cL_extend 15 = .ok (.astore 5, 2) := by decide +kernel
theorem dL_extend_17 : decode cL_extend 17 = .ok (.iconst 1, 1) := by decide +kernel
theorem dL_extend_18 : decode cL_extend 18 = .ok (.ireturn, 1) := by decide +kernel
theorem dL_extend_19 : decode cL_extend 19 = .ok (.astore 5, 2) := by decide +kernel
theorem dL_extend_21 : decode cL_extend 21 = .ok (.iconst 2, 1) := by decide +kernel
theorem dL_extend_22 : decode cL_extend 22 = .ok (.ireturn, 1) := by decide +kernel
theorem dL_extend_23 : decode cL_extend 23 = .ok (.astore 5, 2) := by decide +kernel
theorem dL_extend_25 : decode cL_extend 25 = .ok (.iconst 3, 1) := by decide +kernel
theorem dL_extend_26 : decode cL_extend 26 = .ok (.ireturn, 1) := by decide +kernel
theorem dL_extend_27 : decode cL_extend 27 = .ok (.iconst 0, 1) := by decide +kernel
theorem dL_extend_28 : decode cL_extend 28 = .ok (.ireturn, 1) := by decide +kernel
set_option maxRecDepth 20000 in
theorem ggL_release_X4_release : GoodIn wsL_release wsX4_release := goodIn_ca (goodIn_ca (goodIn_r _ [6, 7, 8, 9, 10, 11, 12, 5, 13, 14, 15, 16, 17, 18, 19, 20, 21, 22, 23, 24, 25, 26, 27, 28, 29, 30, 31, 32, 33, 34, 35, 36, 37, 38, 39, 40, 41, 42, 43, 44, 45, 46, 47, 48, 49, 50, 51, 52, 53, 54, 55, 56, 57, 58] (by decide +kernel) (by decide +kernel)) (goodIn_sub (fun _ h => List.mem_cons_of_mem _ (List.mem_append_left _ (List.mem_append_right _ h))) (by decide +kernel))) (goodIn_sub (fun _ h => List.mem_cons_of_mem _ (List.mem_append_right _ h)) (by decide +kernel))
set_option maxRecDepth 20000 in
theorem gL_release_X4_release : GoodIn wsL_release (wsV RL 67 RX4 yX4_release wsX4_release) := goodIn_app (goodIn_of _ (by decide +kernel)) ggL_release_X4_release
theorem dL_release_0 : decode cL_release 0 = .ok (.aload_n 0, 1) := by decide +kernel
theorem dL_release_1 : decode cL_release 1 = .ok (.iload_n 1, 1) := by decide +kernel
theorem dL_release_2 : decode cL_release 2 = .ok (.iload_n 2, 1) := by decide +kernel
theorem dL_release_3 : decode cL_release 3 = .ok (.invokevirtual 67, 3) := by decide +kernel
theorem dL_release_6 : decode cL_release 6 = .ok (.goto 9, 3) := by decide +kernel
theorem dL_release_9 : decode cL_release 9 = .ok (.astore_n 3, 1) := by decide +kernel
theorem dL_release_10 : decode cL_release 10 = .ok (.iconst 1, 1) := by decide +kernel
theorem dL_release_11 : decode cL_release 11 = .ok (.ireturn, 1) := by decide +kernel
theorem dL_release_12 : decode cL_release 12 = .ok (.astore_n 3, 1) := by decide +kernel
theorem dL_release_13 : decode cL_release 13 = .ok (.iconst 2, 1) := by decide +kernel
theorem dL_release_14 : decode cL_release 14 = .ok (.ireturn, 1) := by decide +kernel
theorem dL_release_15 : decode cL_release 15 = .ok (.iconst 0, 1) := by decide +kernel
theorem dL_release_16 : decode cL_release 16 = .ok (.ireturn, 1) := by decide +kernel
set_option maxRecDepth 20000 in
theorem ggL_nests_X4_nests : GoodIn wsL_nests wsX4_nests := goodIn_ca (goodIn_r _ [6, 7, 8, 9, 10, 11, 5, 12, 13, 14, 15, 16, 17, 18, 19, 20, 21, 22, 23, 24, 25, 26, 27, 28, 29, 30, 31, 32, 33, 34, 35, 36] (by decide +kernel) (by decide +kernel)) (goodIn_sub (fun _ h => List.mem_cons_of_mem _ (List.mem_append_right _ h)) (by decide +kernel))
set_option maxRecDepth 20000 in
theorem gL_nests_X4_nests : GoodIn wsL_nests (wsV RL 70 RX4 yX4_nests wsX4_nests) := goodIn_app (goodIn_of _ (by decide +kernel)) ggL_nests_X4_nests
theorem dL_nests_0 : decode cL_nests 0 = .ok (.aload_n 3, 1) := by decide +kernel
theorem dL_nests_1 : decode cL_nests 1 = .ok (.iconst 0, 1) := by decide +kernel
theorem dL_nests_2 : decode cL_nests 2 = .ok (.aload_n 0, 1) := by decide +kernel
theorem dL_nests_3 : decode cL_nests 3 = .ok (.iload_n 1, 1) := by decide +kernel
theorem dL_nests_4 : decode cL_nests 4 = .ok (.iload_n 2, 1) := by decide +kernel
theorem dL_nests_5 : decode cL_nests 5 = .ok (.invokevirtual 70, 3) := by decide +kernel
theorem dL_nests_8 : decode cL_nests 8 = .ok (.ifCond .eq 7, 3) := by decide +kernel
theorem dL_nests_11 : decode cL_nests 11 = .ok (.lconst 1, 1) := by decide +kernel
theorem dL_nests_12 : decode cL_nests 12 = .ok (.goto 4, 3) := by decide +kernel
theorem dL_nests_15 : decode cL_nests 15 = .ok (.lconst 0, 1) := by decide +kernel
theorem dL_nests_16 : decode cL_nests 16 = .ok (.lastore, 1) := by decide +kernel
theorem dL_nests_17 : decode cL_nests 17 = .ok (.goto 7, 3) := by decide +kernel
theorem dL_nests_20 : decode cL_nests 20 = .ok (.astore 4, 2) := by decide +kernel
theorem dL_nests_22 : decode cL_nests 22 = .ok (.iconst 1, 1) := by decide +kernel
theorem dL_nests_23 : decode cL_nests 23 = .ok (.ireturn, 1) := by decide +kernel
theorem dL_nests_24 : decode cL_nests 24 = .ok (.iconst 0, 1) := by decide +kernel
theorem dL_nests_25 : decode cL_nests 25 = .ok (.ireturn, 1) := by decide +kernel
set_option maxRecDepth 20000 in
theorem ggL_strength_X4_strength : GoodIn wsL_strength wsX4_strength := goodIn_ca (goodIn_ca (goodIn_r _ [6, 7, 8, 9, 10, 11, 5, 12, 13, 14, 15, 16, 17, 18, 19, 20, 21, 22, 23, 24, 25, 26, 27, 28, 29, 30, 31, 32, 33, 34, 35, 36, 37, 38, 39, 40, 41, 42, 43, 44, 45, 46, 47, 48, 49, 50, 51, 52, 53, 54, 55, 56, 57, 58, 59, 60, 61, 62, 63, 64, 65, 66, 67, 68, 69, 70, 71, 72, 73, 74, 75, 76, 77, 78, 79, 80, 81, 82, 83, 84, 85, 86, 87, 88, 89, 90, 91, 92, 93, 94, 95, 96, 97, 98, 99, 100, 101] (by decide +kernel) (by decide +kernel)) (goodIn_sub (fun _ h => List.mem_cons_of_mem _ (List.mem_append_left _ (List.mem_append_right _ h))) (by decide +kernel))) (goodIn_sub (fun _ h => List.mem_cons_of_mem _ (List.mem_append_right _ h)) (by decide +kernel))
set_option maxRecDepth 20000 in
theorem gL_strength_X4_strength : GoodIn wsL_strength (wsV RL 73 RX4 yX4_strength wsX4_strength) := goodIn_app (goodIn_of _ (by decide +kernel)) ggL_strength_X4_strength
theorem dL_strength_0 : decode cL_strength 0 = .ok (.aload 5, 2) := by decide +kernel
theorem dL_strength_2 : decode cL_strength 2 = .ok (.iconst 0, 1) := by decide +kernel
theorem dL_strength_3 : decode cL_strength 3 = .ok (.aload_n 0, 1) := by decide +kernel
theorem dL_strength_4 : decode cL_strength 4 = .ok (.iload_n 1, 1) := by decide +kernel
theorem dL_strength_5 : decode cL_strength 5 = .ok (.iload_n 2, 1) := by decide +kernel
theorem dL_strength_6 : decode cL_strength 6 = .ok (.iload_n 3, 1) := by decide +kernel
theorem dL_strength_7 : decode cL_strength 7 = .ok (.iload 4, 2) := by decide +kernel
theorem dL_strength_9 : decode cL_strength 9 = .ok (.invokevirtual 73, 3) := by decide +kernel
theorem dL_strength_12 : decode cL_strength 12 = .ok (.i2l, 1) := by decide +kernel
theorem dL_strength_13 : decode cL_strength 13 = .ok (.lastore, 1) := by decide +kernel
theorem dL_strength_14 : decode cL_strength 14 = .ok (.goto 11, 3) := by decide +kernel
theorem dL_strength_17 : decode cL_strength 17 = .ok (.astore 6, 2) := by decide +kernel
theorem dL_strength_19 : decode cL_strength 19 = .ok (.iconst 1, 1) := by decide +kernel
theorem dL_strength_20 : decode cL_strength 20 = .ok (.ireturn, 1) := by decide +kernel
theorem dL_strength_21 : decode cL_strength 21 = .ok (.astore 6, 2) := by decide +kernel
theorem dL_strength_23 : decode cL_strength 23 = .ok (.iconst 2, 1) := by decide +kernel
theorem dL_strength_24 : decode cL_strength 24 = .ok (.ireturn, 1) := by decide +kernel
theorem dL_strength_25 : decode cL_strength 25 = .ok (.iconst 0, 1) := by decide +kernel
theorem dL_strength_26 : decode cL_strength 26 = .ok (.ireturn, 1) := by decide +kernel
set_option maxRecDepth 20000 in
theorem ggL_whyNot_X4_whyNot : GoodIn wsL_whyNot wsX4_whyNot := goodIn_ca (goodIn_ca (goodIn_r _ [6, 7, 8, 9, 10, 11, 5, 12, 13, 14, 15, 16, 17, 18, 19, 20, 21, 22, 23, 24, 25, 26, 27, 28, 29, 30, 31, 32, 33, 34, 35, 36, 37, 38, 39, 40, 41, 42, 43, 44, 45, 46, 47, 48, 49, 50, 51, 52, 53, 54, 55, 56, 57, 58, 59, 60, 61, 62, 63, 64, 65, 66, 67, 68, 69, 70, 71, 72, 73, 74, 75, 76, 77, 78, 79, 80, 81, 82, 83, 84, 85, 86, 87, 88, 89, 90, 91, 92, 93, 94, 95, 96, 97, 98, 99, 100, 101, 102, 103, 104, 105, 106, 107, 108, 109, 110, 111, 112, 113, 114, 115, 116, 117, 118, 119, 120, 121, 122, 123, 124, 125, 126, 127, 128, 129, 130, 131, 132, 133, 134, 135, 136, 137, 138, 139, 140, 141, 142, 143, 144] (by decide +kernel) (by decide +kernel)) (goodIn_sub (fun _ h => List.mem_cons_of_mem _ (List.mem_append_left _ (List.mem_append_right _ h))) (by decide +kernel))) (goodIn_sub (fun _ h => List.mem_cons_of_mem _ (List.mem_append_right _ h)) (by decide +kernel))
set_option maxRecDepth 20000 in
theorem gL_whyNot_X4_whyNot : GoodIn wsL_whyNot (wsV RL 77 RX4 yX4_whyNot wsX4_whyNot) := goodIn_app (goodIn_of _ (by decide +kernel)) ggL_whyNot_X4_whyNot
theorem dL_whyNot_0 : decode cL_whyNot 0 = .ok (.aload 5, 2) := by decide +kernel
theorem dL_whyNot_2 : decode cL_whyNot 2 = .ok (.iconst 0, 1) := by decide +kernel
theorem dL_whyNot_3 : decode cL_whyNot 3 = .ok (.aload_n 0, 1) := by decide +kernel
theorem dL_whyNot_4 : decode cL_whyNot 4 = .ok (.iload_n 1, 1) := by decide +kernel
theorem dL_whyNot_5 : decode cL_whyNot 5 = .ok (.iload_n 2, 1) := by decide +kernel
theorem dL_whyNot_6 : decode cL_whyNot 6 = .ok (.iload_n 3, 1) := by decide +kernel
theorem dL_whyNot_7 : decode cL_whyNot 7 = .ok (.iload 4, 2) := by decide +kernel
theorem dL_whyNot_9 : decode cL_whyNot 9 = .ok (.invokevirtual 77, 3) := by decide +kernel
theorem dL_whyNot_12 : decode cL_whyNot 12 = .ok (.i2l, 1) := by decide +kernel
theorem dL_whyNot_13 : decode cL_whyNot 13 = .ok (.lastore, 1) := by decide +kernel
theorem dL_whyNot_14 : decode cL_whyNot 14 = .ok (.goto 11, 3) := by decide +kernel
theorem dL_whyNot_17 : decode cL_whyNot 17 = .ok (.astore 6, 2) := by decide +kernel
theorem dL_whyNot_19 : decode cL_whyNot 19 = .ok (.iconst 1, 1) := by decide +kernel
theorem dL_whyNot_20 : decode cL_whyNot 20 = .ok (.ireturn, 1) := by decide +kernel
theorem dL_whyNot_21 : decode cL_whyNot 21 = .ok (.astore 6, 2) := by decide +kernel
theorem dL_whyNot_23 : decode cL_whyNot 23 = .ok (.iconst 2, 1) := by decide +kernel
theorem dL_whyNot_24 : decode cL_whyNot 24 = .ok (.ireturn, 1) := by decide +kernel
theorem dL_whyNot_25 : decode cL_whyNot 25 = .ok (.iconst 0, 1) := by decide +kernel
theorem dL_whyNot_26 : decode cL_whyNot 26 = .ok (.ireturn, 1) := by decide +kernel
set_option maxRecDepth 20000 in
theorem ggL_best_X4_best : GoodIn wsL_best wsX4_best := goodIn_ca (goodIn_ca (goodIn_r _ [6, 7, 8, 9, 5, 10, 11, 12, 13, 14, 15, 16, 17, 18, 19, 20, 21, 22, 23, 24, 25, 26, 27, 28, 29, 30, 31, 32, 33, 34, 35, 36, 37, 38, 39, 40, 41, 42, 43, 44, 45, 46, 47, 48, 49, 50, 51, 52, 53, 54, 55, 56, 57, 58, 59, 60, 61, 62, 63, 64, 65, 66, 67, 68, 69, 70, 71, 72, 73, 74, 75, 76, 77, 78, 79, 80, 81, 82, 83, 84, 85, 86, 87, 88, 89, 90, 91, 92, 93, 94, 95, 96, 97, 98, 99, 100, 101, 102, 103, 104, 105, 106, 107, 108, 109, 110, 111, 112, 113, 114, 115, 116, 117, 118, 119, 120, 121, 122, 123, 124, 125, 126, 127, 128, 129, 130, 131, 132, 133, 134, 135, 136, 137, 138, 139, 140, 141, 142, 143, 144, 145, 146, 147, 148, 149, 150, 151, 152, 153, 154, 155, 156, 157, 158, 159, 160, 161, 162, 163, 164, 165, 166, 167, 168, 169, 170, 171, 172, 173, 174, 175, 176, 177, 178, 179, 180, 181, 182, 183, 184, 185, 186, 187] (by decide +kernel) (by decide +kernel)) (goodIn_sub (fun _ h => List.mem_cons_of_mem _ (List.mem_append_left _ (List.mem_append_right _ h))) (by decide +kernel))) (goodIn_sub (fun _ h => List.mem_cons_of_mem _ (List.mem_append_right _ h)) (by decide +kernel))
set_option maxRecDepth 20000 in
theorem gL_best_X4_best : GoodIn wsL_best (wsV RL 80 RX4 yX4_best wsX4_best) := goodIn_app (goodIn_of _ (by decide +kernel)) ggL_best_X4_best
theorem dL_best_0 : decode cL_best 0 = .ok (.aload 4, 2) := by decide +kernel
theorem dL_best_2 : decode cL_best 2 = .ok (.iconst 0, 1) := by decide +kernel
theorem dL_best_3 : decode cL_best 3 = .ok (.aload_n 0, 1) := by decide +kernel
theorem dL_best_4 : decode cL_best 4 = .ok (.iload_n 1, 1) := by decide +kernel
theorem dL_best_5 : decode cL_best 5 = .ok (.iload_n 2, 1) := by decide +kernel
theorem dL_best_6 : decode cL_best 6 = .ok (.iload_n 3, 1) := by decide +kernel
theorem dL_best_7 : decode cL_best 7 = .ok (.invokevirtual 80, 3) := by decide +kernel
theorem dL_best_10 : decode cL_best 10 = .ok (.i2l, 1) := by decide +kernel
theorem dL_best_11 : decode cL_best 11 = .ok (.lastore, 1) := by decide +kernel
theorem dL_best_12 : decode cL_best 12 = .ok (.goto 11, 3) := by decide +kernel
theorem dL_best_15 : decode cL_best 15 = .ok (.astore 5, 2) := by decide +kernel
theorem dL_best_17 : decode cL_best 17 = .ok (.iconst 1, 1) := by decide +kernel
theorem dL_best_18 : decode cL_best 18 = .ok (.ireturn, 1) := by decide +kernel
theorem dL_best_19 : decode cL_best 19 = .ok (.astore 5, 2) := by decide +kernel
theorem dL_best_21 : decode cL_best 21 = .ok (.iconst 2, 1) := by decide +kernel
theorem dL_best_22 : decode cL_best 22 = .ok (.ireturn, 1) := by decide +kernel
theorem dL_best_23 : decode cL_best 23 = .ok (.iconst 0, 1) := by decide +kernel
theorem dL_best_24 : decode cL_best 24 = .ok (.ireturn, 1) := by decide +kernel
set_option maxRecDepth 20000 in
theorem ggL_bestAnew_X4_bestAnew : GoodIn wsL_bestAnew wsX4_bestAnew := goodIn_ca (goodIn_ca (goodIn_r _ [6, 7, 8, 9, 5, 10, 11, 12, 13, 14, 15, 16, 17, 18, 19, 20, 21, 22, 23, 24, 25, 26, 27, 28, 29, 30, 31, 32, 33, 34, 35, 36, 37, 38, 39, 40, 41, 42, 43, 44, 45, 46, 47, 48, 49, 50, 51, 52, 53, 54, 55, 56, 57, 58, 59, 60, 61, 62, 63, 64, 65, 66, 67, 68, 69, 70, 71, 72, 73, 74, 75, 76, 77, 78, 79, 80, 81, 82, 83, 84, 85, 86, 87, 88, 89, 90, 91, 92, 93, 94, 95, 96, 97, 98, 99, 100, 101, 102, 103, 104, 105, 106, 107, 108, 109, 110, 111, 112, 113, 114, 115, 116, 117, 118, 119, 120, 121, 122, 123, 124, 125, 126, 127, 128, 129, 130, 131, 132, 133, 134, 135, 136, 137, 138, 139, 140, 141, 142, 143, 144, 145, 146, 147, 148, 149, 150, 151, 152, 153, 154, 155, 156, 157, 158, 159, 160, 161, 162, 163, 164, 165, 166, 167, 168, 169, 170, 171, 172, 173, 174, 175, 176, 177, 178, 179, 180] (by decide +kernel) (by decide +kernel)) (goodIn_sub (fun _ h => List.mem_cons_of_mem _ (List.mem_append_left _ (List.mem_append_right _ h))) (by decide +kernel))) (goodIn_sub (fun _ h => List.mem_cons_of_mem _ (List.mem_append_right _ h)) (by decide +kernel))
set_option maxRecDepth 20000 in
theorem gL_bestAnew_X4_bestAnew : GoodIn wsL_bestAnew (wsV RL 83 RX4 yX4_bestAnew wsX4_bestAnew) := goodIn_app (goodIn_of _ (by decide +kernel)) ggL_bestAnew_X4_bestAnew
theorem dL_bestAnew_0 : decode cL_bestAnew 0 = .ok (.aload 4, 2) := by decide +kernel
theorem dL_bestAnew_2 : decode cL_bestAnew 2 = .ok (.iconst 0, 1) := by decide +kernel
theorem dL_bestAnew_3 : decode cL_bestAnew 3 = .ok (.aload_n 0, 1) := by decide +kernel
theorem dL_bestAnew_4 : decode cL_bestAnew 4 = .ok (.iload_n 1, 1) := by decide +kernel
theorem dL_bestAnew_5 : decode cL_bestAnew 5 = .ok (.iload_n 2, 1) := by decide +kernel
theorem dL_bestAnew_6 : decode cL_bestAnew 6 = .ok (.iload_n 3, 1) := by decide +kernel
theorem dL_bestAnew_7 : decode cL_bestAnew 7 = .ok (.invokevirtual 83, 3) := by decide +kernel
theorem dL_bestAnew_10 : decode cL_bestAnew 10 = .ok (.i2l, 1) := by decide +kernel
theorem dL_bestAnew_11 : decode cL_bestAnew 11 = .ok (.lastore, 1) := by decide +kernel
theorem dL_bestAnew_12 : decode cL_bestAnew 12 = .ok (.goto 11, 3) := by decide +kernel
theorem dL_bestAnew_15 : decode cL_bestAnew 15 = .ok (.astore 5, 2) := by decide +kernel
theorem dL_bestAnew_17 : decode cL_bestAnew 17 = .ok (.iconst 1, 1) := by decide +kernel
theorem dL_bestAnew_18 : decode cL_bestAnew 18 = .ok (.ireturn, 1) := by decide +kernel
theorem dL_bestAnew_19 : decode cL_bestAnew 19 = .ok (.astore 5, 2) := by decide +kernel
theorem dL_bestAnew_21 : decode cL_bestAnew 21 = .ok (.iconst 2, 1) := by decide +kernel
theorem dL_bestAnew_22 : decode cL_bestAnew 22 = .ok (.ireturn, 1) := by decide +kernel
theorem dL_bestAnew_23 : decode cL_bestAnew 23 = .ok (.iconst 0, 1) := by decide +kernel
theorem dL_bestAnew_24 : decode cL_bestAnew 24 = .ok (.ireturn, 1) := by decide +kernel
set_option maxRecDepth 20000 in
theorem ggL_lacks_X4_lacks : GoodIn wsL_lacks wsX4_lacks := goodIn_ca (goodIn_r _ [6, 7, 8, 9, 10, 11, 12, 5, 13, 14, 15, 16, 17, 18, 19, 20, 21, 22, 23, 24, 25, 26, 27, 28, 29, 30, 31, 32, 33, 34, 35, 36, 37, 38, 39, 40, 41, 42, 43, 44, 45, 46, 47, 48, 49, 50, 51, 52, 53, 54, 55, 56, 57, 58, 59, 60, 61, 62, 63, 64, 65, 66, 67, 68, 69, 70, 71, 72, 73, 74, 75, 76, 77, 78, 79, 80, 81, 82, 83, 84, 85, 86, 87, 88, 89, 90, 91, 92, 93] (by decide +kernel) (by decide +kernel)) (goodIn_sub (fun _ h => List.mem_cons_of_mem _ (List.mem_append_right _ h)) (by decide +kernel))
set_option maxRecDepth 20000 in
theorem gL_lacks_X4_lacks : GoodIn wsL_lacks (wsV RL 86 RX4 yX4_lacks wsX4_lacks) := goodIn_app (goodIn_of _ (by decide +kernel)) ggL_lacks_X4_lacks
theorem dL_lacks_0 : decode cL_lacks 0 = .ok (.aload_n 3, 1) := by decide +kernel
theorem dL_lacks_1 : decode cL_lacks 1 = .ok (.iconst 0, 1) := by decide +kernel
theorem dL_lacks_2 : decode cL_lacks 2 = .ok (.aload_n 0, 1) := by decide +kernel
theorem dL_lacks_3 : decode cL_lacks 3 = .ok (.iload_n 1, 1) := by decide +kernel
theorem dL_lacks_4 : decode cL_lacks 4 = .ok (.iload_n 2, 1) := by decide +kernel
theorem dL_lacks_5 : decode cL_lacks 5 = .ok (.invokevirtual 86, 3) := by decide +kernel
theorem dL_lacks_8 : decode cL_lacks 8 = .ok (.i2l, 1) := by decide +kernel
theorem dL_lacks_9 : decode cL_lacks 9 = .ok (.lastore, 1) := by decide +kernel
theorem dL_lacks_10 : decode cL_lacks 10 = .ok (.goto 7, 3) := by decide +kernel
theorem dL_lacks_13 : decode cL_lacks 13 = .ok (.astore 4, 2) := by decide +kernel
theorem dL_lacks_15 : decode cL_lacks 15 = .ok (.iconst 1, 1) := by decide +kernel
theorem dL_lacks_16 : decode cL_lacks 16 = .ok (.ireturn, 1) := by decide +kernel
theorem dL_lacks_17 : decode cL_lacks 17 = .ok (.iconst 0, 1) := by decide +kernel
theorem dL_lacks_18 : decode cL_lacks 18 = .ok (.ireturn, 1) := by decide +kernel
set_option maxRecDepth 20000 in
theorem ggL_ofItem_X4_ofItem : GoodIn wsL_ofItem wsX4_ofItem := goodIn_ca (goodIn_ca (goodIn_r _ [6, 7, 8, 9, 10, 11, 12, 13, 14, 15, 16, 17, 18, 19, 20, 21, 5, 22, 23, 24, 25, 26, 27, 28, 29, 30, 31, 32, 33, 34, 35, 36, 37, 38, 39, 40, 41, 42, 43, 44, 45, 46] (by decide +kernel) (by decide +kernel)) (goodIn_sub (fun _ h => List.mem_cons_of_mem _ (List.mem_append_left _ (List.mem_append_right _ h))) (by decide +kernel))) (goodIn_sub (fun _ h => List.mem_cons_of_mem _ (List.mem_append_right _ h)) (by decide +kernel))
set_option maxRecDepth 20000 in
theorem gL_ofItem_X4_ofItem : GoodIn wsL_ofItem (wsV RL 89 RX4 yX4_ofItem wsX4_ofItem) := goodIn_app (goodIn_of _ (by decide +kernel)) ggL_ofItem_X4_ofItem
theorem dL_ofItem_0 : decode cL_ofItem 0 = .ok (.aload_n 3, 1) := by decide +kernel
theorem dL_ofItem_1 : decode cL_ofItem 1 = .ok (.iconst 0, 1) := by decide +kernel
theorem dL_ofItem_2 : decode cL_ofItem 2 = .ok (.aload_n 0, 1) := by decide +kernel
theorem dL_ofItem_3 : decode cL_ofItem 3 = .ok (.iload_n 1, 1) := by decide +kernel
theorem dL_ofItem_4 : decode cL_ofItem 4 = .ok (.iload_n 2, 1) := by decide +kernel
theorem dL_ofItem_5 : decode cL_ofItem 5 = .ok (.invokevirtual 89, 3) := by decide +kernel
theorem dL_ofItem_8 : decode cL_ofItem 8 = .ok (.i2l, 1) := by decide +kernel
theorem dL_ofItem_9 : decode cL_ofItem 9 = .ok (.lastore, 1) := by decide +kernel
theorem dL_ofItem_10 : decode cL_ofItem 10 = .ok (.goto 11, 3) := by decide +kernel
theorem dL_ofItem_13 : decode cL_ofItem 13 = .ok (.astore 4, 2) := by decide +kernel
theorem dL_ofItem_15 : decode cL_ofItem 15 = .ok (.iconst 1, 1) := by decide +kernel
theorem dL_ofItem_16 : decode cL_ofItem 16 = .ok (.ireturn, 1) := by decide +kernel
theorem dL_ofItem_17 : decode cL_ofItem 17 = .ok (.astore 4, 2) := by decide +kernel
theorem dL_ofItem_19 : decode cL_ofItem 19 = .ok (.iconst 2, 1) := by decide +kernel
theorem dL_ofItem_20 : decode cL_ofItem 20 = .ok (.ireturn, 1) := by decide +kernel
theorem dL_ofItem_21 : decode cL_ofItem 21 = .ok (.iconst 0, 1) := by decide +kernel
theorem dL_ofItem_22 : decode cL_ofItem 22 = .ok (.ireturn, 1) := by decide +kernel
set_option maxRecDepth 20000 in
theorem ggL_ofAccused_X4_ofAccused : GoodIn wsL_ofAccused wsX4_ofAccused := goodIn_ca (goodIn_ca (goodIn_r _ [6, 7, 8, 9, 10, 11, 12, 13, 14, 15, 16, 17, 18, 5, 19, 20, 21, 22, 23, 24, 25, 26, 27, 28, 29, 30, 31, 32, 33, 34, 35, 36, 37, 38, 39, 40, 41, 42, 43, 44, 45, 46, 47, 48, 49, 50, 51, 52, 53, 54, 55, 56, 57, 58, 59, 60, 61, 62, 63, 64, 65, 66, 67, 68, 69, 70, 71, 72, 73, 74, 75, 76, 77, 78, 79, 80, 81, 82, 83, 84, 85, 86, 87, 88, 89, 90, 91, 92, 93, 94] (by decide +kernel) (by decide +kernel)) (goodIn_sub (fun _ h => List.mem_cons_of_mem _ (List.mem_append_left _ (List.mem_append_right _ h))) (by decide +kernel))) (goodIn_sub (fun _ h => List.mem_cons_of_mem _ (List.mem_append_right _ h)) (by decide +kernel))
set_option maxRecDepth 20000 in
theorem gL_ofAccused_X4_ofAccused : GoodIn wsL_ofAccused (wsV RL 92 RX4 yX4_ofAccused wsX4_ofAccused) := goodIn_app (goodIn_of _ (by decide +kernel)) ggL_ofAccused_X4_ofAccused
theorem dL_ofAccused_0 : decode cL_ofAccused 0 = .ok (.aload 4, 2) := by decide +kernel
theorem dL_ofAccused_2 : decode cL_ofAccused 2 = .ok (.iconst 0, 1) := by decide +kernel
theorem dL_ofAccused_3 : decode cL_ofAccused 3 = .ok (.aload_n 0, 1) := by decide +kernel
theorem dL_ofAccused_4 : decode cL_ofAccused 4 = .ok (.iload_n 1, 1) := by decide +kernel
theorem dL_ofAccused_5 : decode cL_ofAccused 5 = .ok (.iload_n 2, 1) := by decide +kernel
theorem dL_ofAccused_6 : decode cL_ofAccused 6 = .ok (.iload_n 3, 1) := by decide +kernel
theorem dL_ofAccused_7 : decode cL_ofAccused 7 = .ok (.invokevirtual 92, 3) := by decide +kernel
theorem dL_ofAccused_10 : decode cL_ofAccused 10 = .ok (.i2l, 1) := by decide +kernel
theorem dL_ofAccused_11 : decode cL_ofAccused 11 = .ok (.lastore, 1) := by decide +kernel
theorem dL_ofAccused_12 : decode cL_ofAccused 12 = .ok (.goto 11, 3) := by decide +kernel
theorem dL_ofAccused_15 : decode cL_ofAccused 15 = .ok (.astore 5, 2) := by decide +kernel
theorem dL_ofAccused_17 : decode cL_ofAccused 17 = .ok (.iconst 1, 1) := by decide +kernel
theorem dL_ofAccused_18 : decode cL_ofAccused 18 = .ok (.ireturn, 1) := by decide +kernel
theorem dL_ofAccused_19 : decode cL_ofAccused 19 = .ok (.astore 5, 2) := by decide +kernel
theorem dL_ofAccused_21 : decode cL_ofAccused 21 = .ok (.iconst 2, 1) := by decide +kernel
theorem dL_ofAccused_22 : decode cL_ofAccused 22 = .ok (.ireturn, 1) := by decide +kernel
theorem dL_ofAccused_23 : decode cL_ofAccused 23 = .ok (.iconst 0, 1) := by decide +kernel
theorem dL_ofAccused_24 : decode cL_ofAccused 24 = .ok (.ireturn, 1) := by decide +kernel
set_option maxRecDepth 20000 in
theorem ggL_count_X4_count : GoodIn wsL_count wsX4_count := goodIn_ca (goodIn_r _ [6, 7, 8, 9, 10, 11, 12, 13, 14, 15, 16, 17, 18, 19, 20, 21, 22, 23, 24, 25, 26, 27] (by decide +kernel) (by decide +kernel)) (goodIn_sub (fun _ h => List.mem_cons_of_mem _ (List.mem_append_right _ h)) (by decide +kernel))
set_option maxRecDepth 20000 in
theorem gL_count_X4_count : GoodIn wsL_count (wsV RL 95 RX4 yX4_count wsX4_count) := goodIn_app (goodIn_of _ (by decide +kernel)) ggL_count_X4_count
theorem dL_count_0 : decode cL_count 0 = .ok (.aload_n 2, 1) := by decide +kernel
theorem dL_count_1 : decode cL_count 1 = .ok (.iconst 0, 1) := by decide +kernel
theorem dL_count_2 : decode cL_count 2 = .ok (.aload_n 0, 1) := by decide +kernel
theorem dL_count_3 : decode cL_count 3 = .ok (.iload_n 1, 1) := by decide +kernel
theorem dL_count_4 : decode cL_count 4 = .ok (.invokevirtual 95, 3) := by decide +kernel
theorem dL_count_7 : decode cL_count 7 = .ok (.i2l, 1) := by decide +kernel
theorem dL_count_8 : decode cL_count 8 = .ok (.lastore, 1) := by decide +kernel
theorem dL_count_9 : decode cL_count 9 = .ok (.goto 6, 3) := by decide +kernel
theorem dL_count_12 : decode cL_count 12 = .ok (.astore_n 3, 1) := by decide +kernel
theorem dL_count_13 : decode cL_count 13 = .ok (.iconst 1, 1) := by decide +kernel
theorem dL_count_14 : decode cL_count 14 = .ok (.ireturn, 1) := by decide +kernel
theorem dL_count_15 : decode cL_count 15 = .ok (.iconst 0, 1) := by decide +kernel
theorem dL_count_16 : decode cL_count 16 = .ok (.ireturn, 1) := by decide +kernel
set_option maxRecDepth 20000 in
theorem ggL_law_X4_init : GoodIn wsL_law wsX4_init := goodIn_r _ [9, 10, 11, 12, 13, 14, 15, 16, 17, 18, 714, 715, 716, 717, 718, 719, 720, 721, 722, 723, 724, 725, 726] (by decide +kernel) (by decide +kernel)
set_option maxRecDepth 20000 in
theorem gL_law_X4_init : GoodIn wsL_law (wsX4_init) := ggL_law_X4_init
set_option maxRecDepth 20000 in
theorem ggL_law_X5_init : GoodIn wsL_law wsX5_init := goodIn_r _ [21, 22, 11, 12, 23, 24, 25, 26, 27, 28, 29, 30, 31, 32, 33, 34, 35, 36, 37, 38, 39, 40, 41, 42, 43, 44, 45, 46, 47, 48, 49, 50, 51, 52, 53, 54, 55, 56, 727, 728, 729, 730, 731, 732, 733, 734, 735, 736, 737, 738, 739, 740, 741, 742, 743, 744, 745, 746, 747, 748, 749, 750, 751, 752, 753, 754, 755, 756, 757, 758, 759, 760, 761, 762, 763, 764] (by decide +kernel) (by decide +kernel)
set_option maxRecDepth 20000 in
theorem gL_law_X5_init : GoodIn wsL_law (wsX5_init) := ggL_law_X5_init
set_option maxRecDepth 20000 in
theorem ggL_law_L_offence : GoodIn wsL_law wsL_offence := goodIn_ca (goodIn_ca (goodIn_r _ [60, 61, 62, 63, 64, 2, 65, 66, 67, 68, 69, 70, 14, 13, 71, 72, 73, 74, 75, 76, 77, 78, 79, 11, 12, 80, 81, 82, 714, 715, 716, 717, 718, 719, 720, 721, 722, 723, 724, 725, 726, 765, 766, 767, 768] (by decide +kernel) (by decide +kernel)) (goodIn_sub (fun _ h => List.mem_append_left _ (List.mem_append_left _ (List.mem_append_right _ h))) (by decide +kernel))) (goodIn_sub (fun _ h => List.mem_append_left _ (List.mem_append_right _ h)) (by decide +kernel))
set_option maxRecDepth 20000 in
theorem gL_law_L_offence : GoodIn wsL_law (va_wsS RL 102 yL_offence wsL_offence) := goodIn_app (goodIn_of _ (by decide +kernel)) ggL_law_L_offence
set_option maxRecDepth 20000 in
theorem ggL_law_X5_offence : GoodIn wsL_law wsX5_offence := goodIn_r _ [86, 87, 24, 25, 26, 88, 89, 5, 90, 91, 92, 93, 94, 95, 727, 728, 729, 730, 731, 732, 733, 734, 735, 736, 737, 738, 739, 740, 741, 742, 743, 744, 745, 746, 747, 748, 749, 750, 751, 752, 753, 754, 755, 756, 757, 758, 759, 760, 761, 762, 763, 764] (by decide +kernel) (by decide +kernel)
set_option maxRecDepth 20000 in
theorem gL_law_X5_offence : GoodIn wsL_law (wsV RL 107 RX5 yX5_offence wsX5_offence) := goodIn_app (goodIn_of _ (by decide +kernel)) ggL_law_X5_offence
set_option maxRecDepth 20000 in
theorem ggL_law_X5_thrown : GoodIn wsL_law wsX5_thrown := goodIn_r _ [99, 95, 727, 728, 729, 730, 731, 732, 733, 734, 735, 736, 737, 738, 739, 740, 741, 742, 743, 744, 745, 746, 747, 748, 749, 750, 751, 752, 753, 754, 755, 756, 757, 758, 759, 760, 761, 762, 763, 764] (by decide +kernel) (by decide +kernel)
set_option maxRecDepth 20000 in
theorem gL_law_X5_thrown : GoodIn wsL_law (wsV RL 108 RX5 yX5_thrown wsX5_thrown) := goodIn_app (goodIn_of _ (by decide +kernel)) ggL_law_X5_thrown
set_option maxRecDepth 20000 in
theorem ggL_law_L_exclude : GoodIn wsL_law wsL_exclude := goodIn_ca (goodIn_ca (goodIn_r _ [102, 103, 104, 105, 106, 2, 107, 108, 109, 66, 67, 110, 111, 112, 113, 114, 14, 115, 116, 117, 72, 118, 119, 120, 121, 765, 766, 767, 768, 714, 715, 716, 717, 718, 719, 720, 721, 722, 723, 724, 725, 726] (by decide +kernel) (by decide +kernel)) (goodIn_sub (fun _ h => List.mem_append_right _ h) (by decide +kernel))) (goodIn_sub (fun _ h => List.mem_append_left _ (List.mem_append_left _ (List.mem_append_right _ h))) (by decide +kernel))
set_option maxRecDepth 20000 in
theorem gL_law_L_exclude : GoodIn wsL_law (va_wsS RL 112 yL_exclude wsL_exclude) := goodIn_app (goodIn_of _ (by decide +kernel)) ggL_law_L_exclude
set_option maxRecDepth 20000 in
theorem ggL_law_X5_exclude : GoodIn wsL_law wsX5_exclude := goodIn_r _ [125, 27, 126, 127, 128, 5, 129, 87, 88, 89, 90, 91, 92, 93, 94, 95, 130, 131, 132, 727, 728, 729, 730, 731, 732, 733, 734, 735, 736, 737, 738, 739, 740, 741, 742, 743, 744, 745, 746, 747, 748, 749, 750, 751, 752, 753, 754, 755, 756, 757, 758, 759, 760, 761, 762, 763, 764] (by decide +kernel) (by decide +kernel)
set_option maxRecDepth 20000 in
theorem gL_law_X5_exclude : GoodIn wsL_law (wsV RL 115 RX5 yX5_exclude wsX5_exclude) := goodIn_app (goodIn_of _ (by decide +kernel)) ggL_law_X5_exclude
set_option maxRecDepth 20000 in
theorem ggL_law_L_pass : GoodIn wsL_law wsL_pass := goodIn_ca (goodIn_ca (goodIn_r _ [135, 61, 136, 137, 138, 2, 139, 66, 67, 68, 69, 140, 16, 141, 73, 74, 75, 142, 143, 144, 145, 146, 147, 148, 149, 150, 151, 152, 153, 154, 155, 156, 157, 158, 159, 160, 161, 162, 163, 164, 165, 166, 167, 168, 169, 170, 120, 121, 714, 715, 716, 717, 718, 719, 720, 721, 722, 723, 724, 725, 726, 769, 770, 771, 772, 773, 774, 775, 776, 777, 778, 779, 780, 781, 782, 783, 784, 785, 786, 787] (by decide +kernel) (by decide +kernel)) (goodIn_sub (fun _ h => List.mem_append_left _ (List.mem_append_left _ (List.mem_append_right _ h))) (by decide +kernel))) (goodIn_sub (fun _ h => List.mem_append_left _ (List.mem_append_right _ h)) (by decide +kernel))
set_option maxRecDepth 20000 in
theorem gL_law_L_pass : GoodIn wsL_law (va_wsS RL 116 yL_pass wsL_pass) := goodIn_app (goodIn_of _ (by decide +kernel)) ggL_law_L_pass
set_option maxRecDepth 20000 in
theorem ggL_law_X5_pass : GoodIn wsL_law wsX5_pass := goodIn_r _ [174, 175, 46, 88, 89, 5, 90, 91, 92, 93, 94, 95, 176, 177, 178, 179, 42, 47, 48, 49, 56, 727, 728, 729, 730, 731, 732, 733, 734, 735, 736, 737, 738, 739, 740, 741, 742, 743, 744, 745, 746, 747, 748, 749, 750, 751, 752, 753, 754, 755, 756, 757, 758, 759, 760, 761, 762, 763, 764] (by decide +kernel) (by decide +kernel)
set_option maxRecDepth 20000 in
theorem gL_law_X5_pass : GoodIn wsL_law (wsV RL 119 RX5 yX5_pass wsX5_pass) := goodIn_app (goodIn_of _ (by decide +kernel)) ggL_law_X5_pass
set_option maxRecDepth 20000 in
theorem ggL_law_L_file : GoodIn wsL_law wsL_file := goodIn_ca (goodIn_ca (goodIn_r _ [182, 61, 183, 184, 185, 2, 186, 66, 67, 68, 69, 140, 187, 16, 15, 188, 145, 189, 190, 191, 152, 192, 73, 74, 75, 193, 194, 195, 196, 11, 12, 197, 147, 198, 199, 200, 201, 202, 120, 121, 203, 204, 205, 206, 158, 23, 207, 208, 209, 714, 715, 716, 717, 718, 719, 720, 721, 722, 723, 724, 725, 726, 769, 770, 771, 772, 773, 774, 775, 776, 777, 778, 779, 780, 781, 782, 783, 784, 785, 786, 787] (by decide +kernel) (by decide +kernel)) (goodIn_sub (fun _ h => List.mem_append_left _ (List.mem_append_left _ (List.mem_append_right _ h))) (by decide +kernel))) (goodIn_sub (fun _ h => List.mem_append_left _ (List.mem_append_right _ h)) (by decide +kernel))
set_option maxRecDepth 20000 in
theorem gL_law_L_file : GoodIn wsL_law (va_wsS RL 120 yL_file wsL_file) := goodIn_app (goodIn_of _ (by decide +kernel)) ggL_law_L_file
set_option maxRecDepth 20000 in
theorem ggL_law_X5_file : GoodIn wsL_law wsX5_file := goodIn_r _ [213, 175, 214, 28, 29, 30, 88, 89, 5, 90, 91, 92, 93, 94, 95, 727, 728, 729, 730, 731, 732, 733, 734, 735, 736, 737, 738, 739, 740, 741, 742, 743, 744, 745, 746, 747, 748, 749, 750, 751, 752, 753, 754, 755, 756, 757, 758, 759, 760, 761, 762, 763, 764] (by decide +kernel) (by decide +kernel)
set_option maxRecDepth 20000 in
theorem gL_law_X5_file : GoodIn wsL_law (wsV RL 122 RX5 yX5_file wsX5_file) := goodIn_app (goodIn_of _ (by decide +kernel)) ggL_law_X5_file
set_option maxRecDepth 20000 in
theorem ggL_law_L_item : GoodIn wsL_law wsL_item := goodIn_ca (goodIn_ca (goodIn_ca (goodIn_r _ [217, 103, 218, 219, 220, 2, 221, 108, 109, 66, 67, 68, 69, 222, 18, 17, 223, 224, 140, 225, 226, 227, 228, 16, 73, 74, 75, 229, 230, 231, 145, 232, 200, 233, 234, 235, 236, 11, 12, 237, 238, 239, 240, 241, 242, 243, 244, 714, 715, 716, 717, 718, 719, 720, 721, 722, 723, 724, 725, 726, 788, 789, 790, 791, 792, 793, 794, 795, 796, 797, 769, 770, 771, 772, 773] (by decide +kernel) (by decide +kernel)) (goodIn_sub (fun _ h => List.mem_append_right _ h) (by decide +kernel))) (goodIn_sub (fun _ h => List.mem_append_left _ (List.mem_append_left _ (List.mem_append_right _ h))) (by decide +kernel))) (goodIn_sub (fun _ h => List.mem_append_left _ (List.mem_append_right _ h)) (by decide +kernel))
set_option maxRecDepth 20000 in
theorem gL_law_L_item : GoodIn wsL_law (va_wsS RL 123 yL_item wsL_item) := goodIn_app (goodIn_of _ (by decide +kernel)) ggL_law_L_item
set_option maxRecDepth 20000 in
theorem ggL_law_X5_item : GoodIn wsL_law wsX5_item := goodIn_r _ [248, 214, 29, 249, 31, 32, 33, 34, 35, 37, 38, 175, 39, 88, 89, 5, 90, 91, 92, 93, 94, 95, 727, 728, 729, 730, 731, 732, 733, 734, 735, 736, 737, 738, 739, 740, 741, 742, 743, 744, 745, 746, 747, 748, 749, 750, 751, 752, 753, 754, 755, 756, 757, 758, 759, 760, 761, 762, 763, 764] (by decide +kernel) (by decide +kernel)
set_option maxRecDepth 20000 in
theorem gL_law_X5_item : GoodIn wsL_law (wsV RL 126 RX5 yX5_item wsX5_item) := goodIn_app (goodIn_of _ (by decide +kernel)) ggL_law_X5_item
set_option maxRecDepth 20000 in
theorem ggL_law_L_admit : GoodIn wsL_law wsL_admit := goodIn_ca (goodIn_ca (goodIn_r _ [252, 103, 253, 254, 255, 2, 256, 108, 109, 68, 69, 257, 258, 140, 259, 260, 261, 262, 18, 788, 789, 790, 791, 792, 793, 794, 795, 796, 797, 714, 715, 716, 717, 718, 719, 720, 721, 722, 723, 724, 725, 726] (by decide +kernel) (by decide +kernel)) (goodIn_sub (fun _ h => List.mem_append_right _ h) (by decide +kernel))) (goodIn_sub (fun _ h => List.mem_append_left _ (List.mem_append_right _ h)) (by decide +kernel))
set_option maxRecDepth 20000 in
theorem gL_law_L_admit : GoodIn wsL_law (va_wsS RL 127 yL_admit wsL_admit) := goodIn_app (goodIn_of _ (by decide +kernel)) ggL_law_L_admit
set_option maxRecDepth 20000 in
theorem ggL_law_X5_admit : GoodIn wsL_law wsX5_admit := goodIn_r _ [266, 35, 39, 175, 267, 268, 269, 5, 270, 249, 88, 89, 90, 91, 92, 93, 94, 95, 727, 728, 729, 730, 731, 732, 733, 734, 735, 736, 737, 738, 739, 740, 741, 742, 743, 744, 745, 746, 747, 748, 749, 750, 751, 752, 753, 754, 755, 756, 757, 758, 759, 760, 761, 762, 763, 764] (by decide +kernel) (by decide +kernel)
set_option maxRecDepth 20000 in
theorem gL_law_X5_admit : GoodIn wsL_law (wsV RL 130 RX5 yX5_admit wsX5_admit) := goodIn_app (goodIn_of _ (by decide +kernel)) ggL_law_X5_admit
set_option maxRecDepth 20000 in
theorem ggL_law_L_show : GoodIn wsL_law wsL_show := goodIn_ca (goodIn_ca (goodIn_r _ [273, 103, 274, 275, 276, 2, 277, 108, 109, 68, 69, 278, 279, 259, 260, 261, 262, 18, 73, 74, 75, 280, 281, 282, 224, 283, 241, 120, 121, 284, 285, 286, 287, 288, 289, 290, 291, 292, 293, 294, 295, 296, 240, 297, 298, 299, 788, 789, 790, 791, 792, 793, 794, 795, 796, 797, 714, 715, 716, 717, 718, 719, 720, 721, 722, 723, 724, 725, 726] (by decide +kernel) (by decide +kernel)) (goodIn_sub (fun _ h => List.mem_append_right _ h) (by decide +kernel))) (goodIn_sub (fun _ h => List.mem_append_left _ (List.mem_append_right _ h)) (by decide +kernel))
set_option maxRecDepth 20000 in
theorem gL_law_L_show : GoodIn wsL_law (va_wsS RL 131 yL_show wsL_show) := goodIn_app (goodIn_of _ (by decide +kernel)) ggL_law_L_show
set_option maxRecDepth 20000 in
theorem ggL_law_X5_show : GoodIn wsL_law wsX5_show := goodIn_r _ [303, 34, 40, 31, 267, 268, 269, 5, 270, 249, 88, 89, 90, 130, 131, 132, 91, 92, 93, 94, 95, 304, 305, 306, 307, 33, 41, 727, 728, 729, 730, 731, 732, 733, 734, 735, 736, 737, 738, 739, 740, 741, 742, 743, 744, 745, 746, 747, 748, 749, 750, 751, 752, 753, 754, 755, 756, 757, 758, 759, 760, 761, 762, 763, 764] (by decide +kernel) (by decide +kernel)
set_option maxRecDepth 20000 in
theorem gL_law_X5_show : GoodIn wsL_law (wsV RL 133 RX5 yX5_show wsX5_show) := goodIn_app (goodIn_of _ (by decide +kernel)) ggL_law_X5_show
set_option maxRecDepth 20000 in
theorem ggL_law_L_withhold : GoodIn wsL_law wsL_withhold := goodIn_ca (goodIn_ca (goodIn_r _ [310, 103, 311, 312, 313, 2, 314, 108, 109, 68, 69, 315, 316, 259, 260, 261, 262, 18, 788, 789, 790, 791, 792, 793, 794, 795, 796, 797, 714, 715, 716, 717, 718, 719, 720, 721, 722, 723, 724, 725, 726] (by decide +kernel) (by decide +kernel)) (goodIn_sub (fun _ h => List.mem_append_right _ h) (by decide +kernel))) (goodIn_sub (fun _ h => List.mem_append_left _ (List.mem_append_right _ h)) (by decide +kernel))
set_option maxRecDepth 20000 in
theorem gL_law_L_withhold : GoodIn wsL_law (va_wsS RL 134 yL_withhold wsL_withhold) := goodIn_app (goodIn_of _ (by decide +kernel)) ggL_law_L_withhold
set_option maxRecDepth 20000 in
theorem ggL_law_X5_withhold : GoodIn wsL_law wsX5_withhold := goodIn_r _ [320, 37, 41, 267, 268, 269, 5, 270, 249, 88, 89, 90, 91, 92, 93, 94, 95, 727, 728, 729, 730, 731, 732, 733, 734, 735, 736, 737, 738, 739, 740, 741, 742, 743, 744, 745, 746, 747, 748, 749, 750, 751, 752, 753, 754, 755, 756, 757, 758, 759, 760, 761, 762, 763, 764] (by decide +kernel) (by decide +kernel)
set_option maxRecDepth 20000 in
theorem gL_law_X5_withhold : GoodIn wsL_law (wsV RL 136 RX5 yX5_withhold wsX5_withhold) := goodIn_app (goodIn_of _ (by decide +kernel)) ggL_law_X5_withhold
set_option maxRecDepth 20000 in
theorem ggL_law_L_charge : GoodIn wsL_law wsL_charge := goodIn_ca (goodIn_ca (goodIn_ca (goodIn_r _ [323, 103, 324, 325, 326, 2, 327, 68, 69, 328, 140, 329, 330, 331, 332, 333, 334, 108, 109, 225, 226, 227, 228, 16, 335, 336, 337, 145, 338, 147, 339, 340, 341, 342, 66, 67, 70, 343, 344, 345, 346, 14, 347, 348, 349, 350, 351, 352, 353, 354, 355, 356, 357, 358, 359, 360, 361, 362, 72, 363, 80, 364, 365, 366, 367, 368, 369, 370, 152, 371, 207, 372, 373, 374, 375, 376, 202, 120, 121, 377, 378, 379, 380, 18, 279, 192, 381, 382, 383, 280, 281, 282, 224, 283, 241, 384, 385, 386, 387, 237, 244, 242, 388, 389, 390, 391, 392, 393, 394, 395, 396, 397, 398, 399, 400, 401, 402, 111, 112, 113, 114, 115, 116, 117, 118, 119, 403, 404, 405, 406, 774, 775, 776, 777, 778, 779, 780, 781, 782, 783, 784, 785, 786, 787, 714, 715, 716, 717, 718, 719, 720, 721, 722, 723, 724, 725, 726, 769, 770, 771, 772, 773, 765, 766, 767, 768, 788, 789, 790, 791, 792, 793, 794, 795, 796, 797] (by decide +kernel) (by decide +kernel)) (goodIn_sub (fun _ h => List.mem_append_left _ (List.mem_append_right _ h)) (by decide +kernel))) (goodIn_sub (fun _ h => List.mem_append_right _ h) (by decide +kernel))) (goodIn_sub (fun _ h => List.mem_append_left _ (List.mem_append_left _ (List.mem_append_right _ h))) (by decide +kernel))
set_option maxRecDepth 20000 in
theorem gL_law_L_charge : GoodIn wsL_law (va_wsS RL 137 yL_charge wsL_charge) := goodIn_app (goodIn_of _ (by decide +kernel)) ggL_law_L_charge
set_option maxRecDepth 20000 in
theorem ggL_law_X5_charge : GoodIn wsL_law wsX5_charge := goodIn_r _ [410, 42, 175, 43, 44, 48, 411, 412, 413, 5, 414, 214, 29, 88, 89, 90, 130, 131, 132, 415, 416, 417, 418, 87, 419, 420, 421, 422, 27, 423, 424, 425, 426, 427, 428, 429, 28, 26, 25, 30, 430, 431, 432, 433, 434, 53, 54, 55, 435, 436, 437, 438, 24, 439, 440, 441, 442, 443, 444, 445, 446, 249, 31, 32, 34, 35, 39, 38, 33, 91, 92, 93, 94, 95, 447, 448, 449, 450, 727, 728, 729, 730, 731, 732, 733, 734, 735, 736, 737, 738, 739, 740, 741, 742, 743, 744, 745, 746, 747, 748, 749, 750, 751, 752, 753, 754, 755, 756, 757, 758, 759, 760, 761, 762, 763, 764] (by decide +kernel) (by decide +kernel)
set_option maxRecDepth 20000 in
theorem gL_law_X5_charge : GoodIn wsL_law (wsV RL 139 RX5 yX5_charge wsX5_charge) := goodIn_app (goodIn_of _ (by decide +kernel)) ggL_law_X5_charge
set_option maxRecDepth 20000 in
theorem ggL_law_L_drop : GoodIn wsL_law wsL_drop := goodIn_ca (goodIn_ca (goodIn_r _ [453, 103, 454, 455, 456, 2, 457, 68, 69, 328, 140, 458, 459, 460, 461, 331, 332, 333, 334, 108, 109, 225, 226, 227, 228, 16, 335, 336, 337, 145, 338, 147, 774, 775, 776, 777, 778, 779, 780, 781, 782, 783, 784, 785, 786, 787, 714, 715, 716, 717, 718, 719, 720, 721, 722, 723, 724, 725, 726, 769, 770, 771, 772, 773] (by decide +kernel) (by decide +kernel)) (goodIn_sub (fun _ h => List.mem_append_left _ (List.mem_append_right _ h)) (by decide +kernel))) (goodIn_sub (fun _ h => List.mem_append_right _ h) (by decide +kernel))
set_option maxRecDepth 20000 in
theorem gL_law_L_drop : GoodIn wsL_law (va_wsS RL 140 yL_drop wsL_drop) := goodIn_app (goodIn_of _ (by decide +kernel)) ggL_law_L_drop
set_option maxRecDepth 20000 in
theorem ggL_law_X5_drop : GoodIn wsL_law wsX5_drop := goodIn_r _ [465, 42, 44, 175, 45, 46, 56, 411, 412, 413, 5, 414, 214, 29, 88, 89, 90, 130, 131, 132, 91, 92, 93, 94, 95, 727, 728, 729, 730, 731, 732, 733, 734, 735, 736, 737, 738, 739, 740, 741, 742, 743, 744, 745, 746, 747, 748, 749, 750, 751, 752, 753, 754, 755, 756, 757, 758, 759, 760, 761, 762, 763, 764] (by decide +kernel) (by decide +kernel)
set_option maxRecDepth 20000 in
theorem gL_law_X5_drop : GoodIn wsL_law (wsV RL 143 RX5 yX5_drop wsX5_drop) := goodIn_app (goodIn_of _ (by decide +kernel)) ggL_law_X5_drop
set_option maxRecDepth 20000 in
theorem ggL_law_L_review : GoodIn wsL_law wsL_review := goodIn_ca (goodIn_ca (goodIn_r _ [468, 103, 469, 470, 471, 2, 472, 68, 69, 328, 140, 458, 459, 473, 331, 332, 333, 334, 108, 109, 225, 226, 227, 228, 16, 335, 336, 337, 145, 338, 147, 343, 344, 345, 346, 14, 347, 348, 349, 350, 351, 352, 353, 354, 355, 356, 357, 358, 359, 360, 361, 362, 72, 363, 80, 364, 365, 366, 367, 368, 369, 370, 152, 371, 207, 372, 373, 374, 375, 376, 202, 120, 121, 377, 378, 379, 380, 18, 279, 192, 381, 382, 383, 280, 281, 282, 224, 283, 241, 384, 385, 386, 387, 237, 244, 242, 774, 775, 776, 777, 778, 779, 780, 781, 782, 783, 784, 785, 786, 787, 714, 715, 716, 717, 718, 719, 720, 721, 722, 723, 724, 725, 726, 769, 770, 771, 772, 773, 765, 766, 767, 768, 788, 789, 790, 791, 792, 793, 794, 795, 796, 797] (by decide +kernel) (by decide +kernel)) (goodIn_sub (fun _ h => List.mem_append_left _ (List.mem_append_right _ h)) (by decide +kernel))) (goodIn_sub (fun _ h => List.mem_append_right _ h) (by decide +kernel))
set_option maxRecDepth 20000 in
theorem gL_law_L_review : GoodIn wsL_law (va_wsS RL 144 yL_review wsL_review) := goodIn_app (goodIn_of _ (by decide +kernel)) ggL_law_L_review
set_option maxRecDepth 20000 in
theorem ggL_law_X5_review : GoodIn wsL_law wsX5_review := goodIn_r _ [477, 42, 175, 44, 45, 87, 56, 411, 412, 413, 5, 414, 214, 29, 88, 89, 90, 130, 131, 132, 91, 92, 93, 94, 95, 426, 427, 428, 429, 28, 26, 25, 30, 430, 431, 432, 433, 434, 53, 54, 55, 435, 436, 437, 438, 24, 439, 440, 441, 442, 443, 444, 445, 446, 249, 31, 32, 34, 35, 39, 38, 33, 727, 728, 729, 730, 731, 732, 733, 734, 735, 736, 737, 738, 739, 740, 741, 742, 743, 744, 745, 746, 747, 748, 749, 750, 751, 752, 753, 754, 755, 756, 757, 758, 759, 760, 761, 762, 763, 764] (by decide +kernel) (by decide +kernel)
set_option maxRecDepth 20000 in
theorem gL_law_X5_review : GoodIn wsL_law (wsV RL 146 RX5 yX5_review wsX5_review) := goodIn_app (goodIn_of _ (by decide +kernel)) ggL_law_X5_review
set_option maxRecDepth 20000 in
theorem ggL_law_L_trial : GoodIn wsL_law wsL_trial := goodIn_ca (goodIn_ca (goodIn_r _ [480, 103, 481, 482, 483, 2, 484, 68, 69, 328, 485, 486, 329, 140, 331, 332, 333, 334, 108, 109, 225, 226, 227, 228, 16, 335, 336, 337, 145, 338, 147, 289, 290, 291, 292, 18, 279, 293, 294, 295, 224, 296, 240, 297, 298, 281, 282, 283, 241, 120, 121, 299, 285, 286, 287, 288, 487, 488, 489, 490, 14, 202, 372, 373, 374, 375, 376, 377, 378, 379, 380, 351, 192, 381, 382, 383, 280, 384, 385, 386, 387, 237, 244, 242, 392, 393, 394, 395, 396, 397, 398, 491, 492, 493, 152, 494, 207, 495, 496, 159, 161, 158, 774, 775, 776, 777, 778, 779, 780, 781, 782, 783, 784, 785, 786, 787, 714, 715, 716, 717, 718, 719, 720, 721, 722, 723, 724, 725, 726, 769, 770, 771, 772, 773, 788, 789, 790, 791, 792, 793, 794, 795, 796, 797, 765, 766, 767, 768] (by decide +kernel) (by decide +kernel)) (goodIn_sub (fun _ h => List.mem_append_left _ (List.mem_append_right _ h)) (by decide +kernel))) (goodIn_sub (fun _ h => List.mem_append_right _ h) (by decide +kernel))
set_option maxRecDepth 20000 in
theorem gL_law_L_trial : GoodIn wsL_law (va_wsS RL 147 yL_trial wsL_trial) := goodIn_app (goodIn_of _ (by decide +kernel)) ggL_law_L_trial
set_option maxRecDepth 20000 in
theorem ggL_law_X5_trial : GoodIn wsL_law wsX5_trial := goodIn_r _ [500, 42, 87, 43, 175, 56, 52, 411, 412, 413, 5, 414, 214, 29, 88, 89, 90, 130, 131, 132, 304, 305, 306, 307, 249, 31, 33, 34, 40, 41, 91, 92, 93, 94, 95, 439, 440, 441, 442, 24, 443, 444, 445, 446, 32, 35, 39, 38, 423, 424, 425, 501, 502, 503, 504, 53, 434, 54, 55, 48, 46, 727, 728, 729, 730, 731, 732, 733, 734, 735, 736, 737, 738, 739, 740, 741, 742, 743, 744, 745, 746, 747, 748, 749, 750, 751, 752, 753, 754, 755, 756, 757, 758, 759, 760, 761, 762, 763, 764] (by decide +kernel) (by decide +kernel)
set_option maxRecDepth 20000 in
theorem gL_law_X5_trial : GoodIn wsL_law (wsV RL 149 RX5 yX5_trial wsX5_trial) := goodIn_app (goodIn_of _ (by decide +kernel)) ggL_law_X5_trial
set_option maxRecDepth 20000 in
theorem ggL_law_L_plea : GoodIn wsL_law wsL_plea := goodIn_ca (goodIn_ca (goodIn_ca (goodIn_r _ [507, 103, 508, 509, 510, 2, 511, 68, 69, 328, 329, 140, 330, 512, 485, 513, 331, 332, 333, 334, 108, 109, 225, 226, 227, 228, 16, 335, 336, 337, 145, 338, 147, 339, 340, 341, 342, 66, 67, 70, 403, 404, 405, 406, 14, 354, 202, 120, 121, 514, 515, 516, 392, 393, 394, 395, 396, 397, 398, 491, 492, 493, 152, 494, 207, 495, 496, 159, 161, 158, 774, 775, 776, 777, 778, 779, 780, 781, 782, 783, 784, 785, 786, 787, 714, 715, 716, 717, 718, 719, 720, 721, 722, 723, 724, 725, 726, 769, 770, 771, 772, 773, 765, 766, 767, 768] (by decide +kernel) (by decide +kernel)) (goodIn_sub (fun _ h => List.mem_append_left _ (List.mem_append_right _ h)) (by decide +kernel))) (goodIn_sub (fun _ h => List.mem_append_right _ h) (by decide +kernel))) (goodIn_sub (fun _ h => List.mem_append_left _ (List.mem_append_left _ (List.mem_append_right _ h))) (by decide +kernel))
set_option maxRecDepth 20000 in
theorem gL_law_L_plea : GoodIn wsL_law (va_wsS RL 150 yL_plea wsL_plea) := goodIn_app (goodIn_of _ (by decide +kernel)) ggL_law_L_plea
set_option maxRecDepth 20000 in
theorem ggL_law_X5_plea : GoodIn wsL_law wsX5_plea := goodIn_r _ [520, 42, 43, 175, 44, 51, 52, 56, 411, 412, 413, 5, 414, 214, 29, 88, 89, 90, 130, 131, 132, 415, 416, 417, 418, 87, 447, 448, 449, 450, 25, 91, 92, 93, 94, 95, 423, 424, 425, 501, 502, 503, 504, 53, 434, 54, 55, 48, 46, 727, 728, 729, 730, 731, 732, 733, 734, 735, 736, 737, 738, 739, 740, 741, 742, 743, 744, 745, 746, 747, 748, 749, 750, 751, 752, 753, 754, 755, 756, 757, 758, 759, 760, 761, 762, 763, 764] (by decide +kernel) (by decide +kernel)
set_option maxRecDepth 20000 in
theorem gL_law_X5_plea : GoodIn wsL_law (wsV RL 152 RX5 yX5_plea wsX5_plea) := goodIn_app (goodIn_of _ (by decide +kernel)) ggL_law_X5_plea
set_option maxRecDepth 20000 in
theorem ggL_law_L_arrest : GoodIn wsL_law wsL_arrest := goodIn_ca (goodIn_ca (goodIn_r _ [523, 103, 524, 525, 526, 2, 527, 68, 69, 328, 460, 331, 332, 333, 334, 108, 109, 225, 226, 227, 228, 16, 335, 336, 337, 145, 338, 147, 528, 163, 164, 152, 165, 158, 159, 160, 166, 167, 168, 169, 170, 120, 121, 774, 775, 776, 777, 778, 779, 780, 781, 782, 783, 784, 785, 786, 787, 714, 715, 716, 717, 718, 719, 720, 721, 722, 723, 724, 725, 726, 769, 770, 771, 772, 773] (by decide +kernel) (by decide +kernel)) (goodIn_sub (fun _ h => List.mem_append_left _ (List.mem_append_right _ h)) (by decide +kernel))) (goodIn_sub (fun _ h => List.mem_append_right _ h) (by decide +kernel))
set_option maxRecDepth 20000 in
theorem gL_law_L_arrest : GoodIn wsL_law (va_wsS RL 153 yL_arrest wsL_arrest) := goodIn_app (goodIn_of _ (by decide +kernel)) ggL_law_L_arrest
set_option maxRecDepth 20000 in
theorem ggL_law_X5_arrest : GoodIn wsL_law wsX5_arrest := goodIn_r _ [532, 42, 46, 411, 412, 413, 5, 414, 214, 29, 88, 89, 90, 130, 131, 132, 533, 534, 535, 536, 48, 49, 47, 91, 92, 93, 94, 95, 727, 728, 729, 730, 731, 732, 733, 734, 735, 736, 737, 738, 739, 740, 741, 742, 743, 744, 745, 746, 747, 748, 749, 750, 751, 752, 753, 754, 755, 756, 757, 758, 759, 760, 761, 762, 763, 764] (by decide +kernel) (by decide +kernel)
set_option maxRecDepth 20000 in
theorem gL_law_X5_arrest : GoodIn wsL_law (wsV RL 155 RX5 yX5_arrest wsX5_arrest) := goodIn_app (goodIn_of _ (by decide +kernel)) ggL_law_X5_arrest
set_option maxRecDepth 20000 in
theorem ggL_law_L_extend : GoodIn wsL_law wsL_extend := goodIn_ca (goodIn_ca (goodIn_ca (goodIn_r _ [539, 103, 540, 541, 542, 2, 543, 66, 67, 68, 69, 328, 544, 331, 332, 333, 334, 108, 109, 225, 226, 227, 228, 16, 335, 336, 337, 145, 338, 147, 73, 74, 75, 202, 120, 121, 545, 167, 168, 152, 169, 170, 774, 775, 776, 777, 778, 779, 780, 781, 782, 783, 784, 785, 786, 787, 714, 715, 716, 717, 718, 719, 720, 721, 722, 723, 724, 725, 726, 769, 770, 771, 772, 773] (by decide +kernel) (by decide +kernel)) (goodIn_sub (fun _ h => List.mem_append_left _ (List.mem_append_left _ (List.mem_append_right _ h))) (by decide +kernel))) (goodIn_sub (fun _ h => List.mem_append_left _ (List.mem_append_right _ h)) (by decide +kernel))) (goodIn_sub (fun _ h => List.mem_append_right _ h) (by decide +kernel))
set_option maxRecDepth 20000 in
theorem gL_law_L_extend : GoodIn wsL_law (va_wsS RL 156 yL_extend wsL_extend) := goodIn_app (goodIn_of _ (by decide +kernel)) ggL_law_L_extend
set_option maxRecDepth 20000 in
theorem ggL_law_X5_extend : GoodIn wsL_law wsX5_extend := goodIn_r _ [549, 42, 50, 49, 411, 412, 413, 5, 414, 214, 29, 88, 89, 90, 130, 131, 132, 91, 92, 93, 94, 95, 727, 728, 729, 730, 731, 732, 733, 734, 735, 736, 737, 738, 739, 740, 741, 742, 743, 744, 745, 746, 747, 748, 749, 750, 751, 752, 753, 754, 755, 756, 757, 758, 759, 760, 761, 762, 763, 764] (by decide +kernel) (by decide +kernel)
set_option maxRecDepth 20000 in
theorem gL_law_X5_extend : GoodIn wsL_law (wsV RL 158 RX5 yX5_extend wsX5_extend) := goodIn_app (goodIn_of _ (by decide +kernel)) ggL_law_X5_extend
set_option maxRecDepth 20000 in
theorem ggL_law_L_release : GoodIn wsL_law wsL_release := goodIn_ca (goodIn_ca (goodIn_r _ [552, 103, 553, 554, 555, 2, 556, 68, 69, 460, 331, 332, 333, 334, 108, 109, 225, 226, 227, 228, 16, 335, 336, 337, 145, 338, 147, 774, 775, 776, 777, 778, 779, 780, 781, 782, 783, 784, 785, 786, 787, 714, 715, 716, 717, 718, 719, 720, 721, 722, 723, 724, 725, 726, 769, 770, 771, 772, 773] (by decide +kernel) (by decide +kernel)) (goodIn_sub (fun _ h => List.mem_append_left _ (List.mem_append_right _ h)) (by decide +kernel))) (goodIn_sub (fun _ h => List.mem_append_right _ h) (by decide +kernel))
set_option maxRecDepth 20000 in
theorem gL_law_L_release : GoodIn wsL_law (va_wsS RL 159 yL_release wsL_release) := goodIn_app (goodIn_of _ (by decide +kernel)) ggL_law_L_release
set_option maxRecDepth 20000 in
theorem ggL_law_X5_release : GoodIn wsL_law wsX5_release := goodIn_r _ [560, 46, 411, 412, 413, 5, 414, 214, 29, 88, 89, 90, 130, 131, 132, 91, 92, 93, 94, 95, 727, 728, 729, 730, 731, 732, 733, 734, 735, 736, 737, 738, 739, 740, 741, 742, 743, 744, 745, 746, 747, 748, 749, 750, 751, 752, 753, 754, 755, 756, 757, 758, 759, 760, 761, 762, 763, 764] (by decide +kernel) (by decide +kernel)
set_option maxRecDepth 20000 in
theorem gL_law_X5_release : GoodIn wsL_law (wsV RL 161 RX5 yX5_release wsX5_release) := goodIn_app (goodIn_of _ (by decide +kernel)) ggL_law_X5_release
set_option maxRecDepth 20000 in
theorem ggL_law_X4_day : GoodIn wsL_law wsX4_day := goodIn_r _ [564, 140, 714, 715, 716, 717, 718, 719, 720, 721, 722, 723, 724, 725, 726] (by decide +kernel) (by decide +kernel)
set_option maxRecDepth 20000 in
theorem gL_law_X4_day : GoodIn wsL_law (wsV RL 162 RX4 yX4_day wsX4_day) := goodIn_app (goodIn_of _ (by decide +kernel)) ggL_law_X4_day
set_option maxRecDepth 20000 in
theorem ggL_law_X5_day : GoodIn wsL_law wsX5_day := goodIn_r _ [568, 95, 175, 727, 728, 729, 730, 731, 732, 733, 734, 735, 736, 737, 738, 739, 740, 741, 742, 743, 744, 745, 746, 747, 748, 749, 750, 751, 752, 753, 754, 755, 756, 757, 758, 759, 760, 761, 762, 763, 764] (by decide +kernel) (by decide +kernel)
set_option maxRecDepth 20000 in
theorem gL_law_X5_day : GoodIn wsL_law (wsV RL 165 RX5 yX5_day wsX5_day) := goodIn_app (goodIn_of _ (by decide +kernel)) ggL_law_X5_day
set_option maxRecDepth 20000 in
theorem ggL_law_L_nests : GoodIn wsL_law wsL_nests := goodIn_ca (goodIn_r _ [571, 103, 572, 573, 574, 2, 575, 108, 109, 111, 112, 113, 114, 14, 576, 365, 366, 72, 367, 80, 714, 715, 716, 717, 718, 719, 720, 721, 722, 723, 724, 725, 726, 765, 766, 767, 768] (by decide +kernel) (by decide +kernel)) (goodIn_sub (fun _ h => List.mem_append_right _ h) (by decide +kernel))
set_option maxRecDepth 20000 in
theorem gL_law_L_nests : GoodIn wsL_law (va_wsS RL 166 yL_nests wsL_nests) := goodIn_app (goodIn_of _ (by decide +kernel)) ggL_law_L_nests
set_option maxRecDepth 20000 in
theorem ggL_law_X5_nests : GoodIn wsL_law wsX5_nests := goodIn_r _ [580, 24, 126, 127, 128, 5, 129, 87, 88, 89, 90, 91, 92, 93, 94, 95, 727, 728, 729, 730, 731, 732, 733, 734, 735, 736, 737, 738, 739, 740, 741, 742, 743, 744, 745, 746, 747, 748, 749, 750, 751, 752, 753, 754, 755, 756, 757, 758, 759, 760, 761, 762, 763, 764] (by decide +kernel) (by decide +kernel)
set_option maxRecDepth 20000 in
theorem gL_law_X5_nests : GoodIn wsL_law (wsV RL 168 RX5 yX5_nests wsX5_nests) := goodIn_app (goodIn_of _ (by decide +kernel)) ggL_law_X5_nests
set_option maxRecDepth 20000 in
theorem ggL_law_L_strength : GoodIn wsL_law wsL_strength := goodIn_ca (goodIn_ca (goodIn_r _ [583, 103, 584, 585, 586, 2, 587, 108, 109, 331, 332, 333, 334, 225, 226, 227, 228, 16, 335, 336, 337, 145, 338, 147, 73, 74, 75, 588, 589, 590, 591, 66, 67, 140, 377, 378, 379, 380, 18, 279, 351, 192, 381, 382, 383, 280, 281, 282, 224, 283, 241, 120, 121, 384, 385, 386, 387, 237, 244, 242, 714, 715, 716, 717, 718, 719, 720, 721, 722, 723, 724, 725, 726, 769, 770, 771, 772, 773, 788, 789, 790, 791, 792, 793, 794, 795, 796, 797, 774, 775, 776, 777, 778, 779, 780, 781, 782, 783, 784, 785, 786, 787] (by decide +kernel) (by decide +kernel)) (goodIn_sub (fun _ h => List.mem_append_right _ h) (by decide +kernel))) (goodIn_sub (fun _ h => List.mem_append_left _ (List.mem_append_left _ (List.mem_append_right _ h))) (by decide +kernel))
set_option maxRecDepth 20000 in
theorem gL_law_L_strength : GoodIn wsL_law (va_wsS RL 169 yL_strength wsL_strength) := goodIn_app (goodIn_of _ (by decide +kernel)) ggL_law_L_strength
set_option maxRecDepth 20000 in
theorem ggL_law_X5_strength : GoodIn wsL_law wsX5_strength := goodIn_r _ [595, 175, 411, 412, 413, 5, 414, 214, 29, 88, 89, 90, 130, 131, 132, 91, 92, 93, 94, 95, 443, 444, 445, 446, 249, 31, 32, 34, 35, 39, 38, 33, 727, 728, 729, 730, 731, 732, 733, 734, 735, 736, 737, 738, 739, 740, 741, 742, 743, 744, 745, 746, 747, 748, 749, 750, 751, 752, 753, 754, 755, 756, 757, 758, 759, 760, 761, 762, 763, 764] (by decide +kernel) (by decide +kernel)
set_option maxRecDepth 20000 in
theorem gL_law_X5_strength : GoodIn wsL_law (wsV RL 172 RX5 yX5_strength wsX5_strength) := goodIn_app (goodIn_of _ (by decide +kernel)) ggL_law_X5_strength
set_option maxRecDepth 20000 in
theorem ggL_law_L_whyNot : GoodIn wsL_law wsL_whyNot := goodIn_ca (goodIn_ca (goodIn_r _ [598, 103, 599, 600, 601, 2, 602, 108, 109, 331, 332, 333, 334, 225, 226, 227, 228, 16, 335, 336, 337, 145, 338, 147, 111, 112, 113, 114, 14, 588, 589, 590, 591, 66, 67, 140, 73, 74, 75, 347, 348, 349, 350, 351, 352, 353, 354, 355, 356, 357, 358, 359, 360, 361, 362, 72, 363, 80, 364, 365, 366, 367, 368, 369, 370, 152, 371, 207, 372, 373, 374, 375, 376, 202, 120, 121, 377, 378, 379, 380, 18, 279, 192, 381, 382, 383, 280, 281, 282, 224, 283, 241, 384, 385, 386, 387, 237, 244, 242, 714, 715, 716, 717, 718, 719, 720, 721, 722, 723, 724, 725, 726, 769, 770, 771, 772, 773, 774, 775, 776, 777, 778, 779, 780, 781, 782, 783, 784, 785, 786, 787, 765, 766, 767, 768, 788, 789, 790, 791, 792, 793, 794, 795, 796, 797] (by decide +kernel) (by decide +kernel)) (goodIn_sub (fun _ h => List.mem_append_right _ h) (by decide +kernel))) (goodIn_sub (fun _ h => List.mem_append_left _ (List.mem_append_left _ (List.mem_append_right _ h))) (by decide +kernel))
set_option maxRecDepth 20000 in
theorem gL_law_L_whyNot : GoodIn wsL_law (va_wsS RL 173 yL_whyNot wsL_whyNot) := goodIn_app (goodIn_of _ (by decide +kernel)) ggL_law_L_whyNot
set_option maxRecDepth 20000 in
theorem ggL_law_X5_whyNot : GoodIn wsL_law wsX5_whyNot := goodIn_r _ [606, 175, 411, 412, 413, 5, 414, 214, 29, 88, 89, 90, 130, 131, 132, 126, 127, 128, 129, 87, 91, 92, 93, 94, 95, 426, 427, 428, 429, 28, 26, 25, 30, 430, 431, 432, 433, 434, 53, 54, 55, 435, 436, 437, 438, 24, 439, 440, 441, 442, 443, 444, 445, 446, 249, 31, 32, 34, 35, 39, 38, 33, 727, 728, 729, 730, 731, 732, 733, 734, 735, 736, 737, 738, 739, 740, 741, 742, 743, 744, 745, 746, 747, 748, 749, 750, 751, 752, 753, 754, 755, 756, 757, 758, 759, 760, 761, 762, 763, 764] (by decide +kernel) (by decide +kernel)
set_option maxRecDepth 20000 in
theorem gL_law_X5_whyNot : GoodIn wsL_law (wsV RL 175 RX5 yX5_whyNot wsX5_whyNot) := goodIn_app (goodIn_of _ (by decide +kernel)) ggL_law_X5_whyNot
set_option maxRecDepth 20000 in
theorem ggL_law_L_best : GoodIn wsL_law wsL_best := goodIn_ca (goodIn_ca (goodIn_r _ [609, 103, 610, 611, 612, 2, 613, 331, 332, 333, 334, 108, 109, 225, 226, 227, 228, 16, 335, 336, 337, 145, 338, 147, 588, 589, 590, 591, 66, 67, 140, 73, 74, 75, 343, 344, 345, 346, 14, 347, 348, 349, 350, 351, 352, 353, 354, 355, 356, 357, 358, 359, 360, 361, 362, 72, 363, 80, 364, 365, 366, 367, 368, 369, 370, 152, 371, 207, 372, 373, 374, 375, 376, 202, 120, 121, 377, 378, 379, 380, 18, 279, 192, 381, 382, 383, 280, 281, 282, 224, 283, 241, 384, 385, 386, 387, 237, 244, 242, 614, 615, 616, 617, 618, 619, 620, 621, 403, 404, 405, 406, 392, 393, 394, 395, 396, 397, 398, 399, 400, 401, 402, 111, 112, 113, 114, 115, 116, 117, 118, 119, 622, 623, 624, 625, 626, 627, 628, 629, 630, 631, 632, 714, 715, 716, 717, 718, 719, 720, 721, 722, 723, 724, 725, 726, 769, 770, 771, 772, 773, 774, 775, 776, 777, 778, 779, 780, 781, 782, 783, 784, 785, 786, 787, 765, 766, 767, 768, 788, 789, 790, 791, 792, 793, 794, 795, 796, 797] (by decide +kernel) (by decide +kernel)) (goodIn_sub (fun _ h => List.mem_append_right _ h) (by decide +kernel))) (goodIn_sub (fun _ h => List.mem_append_left _ (List.mem_append_left _ (List.mem_append_right _ h))) (by decide +kernel))
set_option maxRecDepth 20000 in
theorem gL_law_L_best : GoodIn wsL_law (va_wsS RL 176 yL_best wsL_best) := goodIn_app (goodIn_of _ (by decide +kernel)) ggL_law_L_best
set_option maxRecDepth 20000 in
theorem ggL_law_X5_best : GoodIn wsL_law wsX5_best := goodIn_r _ [636, 175, 411, 412, 413, 5, 414, 214, 29, 88, 89, 90, 130, 131, 132, 91, 92, 93, 94, 95, 637, 638, 639, 640, 87, 447, 448, 449, 450, 25, 423, 424, 425, 419, 420, 421, 422, 27, 426, 427, 428, 429, 28, 26, 30, 430, 431, 432, 433, 434, 53, 54, 55, 435, 436, 437, 438, 24, 439, 440, 441, 442, 443, 444, 445, 446, 249, 31, 32, 34, 35, 39, 38, 33, 727, 728, 729, 730, 731, 732, 733, 734, 735, 736, 737, 738, 739, 740, 741, 742, 743, 744, 745, 746, 747, 748, 749, 750, 751, 752, 753, 754, 755, 756, 757, 758, 759, 760, 761, 762, 763, 764] (by decide +kernel) (by decide +kernel)
set_option maxRecDepth 20000 in
theorem gL_law_X5_best : GoodIn wsL_law (wsV RL 178 RX5 yX5_best wsX5_best) := goodIn_app (goodIn_of _ (by decide +kernel)) ggL_law_X5_best
set_option maxRecDepth 20000 in
theorem ggL_law_L_bestAnew : GoodIn wsL_law wsL_bestAnew := goodIn_ca (goodIn_ca (goodIn_r _ [643, 103, 644, 645, 646, 2, 647, 331, 332, 333, 334, 108, 109, 225, 226, 227, 228, 16, 335, 336, 337, 145, 338, 147, 588, 589, 590, 591, 66, 67, 140, 73, 74, 75, 343, 344, 345, 346, 14, 347, 348, 349, 350, 351, 352, 353, 354, 355, 356, 357, 358, 359, 360, 361, 362, 72, 363, 80, 364, 365, 366, 367, 368, 369, 370, 152, 371, 207, 372, 373, 374, 375, 376, 202, 120, 121, 377, 378, 379, 380, 18, 279, 192, 381, 382, 383, 280, 281, 282, 224, 283, 241, 384, 385, 386, 387, 237, 244, 242, 648, 649, 650, 651, 388, 389, 390, 391, 392, 393, 394, 395, 396, 397, 398, 399, 400, 401, 402, 111, 112, 113, 114, 115, 116, 117, 118, 119, 618, 619, 620, 621, 403, 404, 405, 406, 714, 715, 716, 717, 718, 719, 720, 721, 722, 723, 724, 725, 726, 769, 770, 771, 772, 773, 774, 775, 776, 777, 778, 779, 780, 781, 782, 783, 784, 785, 786, 787, 765, 766, 767, 768, 788, 789, 790, 791, 792, 793, 794, 795, 796, 797] (by decide +kernel) (by decide +kernel)) (goodIn_sub (fun _ h => List.mem_append_right _ h) (by decide +kernel))) (goodIn_sub (fun _ h => List.mem_append_left _ (List.mem_append_left _ (List.mem_append_right _ h))) (by decide +kernel))
set_option maxRecDepth 20000 in
theorem gL_law_L_bestAnew : GoodIn wsL_law (va_wsS RL 179 yL_bestAnew wsL_bestAnew) := goodIn_app (goodIn_of _ (by decide +kernel)) ggL_law_L_bestAnew
set_option maxRecDepth 20000 in
theorem ggL_law_X5_bestAnew : GoodIn wsL_law wsX5_bestAnew := goodIn_r _ [655, 656, 634, 635, 5, 636, 175, 411, 412, 413, 414, 214, 29, 88, 89, 90, 130, 131, 132, 91, 92, 93, 94, 95, 637, 638, 639, 640, 87, 447, 448, 449, 450, 25, 423, 424, 425, 419, 420, 421, 422, 27, 426, 427, 428, 429, 28, 26, 30, 430, 431, 432, 433, 434, 53, 54, 55, 435, 436, 437, 438, 24, 439, 440, 441, 442, 443, 444, 445, 446, 249, 31, 32, 34, 35, 39, 38, 33, 727, 728, 729, 730, 731, 732, 733, 734, 735, 736, 737, 738, 739, 740, 741, 742, 743, 744, 745, 746, 747, 748, 749, 750, 751, 752, 753, 754, 755, 756, 757, 758, 759, 760, 761, 762, 763, 764] (by decide +kernel) (by decide +kernel)
set_option maxRecDepth 20000 in
theorem gL_law_X5_bestAnew : GoodIn wsL_law (wsV RL 181 RX5 yX5_bestAnew wsX5_bestAnew) := goodIn_app (goodIn_of _ (by decide +kernel)) ggL_law_X5_bestAnew
set_option maxRecDepth 20000 in
theorem ggL_law_L_lacks : GoodIn wsL_law wsL_lacks := goodIn_ca (goodIn_r _ [659, 103, 660, 661, 662, 2, 663, 351, 192, 382, 331, 332, 333, 334, 108, 109, 225, 226, 227, 228, 16, 335, 336, 337, 145, 338, 147, 289, 290, 291, 292, 18, 279, 293, 294, 295, 224, 296, 240, 297, 298, 281, 282, 283, 241, 120, 121, 299, 285, 286, 287, 288, 774, 775, 776, 777, 778, 779, 780, 781, 782, 783, 784, 785, 786, 787, 769, 770, 771, 772, 773, 714, 715, 716, 717, 718, 719, 720, 721, 722, 723, 724, 725, 726, 788, 789, 790, 791, 792, 793, 794, 795, 796, 797] (by decide +kernel) (by decide +kernel)) (goodIn_sub (fun _ h => List.mem_append_right _ h) (by decide +kernel))
set_option maxRecDepth 20000 in
theorem gL_law_L_lacks : GoodIn wsL_law (va_wsS RL 182 yL_lacks wsL_lacks) := goodIn_app (goodIn_of _ (by decide +kernel)) ggL_law_L_lacks
set_option maxRecDepth 20000 in
theorem ggL_law_X5_lacks : GoodIn wsL_law wsX5_lacks := goodIn_r _ [667, 411, 412, 413, 5, 414, 214, 29, 88, 89, 90, 130, 131, 132, 91, 92, 93, 94, 95, 304, 305, 306, 307, 249, 31, 33, 34, 40, 41, 727, 728, 729, 730, 731, 732, 733, 734, 735, 736, 737, 738, 739, 740, 741, 742, 743, 744, 745, 746, 747, 748, 749, 750, 751, 752, 753, 754, 755, 756, 757, 758, 759, 760, 761, 762, 763, 764] (by decide +kernel) (by decide +kernel)
set_option maxRecDepth 20000 in
theorem gL_law_X5_lacks : GoodIn wsL_law (wsV RL 184 RX5 yX5_lacks wsX5_lacks) := goodIn_app (goodIn_of _ (by decide +kernel)) ggL_law_X5_lacks
set_option maxRecDepth 20000 in
theorem ggL_law_L_ofItem : GoodIn wsL_law wsL_ofItem := goodIn_ca (goodIn_ca (goodIn_r _ [670, 103, 671, 672, 673, 2, 674, 108, 109, 66, 67, 279, 381, 383, 675, 676, 258, 278, 316, 259, 260, 261, 262, 18, 788, 789, 790, 791, 792, 793, 794, 795, 796, 797, 714, 715, 716, 717, 718, 719, 720, 721, 722, 723, 724, 725, 726] (by decide +kernel) (by decide +kernel)) (goodIn_sub (fun _ h => List.mem_append_right _ h) (by decide +kernel))) (goodIn_sub (fun _ h => List.mem_append_left _ (List.mem_append_left _ (List.mem_append_right _ h))) (by decide +kernel))
set_option maxRecDepth 20000 in
theorem gL_law_L_ofItem : GoodIn wsL_law (va_wsS RL 185 yL_ofItem wsL_ofItem) := goodIn_app (goodIn_of _ (by decide +kernel)) ggL_law_L_ofItem
set_option maxRecDepth 20000 in
theorem ggL_law_X5_ofItem : GoodIn wsL_law wsX5_ofItem := goodIn_r _ [680, 31, 32, 33, 34, 38, 39, 40, 41, 267, 268, 269, 5, 270, 249, 88, 89, 90, 91, 92, 93, 94, 95, 727, 728, 729, 730, 731, 732, 733, 734, 735, 736, 737, 738, 739, 740, 741, 742, 743, 744, 745, 746, 747, 748, 749, 750, 751, 752, 753, 754, 755, 756, 757, 758, 759, 760, 761, 762, 763, 764] (by decide +kernel) (by decide +kernel)
set_option maxRecDepth 20000 in
theorem gL_law_X5_ofItem : GoodIn wsL_law (wsV RL 187 RX5 yX5_ofItem wsX5_ofItem) := goodIn_app (goodIn_of _ (by decide +kernel)) ggL_law_X5_ofItem
set_option maxRecDepth 20000 in
theorem ggL_law_L_ofAccused : GoodIn wsL_law wsL_ofAccused := goodIn_ca (goodIn_ca (goodIn_r _ [683, 103, 684, 685, 686, 2, 687, 66, 67, 328, 329, 460, 688, 689, 513, 690, 331, 332, 333, 334, 108, 109, 225, 226, 227, 228, 16, 335, 336, 337, 145, 338, 147, 691, 692, 693, 694, 14, 140, 356, 357, 358, 359, 360, 361, 362, 72, 363, 80, 364, 365, 366, 367, 368, 369, 370, 152, 371, 207, 774, 775, 776, 777, 778, 779, 780, 781, 782, 783, 784, 785, 786, 787, 714, 715, 716, 717, 718, 719, 720, 721, 722, 723, 724, 725, 726, 769, 770, 771, 772, 773, 765, 766, 767, 768] (by decide +kernel) (by decide +kernel)) (goodIn_sub (fun _ h => List.mem_append_left _ (List.mem_append_left _ (List.mem_append_right _ h))) (by decide +kernel))) (goodIn_sub (fun _ h => List.mem_append_right _ h) (by decide +kernel))
set_option maxRecDepth 20000 in
theorem gL_law_L_ofAccused : GoodIn wsL_law (va_wsS RL 188 yL_ofAccused wsL_ofAccused) := goodIn_app (goodIn_of _ (by decide +kernel)) ggL_law_L_ofAccused
set_option maxRecDepth 20000 in
theorem ggL_law_X5_ofAccused : GoodIn wsL_law wsX5_ofAccused := goodIn_r _ [698, 42, 43, 46, 47, 48, 51, 52, 411, 412, 413, 5, 414, 214, 29, 88, 89, 90, 130, 131, 132, 91, 92, 93, 94, 95, 699, 700, 701, 702, 87, 175, 430, 431, 432, 433, 434, 53, 54, 55, 435, 436, 437, 438, 24, 727, 728, 729, 730, 731, 732, 733, 734, 735, 736, 737, 738, 739, 740, 741, 742, 743, 744, 745, 746, 747, 748, 749, 750, 751, 752, 753, 754, 755, 756, 757, 758, 759, 760, 761, 762, 763, 764] (by decide +kernel) (by decide +kernel)
set_option maxRecDepth 20000 in
theorem gL_law_X5_ofAccused : GoodIn wsL_law (wsV RL 190 RX5 yX5_ofAccused wsX5_ofAccused) := goodIn_app (goodIn_of _ (by decide +kernel)) ggL_law_X5_ofAccused
set_option maxRecDepth 20000 in
theorem ggL_law_L_count : GoodIn wsL_law wsL_count := goodIn_ca (goodIn_r _ [705, 61, 706, 707, 708, 2, 709, 66, 67, 485, 486, 512, 461, 473, 141, 714, 715, 716, 717, 718, 719, 720, 721, 722, 723, 724, 725, 726] (by decide +kernel) (by decide +kernel)) (goodIn_sub (fun _ h => List.mem_append_left _ (List.mem_append_left _ (List.mem_append_right _ h))) (by decide +kernel))
set_option maxRecDepth 20000 in
theorem gL_law_L_count : GoodIn wsL_law (va_wsS RL 191 yL_count wsL_count) := goodIn_app (goodIn_of _ (by decide +kernel)) ggL_law_L_count
set_option maxRecDepth 20000 in
theorem ggL_law_X5_count : GoodIn wsL_law wsX5_count := goodIn_r _ [713, 56, 88, 89, 5, 90, 91, 92, 93, 94, 95, 727, 728, 729, 730, 731, 732, 733, 734, 735, 736, 737, 738, 739, 740, 741, 742, 743, 744, 745, 746, 747, 748, 749, 750, 751, 752, 753, 754, 755, 756, 757, 758, 759, 760, 761, 762, 763, 764] (by decide +kernel) (by decide +kernel)
set_option maxRecDepth 20000 in
theorem gL_law_X5_count : GoodIn wsL_law (wsV RL 193 RX5 yX5_count wsX5_count) := goodIn_app (goodIn_of _ (by decide +kernel)) ggL_law_X5_count
