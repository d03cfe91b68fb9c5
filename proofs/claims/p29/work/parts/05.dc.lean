theorem dL_offence_0 : decode cL_offence 0 = .ok (.aload_n 0, 1) := by decide +kernel
theorem dL_offence_1 : decode cL_offence 1 = .ok (.iload_n 1, 1) := by decide +kernel
theorem dL_offence_2 : decode cL_offence 2 = .ok (.iload_n 2, 1) := by decide +kernel
theorem dL_offence_3 : decode cL_offence 3 = .ok (.iload_n 3, 1) := by decide +kernel
theorem dL_offence_4 : decode cL_offence 4 = .ok (.invokevirtual 7, 3) := by decide +kernel
theorem dL_offence_7 : decode cL_offence 7 = .ok (.ireturn, 1) := by decide +kernel
theorem dL_offence_8 : decode cL_offence 8 = .ok (.astore 4, 2) := by decide +kernel
theorem dL_offence_10 : decode cL_offence 10 = .ok (.ldc 15, 2) := by decide +kernel
theorem dL_offence_12 : decode cL_offence 12 = .ok (.ireturn, 1) := by decide +kernel
theorem dL_offence_13 : decode cL_offence 13 = .ok (.astore 4, 2) := by decide +kernel
theorem dL_offence_15 : decode cL_offence 15 = .ok (.ldc 18, 2) := by decide +kernel
theorem dL_offence_17 : decode cL_offence 17 = .ok (.ireturn, 1) := by decide +kernel
set_option maxRecDepth 20000 in
theorem ggL_exclude_X4_exclude : GoodIn wsL_exclude wsX4_exclude := goodIn_ca (goodIn_ca (goodIn_r _ [8, 9, 10, 11, 12, 13, 14, 15, 16, 7, 17, 18, 19, 20, 21, 22, 23, 24, 25, 26, 27, 28, 29, 30, 31, 32, 33, 34, 35, 36, 37, 38, 39, 40, 41, 42, 43] (by decide +kernel) (by decide +kernel)) (goodIn_sub (fun _ h => List.mem_cons_of_mem _ (List.mem_append_left _ (List.mem_append_right _ h))) (by decide +kernel))) (goodIn_sub (fun _ h => List.mem_cons_of_mem _ (List.mem_append_right _ h)) (by decide +kernel))
set_option maxRecDepth 20000 in
theorem gL_exclude_X4_exclude : GoodIn wsL_exclude (wsV RL 19 RX4 yX4_exclude wsX4_exclude) := goodIn_app (goodIn_of _ (by decide +kernel)) ggL_exclude_X4_exclude
theorem dL_exclude_0 : decode cL_exclude 0 = .ok (.aload_n 0, 1) := by decide +kernel
theorem dL_exclude_1 : decode cL_exclude 1 = .ok (.iload_n 1, 1) := by decide +kernel
theorem dL_exclude_2 : decode cL_exclude 2 = .ok (.iload_n 2, 1) := by decide +kernel
theorem dL_exclude_3 : decode cL_exclude 3 = .ok (.invokevirtual 19, 3) := by decide +kernel
theorem dL_exclude_6 : decode cL_exclude 6 = .ok (.ifCond .eq 7, 3) := by decide +kernel
theorem dL_exclude_9 : decode cL_exclude 9 = .ok (.iconst 1, 1) := by decide +kernel
theorem dL_exclude_10 : decode cL_exclude 10 = .ok (.goto 4, 3) := by decide +kernel
theorem dL_exclude_13 : decode cL_exclude 13 = .ok (.iconst 0, 1) := by decide +kernel
theorem dL_exclude_14 : decode cL_exclude 14 = .ok (.ireturn, 1) := by decide +kernel
theorem dL_exclude_15 : decode cL_exclude 15 = .ok (.astore_n 3, 1) := by decide +kernel
theorem dL_exclude_16 : decode cL_exclude 16 = .ok (.ldc 25, 2) := by decide +kernel
theorem dL_exclude_18 : decode cL_exclude 18 = .ok (.ireturn, 1) := by decide +kernel
theorem dL_exclude_19 : decode cL_exclude 19 = .ok (.astore_n 3, 1) := by decide +kernel
theorem dL_exclude_20 : decode cL_exclude 20 = .ok (.ldc 15, 2) := by decide +kernel
theorem dL_exclude_22 : decode cL_exclude 22 = .ok (.ireturn, 1) := by decide +kernel
set_option maxRecDepth 20000 in
theorem ggL_pass_X4_pass : GoodIn wsL_pass wsX4_pass := goodIn_ca (goodIn_ca (goodIn_r _ [8, 9, 10, 11, 12, 13, 14, 15, 16, 17, 7, 18, 19, 20, 21, 22, 23, 24, 25, 26, 27, 28, 29, 30, 31, 32, 33, 34, 35, 36, 37, 38, 39, 40, 41, 42, 43, 44, 45, 46, 47, 48, 49, 50, 51, 52, 53, 54, 55, 56, 57, 58, 59, 60, 61, 62, 63, 64, 65, 66, 67, 68, 69, 70, 71, 72, 73, 74, 75, 76, 77, 78, 79, 80, 81] (by decide +kernel) (by decide +kernel)) (goodIn_sub (fun _ h => List.mem_cons_of_mem _ (List.mem_append_left _ (List.mem_append_right _ h))) (by decide +kernel))) (goodIn_sub (fun _ h => List.mem_cons_of_mem _ (List.mem_append_right _ h)) (by decide +kernel))
set_option maxRecDepth 20000 in
theorem gL_pass_X4_pass : GoodIn wsL_pass (wsV RL 26 RX4 yX4_pass wsX4_pass) := goodIn_app (goodIn_of _ (by decide +kernel)) ggL_pass_X4_pass
theorem dL_pass_0 : decode cL_pass 0 = .ok (.aload_n 0, 1) := by decide +kernel
theorem dL_pass_1 : decode cL_pass 1 = .ok (.iload_n 1, 1) := by decide +kernel
theorem dL_pass_2 : decode cL_pass 2 = .ok (.invokevirtual 26, 3) := by decide +kernel
theorem dL_pass_5 : decode cL_pass 5 = .ok (.ireturn, 1) := by decide +kernel
theorem dL_pass_6 : decode cL_pass 6 = .ok (.astore_n 2, 1) := by decide +kernel
theorem dL_pass_7 : decode cL_pass 7 = .ok (.ldc 15, 2) := by decide +kernel
theorem dL_pass_9 : decode cL_pass 9 = .ok (.ireturn, 1) := by decide +kernel
theorem dL_pass_10 : decode cL_pass 10 = .ok (.astore_n 2, 1) := by decide +kernel
theorem dL_pass_11 : decode cL_pass 11 = .ok (.ldc 18, 2) := by decide +kernel
theorem dL_pass_13 : decode cL_pass 13 = .ok (.ireturn, 1) := by decide +kernel
set_option maxRecDepth 20000 in
theorem ggL_file_X4_file : GoodIn wsL_file wsX4_file := goodIn_ca (goodIn_ca (goodIn_r _ [8, 9, 10, 11, 12, 13, 14, 15, 16, 17, 18, 19, 20, 21, 22, 23, 24, 25, 7, 26, 27, 28, 29, 30, 31, 32, 33, 34, 35, 36, 37, 38, 39, 40, 41, 42, 43, 44, 45, 46, 47, 48, 49, 50, 51, 52, 53, 54, 55, 56, 57, 58, 59, 60, 61, 62, 63, 64, 65, 66, 67, 68, 69, 70, 71, 72, 73, 74, 75, 76, 77, 78, 79, 80, 81, 82] (by decide +kernel) (by decide +kernel)) (goodIn_sub (fun _ h => List.mem_cons_of_mem _ (List.mem_append_left _ (List.mem_append_right _ h))) (by decide +kernel))) (goodIn_sub (fun _ h => List.mem_cons_of_mem _ (List.mem_append_right _ h)) (by decide +kernel))
set_option maxRecDepth 20000 in
theorem gL_file_X4_file : GoodIn wsL_file (wsV RL 30 RX4 yX4_file wsX4_file) := goodIn_app (goodIn_of _ (by decide +kernel)) ggL_file_X4_file
theorem dL_file_0 : decode cL_file 0 = .ok (.aload_n 0, 1) := by decide +kernel
theorem dL_file_1 : decode cL_file 1 = .ok (.iload_n 1, 1) := by decide +kernel
theorem dL_file_2 : decode cL_file 2 = .ok (.iload_n 2, 1) := by decide +kernel
theorem dL_file_3 : decode cL_file 3 = .ok (.iload_n 3, 1) := by decide +kernel
theorem dL_file_4 : decode cL_file 4 = .ok (.invokevirtual 30, 3) := by decide +kernel
theorem dL_file_7 : decode cL_file 7 = .ok (.ireturn, 1) := by decide +kernel
theorem dL_file_8 : decode cL_file 8 = .ok (.astore 4, 2) := by decide +kernel
theorem dL_file_10 : decode cL_file 10 = .ok (.ldc 15, 2) := by decide +kernel
theorem dL_file_12 : decode cL_file 12 = .ok (.ireturn, 1) := by decide +kernel
theorem dL_file_13 : decode cL_file 13 = .ok (.astore 4, 2) := by decide +kernel
theorem dL_file_15 : decode cL_file 15 = .ok (.ldc 18, 2) := by decide +kernel
theorem dL_file_17 : decode cL_file 17 = .ok (.ireturn, 1) := by decide +kernel
set_option maxRecDepth 20000 in
theorem ggL_item_X4_item : GoodIn wsL_item wsX4_item := goodIn_ca (goodIn_ca (goodIn_ca (goodIn_r _ [9, 10, 11, 12, 13, 14, 15, 16, 17, 18, 19, 20, 21, 22, 23, 24, 8, 25, 26, 27, 28, 29, 30, 31, 32, 33, 34, 35, 36, 37, 38, 39, 40, 41, 42, 43, 44, 45, 46, 47, 48, 49, 50, 51, 52, 53, 54, 55, 56, 57, 58, 59, 60, 61, 62, 63, 64, 65, 66, 67, 68, 69, 70, 71, 72, 73, 74, 75, 76, 77] (by decide +kernel) (by decide +kernel)) (goodIn_sub (fun _ h => List.mem_cons_of_mem _ (List.mem_append_left _ (List.mem_append_left _ (List.mem_append_right _ h)))) (by decide +kernel))) (goodIn_sub (fun _ h => List.mem_cons_of_mem _ (List.mem_append_left _ (List.mem_append_right _ h))) (by decide +kernel))) (goodIn_sub (fun _ h => List.mem_cons_of_mem _ (List.mem_append_right _ h)) (by decide +kernel))
set_option maxRecDepth 20000 in
theorem gL_item_X4_item : GoodIn wsL_item (wsV RL 33 RX4 yX4_item wsX4_item) := goodIn_app (goodIn_of _ (by decide +kernel)) ggL_item_X4_item
theorem dL_item_0 : decode cL_item 0 = .ok (.aload_n 0, 1) := by decide +kernel
theorem dL_item_1 : decode cL_item 1 = .ok (.iload_n 1, 1) := by decide +kernel
theorem dL_item_2 : decode cL_item 2 = .ok (.iload_n 2, 1) := by decide +kernel
theorem dL_item_3 : decode cL_item 3 = .ok (.iload_n 3, 1) := by decide +kernel
theorem dL_item_4 : decode cL_item 4 = .ok (.iload 4, 2) := by decide +kernel
theorem dL_item_6 : decode cL_item 6 = .ok (.iload 5, 2) := by decide +kernel
theorem dL_item_8 : decode cL_item 8 = .ok (.iload 6, 2) := by decide +kernel
theorem dL_item_10 : decode cL_item 10 = .ok (.invokevirtual 33, 3) := by decide +kernel
theorem dL_item_13 : decode cL_item 13 = .ok (.ireturn, 1) := by decide +kernel
theorem dL_item_14 : decode cL_item 14 = .ok (.astore 7, 2) := by decide +kernel
theorem dL_item_16 : decode cL_item 16 = .ok (.ldc 25, 2) := by decide +kernel
theorem dL_item_18 : decode cL_item 18 = .ok (.ireturn, 1) := by decide +kernel
theorem dL_item_19 : decode cL_item 19 = .ok (.astore 7, 2) := by decide +kernel
theorem dL_item_21 : decode cL_item 21 = .ok (.ldc 15, 2) := by decide +kernel
theorem dL_item_23 : decode cL_item 23 = .ok (.ireturn, 1) := by decide +kernel
theorem dL_item_24 : decode cL_item 24 = .ok (.astore 7, 2) := by decide +kernel
theorem dL_item_26 : decode cL_item 26 = .ok (.ldc 18, 2) := by decide +kernel
theorem dL_item_28 : decode cL_item 28 = .ok (.ireturn, 1) := by decide +kernel
set_option maxRecDepth 20000 in
theorem ggL_admit_X4_admit : GoodIn wsL_admit wsX4_admit := goodIn_ca (goodIn_ca (goodIn_r _ [8, 9, 10, 11, 12, 13, 14, 15, 16, 17, 18, 7, 19, 20, 21, 22, 23, 24, 25, 26, 27, 28, 29, 30, 31, 32, 33, 34, 35, 36, 37, 38, 39, 40, 41, 42, 43] (by decide +kernel) (by decide +kernel)) (goodIn_sub (fun _ h => List.mem_cons_of_mem _ (List.mem_append_left _ (List.mem_append_right _ h))) (by decide +kernel))) (goodIn_sub (fun _ h => List.mem_cons_of_mem _ (List.mem_append_right _ h)) (by decide +kernel))
set_option maxRecDepth 20000 in
theorem gL_admit_X4_admit : GoodIn wsL_admit (wsV RL 37 RX4 yX4_admit wsX4_admit) := goodIn_app (goodIn_of _ (by decide +kernel)) ggL_admit_X4_admit
theorem dL_admit_0 : decode cL_admit 0 = .ok (.aload_n 0, 1) := by decide +kernel
theorem dL_admit_1 : decode cL_admit 1 = .ok (.iload_n 1, 1) := by decide +kernel
theorem dL_admit_2 : decode cL_admit 2 = .ok (.invokevirtual 37, 3) := by decide +kernel
theorem dL_admit_5 : decode cL_admit 5 = .ok (.iconst 0, 1) := by decide +kernel
theorem dL_admit_6 : decode cL_admit 6 = .ok (.ireturn, 1) := by decide +kernel
theorem dL_admit_7 : decode cL_admit 7 = .ok (.astore_n 2, 1) := by decide +kernel
theorem dL_admit_8 : decode cL_admit 8 = .ok (.ldc 25, 2) := by decide +kernel
theorem dL_admit_10 : decode cL_admit 10 = .ok (.ireturn, 1) := by decide +kernel
theorem dL_admit_11 : decode cL_admit 11 = .ok (.astore_n 2, 1) := by decide +kernel
theorem dL_admit_12 : decode cL_admit 12 = .ok (.ldc 18, 2) := by decide +kernel
theorem dL_admit_14 : decode cL_admit 14 = .ok (.ireturn, 1) := by decide +kernel
set_option maxRecDepth 20000 in
theorem ggL_show_X4_show : GoodIn wsL_show wsX4_show := goodIn_ca (goodIn_ca (goodIn_r _ [8, 9, 10, 11, 12, 13, 14, 15, 16, 17, 7, 18, 19, 20, 21, 22, 23, 24, 25, 26, 27, 28, 29, 30, 31, 32, 33, 34, 35, 36, 37, 38, 39, 40, 41, 42, 43, 44, 45, 46, 47, 48, 49, 50, 51, 52, 53, 54, 55, 56, 57, 58, 59, 60, 61, 62, 63, 64, 65, 66, 67, 68, 69, 70] (by decide +kernel) (by decide +kernel)) (goodIn_sub (fun _ h => List.mem_cons_of_mem _ (List.mem_append_left _ (List.mem_append_right _ h))) (by decide +kernel))) (goodIn_sub (fun _ h => List.mem_cons_of_mem _ (List.mem_append_right _ h)) (by decide +kernel))
set_option maxRecDepth 20000 in
theorem gL_show_X4_show : GoodIn wsL_show (wsV RL 41 RX4 yX4_show wsX4_show) := goodIn_app (goodIn_of _ (by decide +kernel)) ggL_show_X4_show
theorem dL_show_0 : decode cL_show 0 = .ok (.aload_n 0, 1) := by decide +kernel
theorem dL_show_1 : decode cL_show 1 = .ok (.iload_n 1, 1) := by decide +kernel
theorem dL_show_2 : decode cL_show 2 = .ok (.iload_n 2, 1) := by decide +kernel
theorem dL_show_3 : decode cL_show 3 = .ok (.invokevirtual 41, 3) := by decide +kernel
theorem dL_show_6 : decode cL_show 6 = .ok (.ireturn, 1) := by decide +kernel
theorem dL_show_7 : decode cL_show 7 = .ok (.astore_n 3, 1) := by decide +kernel
theorem dL_show_8 : decode cL_show 8 = .ok (.ldc 25, 2) := by decide +kernel
theorem dL_show_10 : decode cL_show 10 = .ok (.ireturn, 1) := by decide +kernel
theorem dL_show_11 : decode cL_show 11 = .ok (.astore_n 3, 1) := by decide +kernel
theorem dL_show_12 : decode cL_show 12 = .ok (.ldc 18, 2) := by decide +kernel
theorem dL_show_14 : decode cL_show 14 = .ok (.ireturn, 1) := by decide +kernel
set_option maxRecDepth 20000 in
theorem ggL_withhold_X4_withhold : GoodIn wsL_withhold wsX4_withhold := goodIn_ca (goodIn_ca (goodIn_r _ [8, 9, 10, 11, 12, 13, 14, 15, 16, 17, 7, 18, 19, 20, 21, 22, 23, 24, 25, 26, 27, 28, 29, 30, 31, 32, 33, 34, 35, 36, 37, 38, 39, 40, 41, 42] (by decide +kernel) (by decide +kernel)) (goodIn_sub (fun _ h => List.mem_cons_of_mem _ (List.mem_append_left _ (List.mem_append_right _ h))) (by decide +kernel))) (goodIn_sub (fun _ h => List.mem_cons_of_mem _ (List.mem_append_right _ h)) (by decide +kernel))
set_option maxRecDepth 20000 in
theorem gL_withhold_X4_withhold : GoodIn wsL_withhold (wsV RL 45 RX4 yX4_withhold wsX4_withhold) := goodIn_app (goodIn_of _ (by decide +kernel)) ggL_withhold_X4_withhold
theorem dL_withhold_0 : decode cL_withhold 0 = .ok (.aload_n 0, 1) := by decide +kernel
theorem dL_withhold_1 : decode cL_withhold 1 = .ok (.iload_n 1, 1) := by decide +kernel
theorem dL_withhold_2 : decode cL_withhold 2 = .ok (.invokevirtual 45, 3) := by decide +kernel
theorem dL_withhold_5 : decode cL_withhold 5 = .ok (.iconst 0, 1) := by decide +kernel
theorem dL_withhold_6 : decode cL_withhold 6 = .ok (.ireturn, 1) := by decide +kernel
theorem dL_withhold_7 : decode cL_withhold 7 = .ok (.astore_n 2, 1) := by decide +kernel
theorem dL_withhold_8 : decode cL_withhold 8 = .ok (.ldc 25, 2) := by decide +kernel
theorem dL_withhold_10 : decode cL_withhold 10 = .ok (.ireturn, 1) := by decide +kernel
theorem dL_withhold_11 : decode cL_withhold 11 = .ok (.astore_n 2, 1) := by decide +kernel
theorem dL_withhold_12 : decode cL_withhold 12 = .ok (.ldc 18, 2) := by decide +kernel
theorem dL_withhold_14 : decode cL_withhold 14 = .ok (.ireturn, 1) := by decide +kernel
set_option maxRecDepth 20000 in
theorem ggL_charge_X4_charge : GoodIn wsL_charge wsX4_charge := goodIn_ca (goodIn_ca (goodIn_ca (goodIn_r _ [9, 10, 11, 12, 13, 14, 15, 16, 17, 18, 8, 19, 20, 21, 22, 23, 24, 25, 26, 27, 28, 29, 30, 31, 32, 33, 34, 35, 36, 37, 38, 39, 40, 41, 42, 43, 44, 45, 46, 47, 48, 49, 50, 51, 52, 53, 54, 55, 56, 57, 58, 59, 60, 61, 62, 63, 64, 65, 66, 67, 68, 69, 70, 71, 72, 73, 74, 75, 76, 77, 78, 79, 80, 81, 82, 83, 84, 85, 86, 87, 88, 89, 90, 91, 92, 93, 94, 95, 96, 97, 98, 99, 100, 101, 102, 103, 104, 105, 106, 107, 108, 109, 110, 111, 112, 113, 114, 115, 116, 117, 118, 119, 120, 121, 122, 123, 124, 125, 126, 127, 128, 129, 130, 131, 132, 133, 134, 135, 136, 137, 138, 139, 140, 141, 142, 143, 144, 145, 146, 147, 148, 149, 150, 151, 152, 153, 154, 155, 156, 157, 158, 159, 160, 161, 162, 163, 164, 165, 166, 167, 168, 169, 170, 171, 172, 173, 174, 175, 176, 177, 178] (by decide +kernel) (by decide +kernel)) (goodIn_sub (fun _ h => List.mem_cons_of_mem _ (List.mem_append_left _ (List.mem_append_left _ (List.mem_append_right _ h)))) (by decide +kernel))) (goodIn_sub (fun _ h => List.mem_cons_of_mem _ (List.mem_append_left _ (List.mem_append_right _ h))) (by decide +kernel))) (goodIn_sub (fun _ h => List.mem_cons_of_mem _ (List.mem_append_right _ h)) (by decide +kernel))
set_option maxRecDepth 20000 in
theorem gL_charge_X4_charge : GoodIn wsL_charge (wsV RL 48 RX4 yX4_charge wsX4_charge) := goodIn_app (goodIn_of _ (by decide +kernel)) ggL_charge_X4_charge
theorem dL_charge_0 : decode cL_charge 0 = .ok (.aload_n 0, 1) := by decide +kernel
theorem dL_charge_1 : decode cL_charge 1 = .ok (.iload_n 1, 1) := by decide +kernel
theorem dL_charge_2 : decode cL_charge 2 = .ok (.iload_n 2, 1) := by decide +kernel
theorem dL_charge_3 : decode cL_charge 3 = .ok (.iload_n 3, 1) := by decide +kernel
theorem dL_charge_4 : decode cL_charge 4 = .ok (.invokevirtual 48, 3) := by decide +kernel
theorem dL_charge_7 : decode cL_charge 7 = .ok (.ireturn, 1) := by decide +kernel
theorem dL_charge_8 : decode cL_charge 8 = .ok (.astore 4, 2) := by decide +kernel
theorem dL_charge_10 : decode cL_charge 10 = .ok (.ldc 25, 2) := by decide +kernel
theorem dL_charge_12 : decode cL_charge 12 = .ok (.ireturn, 1) := by decide +kernel
theorem dL_charge_13 : decode cL_charge 13 = .ok (.astore 4, 2) := by decide +kernel
theorem dL_charge_15 : decode cL_charge 15 = .ok (.ldc 15, 2) := by decide +kernel
theorem dL_charge_17 : decode cL_charge 17 = .ok (.ireturn, 1) := by decide +kernel
theorem dL_charge_18 : decode cL_charge 18 = .ok (.astore 4, 2) := by decide +kernel
theorem dL_charge_20 : decode cL_charge 20 = .ok (.ldc 18, 2) := by decide +kernel
theorem dL_charge_22 : decode cL_charge 22 = .ok (.ireturn, 1) := by decide +kernel
set_option maxRecDepth 20000 in
theorem ggL_drop_X4_drop : GoodIn wsL_drop wsX4_drop := goodIn_ca (goodIn_ca (goodIn_r _ [8, 9, 10, 11, 12, 13, 14, 15, 16, 17, 18, 19, 7, 20, 21, 22, 23, 24, 25, 26, 27, 28, 29, 30, 31, 32, 33, 34, 35, 36, 37, 38, 39, 40, 41, 42, 43, 44, 45, 46, 47, 48, 49, 50, 51, 52, 53, 54, 55, 56, 57, 58, 59, 60, 61, 62, 63, 64, 65] (by decide +kernel) (by decide +kernel)) (goodIn_sub (fun _ h => List.mem_cons_of_mem _ (List.mem_append_left _ (List.mem_append_right _ h))) (by decide +kernel))) (goodIn_sub (fun _ h => List.mem_cons_of_mem _ (List.mem_append_right _ h)) (by decide +kernel))
set_option maxRecDepth 20000 in
theorem gL_drop_X4_drop : GoodIn wsL_drop (wsV RL 51 RX4 yX4_drop wsX4_drop) := goodIn_app (goodIn_of _ (by decide +kernel)) ggL_drop_X4_drop
theorem dL_drop_0 : decode cL_drop 0 = .ok (.aload_n 0, 1) := by decide +kernel
theorem dL_drop_1 : decode cL_drop 1 = .ok (.iload_n 1, 1) := by decide +kernel
theorem dL_drop_2 : decode cL_drop 2 = .ok (.iload_n 2, 1) := by decide +kernel
theorem dL_drop_3 : decode cL_drop 3 = .ok (.invokevirtual 51, 3) := by decide +kernel
theorem dL_drop_6 : decode cL_drop 6 = .ok (.iconst 0, 1) := by decide +kernel
theorem dL_drop_7 : decode cL_drop 7 = .ok (.ireturn, 1) := by decide +kernel
theorem dL_drop_8 : decode cL_drop 8 = .ok (.astore_n 3, 1) := by decide +kernel
theorem dL_drop_9 : decode cL_drop 9 = .ok (.ldc 25, 2) := by decide +kernel
theorem dL_drop_11 : decode cL_drop 11 = .ok (.ireturn, 1) := by decide +kernel
theorem dL_drop_12 : decode cL_drop 12 = .ok (.astore_n 3, 1) := by decide +kernel
theorem dL_drop_13 : decode cL_drop 13 = .ok (.ldc 18, 2) := by decide +kernel
theorem dL_drop_15 : decode cL_drop 15 = .ok (.ireturn, 1) := by decide +kernel
set_option maxRecDepth 20000 in
theorem ggL_review_X4_review : GoodIn wsL_review wsX4_review := goodIn_ca (goodIn_ca (goodIn_r _ [8, 9, 10, 11, 12, 13, 14, 15, 16, 17, 18, 7, 19, 20, 21, 22, 23, 24, 25, 26, 27, 28, 29, 30, 31, 32, 33, 34, 35, 36, 37, 38, 39, 40, 41, 42, 43, 44, 45, 46, 47, 48, 49, 50, 51, 52, 53, 54, 55, 56, 57, 58, 59, 60, 61, 62, 63, 64, 65, 66, 67, 68, 69, 70, 71, 72, 73, 74, 75, 76, 77, 78, 79, 80, 81, 82, 83, 84, 85, 86, 87, 88, 89, 90, 91, 92, 93, 94, 95, 96, 97, 98, 99, 100, 101, 102, 103, 104, 105, 106, 107, 108, 109, 110, 111, 112, 113, 114, 115, 116, 117, 118, 119, 120, 121, 122, 123, 124, 125, 126, 127, 128, 129, 130, 131, 132, 133, 134, 135, 136, 137, 138, 139, 140, 141, 142, 143] (by decide +kernel) (by decide +kernel)) (goodIn_sub (fun _ h => List.mem_cons_of_mem _ (List.mem_append_left _ (List.mem_append_right _ h))) (by decide +kernel))) (goodIn_sub (fun _ h => List.mem_cons_of_mem _ (List.mem_append_right _ h)) (by decide +kernel))
set_option maxRecDepth 20000 in
theorem gL_review_X4_review : GoodIn wsL_review (wsV RL 55 RX4 yX4_review wsX4_review) := goodIn_app (goodIn_of _ (by decide +kernel)) ggL_review_X4_review
theorem dL_review_0 : decode cL_review 0 = .ok (.aload_n 0, 1) := by decide +kernel
theorem dL_review_1 : decode cL_review 1 = .ok (.iload_n 1, 1) := by decide +kernel
theorem dL_review_2 : decode cL_review 2 = .ok (.iload_n 2, 1) := by decide +kernel
theorem dL_review_3 : decode cL_review 3 = .ok (.invokevirtual 55, 3) := by decide +kernel
theorem dL_review_6 : decode cL_review 6 = .ok (.ifCond .eq 7, 3) := by decide +kernel
theorem dL_review_9 : decode cL_review 9 = .ok (.iconst 1, 1) := by decide +kernel
theorem dL_review_10 : decode cL_review 10 = .ok (.goto 4, 3) := by decide +kernel
theorem dL_review_13 : decode cL_review 13 = .ok (.iconst 0, 1) := by decide +kernel
theorem dL_review_14 : decode cL_review 14 = .ok (.ireturn, 1) := by decide +kernel
theorem dL_review_15 : decode cL_review 15 = .ok (.astore_n 3, 1) := by decide +kernel
theorem dL_review_16 : decode cL_review 16 = .ok (.ldc 25, 2) := by decide +kernel
theorem dL_review_18 : decode cL_review 18 = .ok (.ireturn, 1) := by decide +kernel
theorem dL_review_19 : decode cL_review 19 = .ok (.astore_n 3, 1) := by decide +kernel
theorem dL_review_20 : decode cL_review 20 = .ok (.ldc 18, 2) := by decide +kernel
theorem dL_review_22 : decode cL_review 22 = .ok (.ireturn, 1) := by decide +kernel
set_option maxRecDepth 20000 in
theorem ggL_trial_X4_trial : GoodIn wsL_trial wsX4_trial := goodIn_ca (goodIn_ca (goodIn_r _ [8, 9, 10, 11, 12, 13, 14, 15, 16, 17, 18, 7, 19, 20, 21, 22, 23, 24, 25, 26, 27, 28, 29, 30, 31, 32, 33, 34, 35, 36, 37, 38, 39, 40, 41, 42, 43, 44, 45, 46, 47, 48, 49, 50, 51, 52, 53, 54, 55, 56, 57, 58, 59, 60, 61, 62, 63, 64, 65, 66, 67, 68, 69, 70, 71, 72, 73, 74, 75, 76, 77, 78, 79, 80, 81, 82, 83, 84, 85, 86, 87, 88, 89, 90, 91, 92, 93, 94, 95, 96, 97, 98, 99, 100, 101, 102, 103, 104, 105, 106, 107, 108, 109, 110, 111, 112, 113, 114, 115, 116, 117, 118, 119, 120, 121, 122, 123, 124, 125, 126, 127, 128, 129, 130, 131, 132, 133, 134, 135, 136, 137, 138, 139, 140, 141, 142, 143, 144, 145, 146, 147, 148, 149] (by decide +kernel) (by decide +kernel)) (goodIn_sub (fun _ h => List.mem_cons_of_mem _ (List.mem_append_left _ (List.mem_append_right _ h))) (by decide +kernel))) (goodIn_sub (fun _ h => List.mem_cons_of_mem _ (List.mem_append_right _ h)) (by decide +kernel))
set_option maxRecDepth 20000 in
theorem gL_trial_X4_trial : GoodIn wsL_trial (wsV RL 58 RX4 yX4_trial wsX4_trial) := goodIn_app (goodIn_of _ (by decide +kernel)) ggL_trial_X4_trial
theorem dL_trial_0 : decode cL_trial 0 = .ok (.aload_n 0, 1) := by decide +kernel
theorem dL_trial_1 : decode cL_trial 1 = .ok (.iload_n 1, 1) := by decide +kernel
theorem dL_trial_2 : decode cL_trial 2 = .ok (.iload_n 2, 1) := by decide +kernel
theorem dL_trial_3 : decode cL_trial 3 = .ok (.invokevirtual 58, 3) := by decide +kernel
theorem dL_trial_6 : decode cL_trial 6 = .ok (.ireturn, 1) := by decide +kernel
theorem dL_trial_7 : decode cL_trial 7 = .ok (.astore_n 3, 1) := by decide +kernel
theorem dL_trial_8 : decode cL_trial 8 = .ok (.ldc 25, 2) := by decide +kernel
theorem dL_trial_10 : decode cL_trial 10 = .ok (.ireturn, 1) := by decide +kernel
theorem dL_trial_11 : decode cL_trial 11 = .ok (.astore_n 3, 1) := by decide +kernel
theorem dL_trial_12 : decode cL_trial 12 = .ok (.ldc 18, 2) := by decide +kernel
theorem dL_trial_14 : decode cL_trial 14 = .ok (.ireturn, 1) := by decide +kernel
set_option maxRecDepth 20000 in
theorem ggL_plea_X4_plea : GoodIn wsL_plea wsX4_plea := goodIn_ca (goodIn_ca (goodIn_ca (goodIn_r _ [9, 10, 11, 12, 13, 14, 15, 16, 17, 18, 19, 20, 21, 8, 22, 23, 24, 25, 26, 27, 28, 29, 30, 31, 32, 33, 34, 35, 36, 37, 38, 39, 40, 41, 42, 43, 44, 45, 46, 47, 48, 49, 50, 51, 52, 53, 54, 55, 56, 57, 58, 59, 60, 61, 62, 63, 64, 65, 66, 67, 68, 69, 70, 71, 72, 73, 74, 75, 76, 77, 78, 79, 80, 81, 82, 83, 84, 85, 86, 87, 88, 89, 90, 91, 92, 93, 94, 95, 96, 97, 98, 99, 100, 101, 102, 103, 104, 105, 106, 107, 108] (by decide +kernel) (by decide +kernel)) (goodIn_sub (fun _ h => List.mem_cons_of_mem _ (List.mem_append_left _ (List.mem_append_left _ (List.mem_append_right _ h)))) (by decide +kernel))) (goodIn_sub (fun _ h => List.mem_cons_of_mem _ (List.mem_append_left _ (List.mem_append_right _ h))) (by decide +kernel))) (goodIn_sub (fun _ h => List.mem_cons_of_mem _ (List.mem_append_right _ h)) (by decide +kernel))
set_option maxRecDepth 20000 in
theorem gL_plea_X4_plea : GoodIn wsL_plea (wsV RL 61 RX4 yX4_plea wsX4_plea) := goodIn_app (goodIn_of _ (by decide +kernel)) ggL_plea_X4_plea
theorem dL_plea_0 : decode cL_plea 0 = .ok (.aload_n 0, 1) := by decide +kernel
theorem dL_plea_1 : decode cL_plea 1 = .ok (.iload_n 1, 1) := by decide +kernel
theorem dL_plea_2 : decode cL_plea 2 = .ok (.iload_n 2, 1) := by decide +kernel
theorem dL_plea_3 : decode cL_plea 3 = .ok (.iload_n 3, 1) := by decide +kernel
theorem dL_plea_4 : decode cL_plea 4 = .ok (.invokevirtual 61, 3) := by decide +kernel
theorem dL_plea_7 : decode cL_plea 7 = .ok (.ireturn, 1) := by decide +kernel
theorem dL_plea_8 : decode cL_plea 8 = .ok (.astore 4, 2) := by decide +kernel
theorem dL_plea_10 : decode cL_plea 10 = .ok (.ldc 25, 2) := by decide +kernel
theorem dL_plea_12 : decode cL_plea 12 = .ok (.ireturn, 1) := by decide +kernel
theorem dL_plea_13 : decode cL_plea 13 = .ok (.astore 4, 2) := by decide +kernel
theorem dL_plea_15 : decode cL_plea 15 = .ok (.ldc 15, 2) := by decide +kernel
theorem dL_plea_17 : decode cL_plea 17 = .ok (.ireturn, 1) := by decide +kernel
theorem dL_plea_18 : decode cL_plea 18 = .ok (.astore 4, 2) := by decide +kernel
theorem dL_plea_20 : decode cL_plea 20 = .ok (.ldc 18, 2) := by decide +kernel
theorem dL_plea_22 : decode cL_plea 22 = .ok (.ireturn, 1) := by decide +kernel
set_option maxRecDepth 20000 in
theorem ggL_arrest_X4_arrest : GoodIn wsL_arrest wsX4_arrest := goodIn_ca (goodIn_ca (goodIn_r _ [8, 9, 10, 11, 12, 13, 14, 15, 7, 16, 17, 18, 19, 20, 21, 22, 23, 24, 25, 26, 27, 28, 29, 30, 31, 32, 33, 34, 35, 36, 37, 38, 39, 40, 41, 42, 43, 44, 45, 46, 47, 48, 49, 50, 51, 52, 53, 54, 55, 56, 57, 58, 59, 60, 61, 62, 63, 64, 65, 66, 67, 68, 69, 70, 71, 72, 73, 74, 75, 76] (by decide +kernel) (by decide +kernel)) (goodIn_sub (fun _ h => List.mem_cons_of_mem _ (List.mem_append_left _ (List.mem_append_right _ h))) (by decide +kernel))) (goodIn_sub (fun _ h => List.mem_cons_of_mem _ (List.mem_append_right _ h)) (by decide +kernel))
set_option maxRecDepth 20000 in
theorem gL_arrest_X4_arrest : GoodIn wsL_arrest (wsV RL 64 RX4 yX4_arrest wsX4_arrest) := goodIn_app (goodIn_of _ (by decide +kernel)) ggL_arrest_X4_arrest
theorem dL_arrest_0 : decode cL_arrest 0 = .ok (.aload_n 0, 1) := by decide +kernel
theorem dL_arrest_1 : decode cL_arrest 1 = .ok (.iload_n 1, 1) := by decide +kernel
theorem dL_arrest_2 : decode cL_arrest 2 = .ok (.iload_n 2, 1) := by decide +kernel
theorem dL_arrest_3 : decode cL_arrest 3 = .ok (.invokevirtual 64, 3) := by decide +kernel
theorem dL_arrest_6 : decode cL_arrest 6 = .ok (.ireturn, 1) := by decide +kernel
theorem dL_arrest_7 : decode cL_arrest 7 = .ok (.astore_n 3, 1) := by decide +kernel
theorem dL_arrest_8 : decode cL_arrest 8 = .ok (.ldc 25, 2) := by decide +kernel
theorem dL_arrest_10 : decode cL_arrest 10 = .ok (.ireturn, 1) := by decide +kernel
theorem dL_arrest_11 : decode cL_arrest 11 = .ok (.astore_n 3, 1) := by decide +kernel
theorem dL_arrest_12 : decode cL_arrest 12 = .ok (.ldc 18, 2) := by decide +kernel
theorem dL_arrest_14 : decode cL_arrest 14 = .ok (.ireturn, 1) := by decide +kernel
set_option maxRecDepth 20000 in
theorem ggL_extend_X4_extend : GoodIn wsL_extend wsX4_extend := goodIn_ca (goodIn_ca (goodIn_ca (goodIn_r _ [9, 10, 11, 12, 13, 14, 15, 16, 17, 18, 8, 19, 20, 21, 22, 23, 24, 25, 26, 27, 28, 29, 30, 31, 32, 33, 34, 35, 36, 37, 38, 39, 40, 41, 42, 43, 44, 45, 46, 47, 48, 49, 50, 51, 52, 53, 54, 55, 56, 57, 58, 59, 60, 61, 62, 63, 64, 65, 66, 67, 68, 69, 70, 71, 72, 73, 74, 75, 76] (by decide +kernel) (by decide +kernel)) (goodIn_sub (fun _ h => List.mem_cons_of_mem _ (List.mem_append_left _ (List.mem_append_left _ (List.mem_append_right _ h)))) (by decide +kernel))) (goodIn_sub (fun _ h => List.mem_cons_of_mem _ (List.mem_append_left _ (List.mem_append_right _ h))) (by decide +kernel))) (goodIn_sub (fun _ h => List.mem_cons_of_mem _ (List.mem_append_right _ h)) (by decide +kernel))
set_option maxRecDepth 20000 in
theorem gL_extend_X4_extend : GoodIn wsL_extend (wsV RL 67 RX4 yX4_extend wsX4_extend) := goodIn_app (goodIn_of _ (by decide +kernel)) ggL_extend_X4_extend
theorem dL_extend_0 : decode cL_extend 0 = .ok (.aload_n 0, 1) := by decide +kernel
theorem dL_extend_1 : decode cL_extend 1 = .ok (.iload_n 1, 1) := by decide +kernel
theorem dL_extend_2 : decode cL_extend 2 = .ok (.iload_n 2, 1) := by decide +kernel
theorem dL_extend_3 : decode cL_extend 3 = .ok (.iload_n 3, 1) := by decide +kernel
theorem dL_extend_4 : decode cL_extend 4 = .ok (.invokevirtual 67, 3) := by decide +kernel
theorem dL_extend_7 : decode cL_extend 7 = .ok (.ireturn, 1) := by decide +kernel
theorem dL_extend_8 : decode cL_extend 8 = .ok (.astore 4, 2) := by decide +kernel
theorem dL_extend_10 : decode cL_extend 10 = .ok (.ldc 25, 2) := by decide +kernel
theorem dL_extend_12 : decode cL_extend 12 = .ok (.ireturn, 1) := by decide +kernel
theorem dL_extend_13 : decode cL_extend 13 = .ok (.astore 4, 2) := by decide +kernel
theorem dL_extend_15 : decode cL_extend 15 = .ok (.ldc 15, 2) := by decide +kernel
theorem dL_extend_17 : decode cL_extend 17 = .ok (.ireturn, 1) := by decide +kernel
theorem dL_extend_18 : decode cL_extend 18 = .ok (.astore 4, 2) := by decide +kernel
theorem dL_extend_20 : decode cL_extend 20 = .ok (.ldc 18, 2) := by decide +kernel
theorem dL_extend_22 : decode cL_extend 22 = .ok (.ireturn, 1) := by decide +kernel
set_option maxRecDepth 20000 in
theorem ggL_release_X4_release : GoodIn wsL_release wsX4_release := goodIn_ca (goodIn_ca (goodIn_r _ [8, 9, 10, 11, 12, 13, 14, 7, 15, 16, 17, 18, 19, 20, 21, 22, 23, 24, 25, 26, 27, 28, 29, 30, 31, 32, 33, 34, 35, 36, 37, 38, 39, 40, 41, 42, 43, 44, 45, 46, 47, 48, 49, 50, 51, 52, 53, 54, 55, 56, 57, 58, 59, 60] (by decide +kernel) (by decide +kernel)) (goodIn_sub (fun _ h => List.mem_cons_of_mem _ (List.mem_append_left _ (List.mem_append_right _ h))) (by decide +kernel))) (goodIn_sub (fun _ h => List.mem_cons_of_mem _ (List.mem_append_right _ h)) (by decide +kernel))
set_option maxRecDepth 20000 in
theorem gL_release_X4_release : GoodIn wsL_release (wsV RL 70 RX4 yX4_release wsX4_release) := goodIn_app (goodIn_of _ (by decide +kernel)) ggL_release_X4_release
theorem dL_release_0 : decode cL_release 0 = .ok (.aload_n 0, 1) := by decide +kernel
theorem dL_release_1 : decode cL_release 1 = .ok (.iload_n 1, 1) := by decide +kernel
theorem dL_release_2 : decode cL_release 2 = .ok (.iload_n 2, 1) := by decide +kernel
theorem dL_release_3 : decode cL_release 3 = .ok (.invokevirtual 70, 3) := by decide +kernel
theorem dL_release_6 : decode cL_release 6 = .ok (.iconst 0, 1) := by decide +kernel
theorem dL_release_7 : decode cL_release 7 = .ok (.ireturn, 1) := by decide +kernel
theorem dL_release_8 : decode cL_release 8 = .ok (.astore_n 3, 1) := by decide +kernel
theorem dL_release_9 : decode cL_release 9 = .ok (.ldc 25, 2) := by decide +kernel
theorem dL_release_11 : decode cL_release 11 = .ok (.ireturn, 1) := by decide +kernel
theorem dL_release_12 : decode cL_release 12 = .ok (.astore_n 3, 1) := by decide +kernel
theorem dL_release_13 : decode cL_release 13 = .ok (.ldc 18, 2) := by decide +kernel
theorem dL_release_15 : decode cL_release 15 = .ok (.ireturn, 1) := by decide +kernel
set_option maxRecDepth 20000 in
theorem ggL_nests_X4_nests : GoodIn wsL_nests wsX4_nests := goodIn_ca (goodIn_r _ [7, 8, 9, 10, 11, 12, 6, 13, 14, 15, 16, 17, 18, 19, 20, 21, 22, 23, 24, 25, 26, 27, 28, 29, 30, 31, 32, 33, 34, 35, 36, 37] (by decide +kernel) (by decide +kernel)) (goodIn_sub (fun _ h => List.mem_cons_of_mem _ (List.mem_append_right _ h)) (by decide +kernel))
set_option maxRecDepth 20000 in
theorem gL_nests_X4_nests : GoodIn wsL_nests (wsV RL 73 RX4 yX4_nests wsX4_nests) := goodIn_app (goodIn_of _ (by decide +kernel)) ggL_nests_X4_nests
theorem dL_nests_0 : decode cL_nests 0 = .ok (.aload_n 0, 1) := by decide +kernel
theorem dL_nests_1 : decode cL_nests 1 = .ok (.iload_n 1, 1) := by decide +kernel
theorem dL_nests_2 : decode cL_nests 2 = .ok (.iload_n 2, 1) := by decide +kernel
theorem dL_nests_3 : decode cL_nests 3 = .ok (.invokevirtual 73, 3) := by decide +kernel
theorem dL_nests_6 : decode cL_nests 6 = .ok (.ifCond .eq 7, 3) := by decide +kernel
theorem dL_nests_9 : decode cL_nests 9 = .ok (.iconst 1, 1) := by decide +kernel
theorem dL_nests_10 : decode cL_nests 10 = .ok (.goto 4, 3) := by decide +kernel
theorem dL_nests_13 : decode cL_nests 13 = .ok (.iconst 0, 1) := by decide +kernel
theorem dL_nests_14 : decode cL_nests 14 = .ok (.ireturn, 1) := by decide +kernel
theorem dL_nests_15 : decode cL_nests 15 = .ok (.astore_n 3, 1) := by decide +kernel
theorem dL_nests_16 : decode cL_nests 16 = .ok (.ldc 25, 2) := by decide +kernel
theorem dL_nests_18 : decode cL_nests 18 = .ok (.ireturn, 1) := by decide +kernel
set_option maxRecDepth 20000 in
theorem ggL_strength_X4_strength : GoodIn wsL_strength wsX4_strength := goodIn_ca (goodIn_ca (goodIn_r _ [8, 9, 10, 11, 12, 13, 7, 14, 15, 16, 17, 18, 19, 20, 21, 22, 23, 24, 25, 26, 27, 28, 29, 30, 31, 32, 33, 34, 35, 36, 37, 38, 39, 40, 41, 42, 43, 44, 45, 46, 47, 48, 49, 50, 51, 52, 53, 54, 55, 56, 57, 58, 59, 60, 61, 62, 63, 64, 65, 66, 67, 68, 69, 70, 71, 72, 73, 74, 75, 76, 77, 78, 79, 80, 81, 82, 83, 84, 85, 86, 87, 88, 89, 90, 91, 92, 93, 94, 95, 96, 97, 98, 99, 100, 101, 102, 103] (by decide +kernel) (by decide +kernel)) (goodIn_sub (fun _ h => List.mem_cons_of_mem _ (List.mem_append_left _ (List.mem_append_right _ h))) (by decide +kernel))) (goodIn_sub (fun _ h => List.mem_cons_of_mem _ (List.mem_append_right _ h)) (by decide +kernel))
set_option maxRecDepth 20000 in
theorem gL_strength_X4_strength : GoodIn wsL_strength (wsV RL 76 RX4 yX4_strength wsX4_strength) := goodIn_app (goodIn_of _ (by decide +kernel)) ggL_strength_X4_strength
theorem dL_strength_0 : decode cL_strength 0 = .ok (.aload_n 0, 1) := by decide +kernel
theorem dL_strength_1 : decode cL_strength 1 = .ok (.iload_n 1, 1) := by decide +kernel
theorem dL_strength_2 : decode cL_strength 2 = .ok (.iload_n 2, 1) := by decide +kernel
theorem dL_strength_3 : decode cL_strength 3 = .ok (.iload_n 3, 1) := by decide +kernel
theorem dL_strength_4 : decode cL_strength 4 = .ok (.iload 4, 2) := by decide +kernel
theorem dL_strength_6 : decode cL_strength 6 = .ok (.invokevirtual 76, 3) := by decide +kernel
theorem dL_strength_9 : decode cL_strength 9 = .ok (.ireturn, 1) := by decide +kernel
theorem dL_strength_10 : decode cL_strength 10 = .ok (.astore 5, 2) := by decide +kernel
theorem dL_strength_12 : decode cL_strength 12 = .ok (.ldc 25, 2) := by decide +kernel
theorem dL_strength_14 : decode cL_strength 14 = .ok (.ireturn, 1) := by decide +kernel
theorem dL_strength_15 : decode cL_strength 15 = .ok (.astore 5, 2) := by decide +kernel
theorem dL_strength_17 : decode cL_strength 17 = .ok (.ldc 15, 2) := by decide +kernel
theorem dL_strength_19 : decode cL_strength 19 = .ok (.ireturn, 1) := by decide +kernel
set_option maxRecDepth 20000 in
theorem ggL_whyNot_X4_whyNot : GoodIn wsL_whyNot wsX4_whyNot := goodIn_ca (goodIn_ca (goodIn_r _ [8, 9, 10, 11, 12, 13, 7, 14, 15, 16, 17, 18, 19, 20, 21, 22, 23, 24, 25, 26, 27, 28, 29, 30, 31, 32, 33, 34, 35, 36, 37, 38, 39, 40, 41, 42, 43, 44, 45, 46, 47, 48, 49, 50, 51, 52, 53, 54, 55, 56, 57, 58, 59, 60, 61, 62, 63, 64, 65, 66, 67, 68, 69, 70, 71, 72, 73, 74, 75, 76, 77, 78, 79, 80, 81, 82, 83, 84, 85, 86, 87, 88, 89, 90, 91, 92, 93, 94, 95, 96, 97, 98, 99, 100, 101, 102, 103, 104, 105, 106, 107, 108, 109, 110, 111, 112, 113, 114, 115, 116, 117, 118, 119, 120, 121, 122, 123, 124, 125, 126, 127, 128, 129, 130, 131, 132, 133, 134, 135, 136, 137, 138, 139, 140, 141, 142, 143, 144, 145, 146] (by decide +kernel) (by decide +kernel)) (goodIn_sub (fun _ h => List.mem_cons_of_mem _ (List.mem_append_left _ (List.mem_append_right _ h))) (by decide +kernel))) (goodIn_sub (fun _ h => List.mem_cons_of_mem _ (List.mem_append_right _ h)) (by decide +kernel))
set_option maxRecDepth 20000 in
theorem gL_whyNot_X4_whyNot : GoodIn wsL_whyNot (wsV RL 80 RX4 yX4_whyNot wsX4_whyNot) := goodIn_app (goodIn_of _ (by decide +kernel)) ggL_whyNot_X4_whyNot
theorem dL_whyNot_0 : decode cL_whyNot 0 = .ok (.aload_n 0, 1) := by decide +kernel
theorem dL_whyNot_1 : decode cL_whyNot 1 = .ok (.iload_n 1, 1) := by decide +kernel
theorem dL_whyNot_2 : decode cL_whyNot 2 = .ok (.iload_n 2, 1) := by decide +kernel
theorem dL_whyNot_3 : decode cL_whyNot 3 = .ok (.iload_n 3, 1) := by decide +kernel
theorem dL_whyNot_4 : decode cL_whyNot 4 = .ok (.iload 4, 2) := by decide +kernel
theorem dL_whyNot_6 : decode cL_whyNot 6 = .ok (.invokevirtual 80, 3) := by decide +kernel
theorem dL_whyNot_9 : decode cL_whyNot 9 = .ok (.ireturn, 1) := by decide +kernel
theorem dL_whyNot_10 : decode cL_whyNot 10 = .ok (.astore 5, 2) := by decide +kernel
theorem dL_whyNot_12 : decode cL_whyNot 12 = .ok (.ldc 25, 2) := by decide +kernel
theorem dL_whyNot_14 : decode cL_whyNot 14 = .ok (.ireturn, 1) := by decide +kernel
theorem dL_whyNot_15 : decode cL_whyNot 15 = .ok (.astore 5, 2) := by decide +kernel
theorem dL_whyNot_17 : decode cL_whyNot 17 = .ok (.ldc 15, 2) := by decide +kernel
theorem dL_whyNot_19 : decode cL_whyNot 19 = .ok (.ireturn, 1) := by decide +kernel
set_option maxRecDepth 20000 in
theorem ggL_best_X4_best : GoodIn wsL_best wsX4_best := goodIn_ca (goodIn_ca (goodIn_r _ [8, 9, 10, 11, 7, 12, 13, 14, 15, 16, 17, 18, 19, 20, 21, 22, 23, 24, 25, 26, 27, 28, 29, 30, 31, 32, 33, 34, 35, 36, 37, 38, 39, 40, 41, 42, 43, 44, 45, 46, 47, 48, 49, 50, 51, 52, 53, 54, 55, 56, 57, 58, 59, 60, 61, 62, 63, 64, 65, 66, 67, 68, 69, 70, 71, 72, 73, 74, 75, 76, 77, 78, 79, 80, 81, 82, 83, 84, 85, 86, 87, 88, 89, 90, 91, 92, 93, 94, 95, 96, 97, 98, 99, 100, 101, 102, 103, 104, 105, 106, 107, 108, 109, 110, 111, 112, 113, 114, 115, 116, 117, 118, 119, 120, 121, 122, 123, 124, 125, 126, 127, 128, 129, 130, 131, 132, 133, 134, 135, 136, 137, 138, 139, 140, 141, 142, 143, 144, 145, 146, 147, 148, 149, 150, 151, 152, 153, 154, 155, 156, 157, 158, 159, 160, 161, 162, 163, 164, 165, 166, 167, 168, 169, 170, 171, 172, 173, 174, 175, 176, 177, 178, 179, 180, 181, 182, 183, 184, 185, 186, 187, 188, 189] (by decide +kernel) (by decide +kernel)) (goodIn_sub (fun _ h => List.mem_cons_of_mem _ (List.mem_append_left _ (List.mem_append_right _ h))) (by decide +kernel))) (goodIn_sub (fun _ h => List.mem_cons_of_mem _ (List.mem_append_right _ h)) (by decide +kernel))
set_option maxRecDepth 20000 in
theorem gL_best_X4_best : GoodIn wsL_best (wsV RL 83 RX4 yX4_best wsX4_best) := goodIn_app (goodIn_of _ (by decide +kernel)) ggL_best_X4_best
theorem dL_best_0 : decode cL_best 0 = .ok (.aload_n 0, 1) := by decide +kernel
theorem dL_best_1 : decode cL_best 1 = .ok (.iload_n 1, 1) := by decide +kernel
theorem dL_best_2 : decode cL_best 2 = .ok (.iload_n 2, 1) := by decide +kernel
theorem dL_best_3 : decode cL_best 3 = .ok (.iload_n 3, 1) := by decide +kernel
theorem dL_best_4 : decode cL_best 4 = .ok (.invokevirtual 83, 3) := by decide +kernel
theorem dL_best_7 : decode cL_best 7 = .ok (.ireturn, 1) := by decide +kernel
theorem dL_best_8 : decode cL_best 8 = .ok (.astore 4, 2) := by decide +kernel
theorem dL_best_10 : decode cL_best 10 = .ok (.ldc 25, 2) := by decide +kernel
theorem dL_best_12 : decode cL_best 12 = .ok (.ireturn, 1) := by decide +kernel
theorem dL_best_13 : decode cL_best 13 = .ok (.astore 4, 2) := by decide +kernel
theorem dL_best_15 : decode cL_best 15 = .ok (.ldc 15, 2) := by decide +kernel
theorem dL_best_17 : decode cL_best 17 = .ok (.ireturn, 1) := by decide +kernel
set_option maxRecDepth 20000 in
theorem ggL_anew_X4_bestAnew : GoodIn wsL_anew wsX4_bestAnew := goodIn_ca (goodIn_ca (goodIn_r _ [8, 9, 10, 11, 7, 12, 13, 14, 15, 16, 17, 18, 19, 20, 21, 22, 23, 24, 25, 26, 27, 28, 29, 30, 31, 32, 33, 34, 35, 36, 37, 38, 39, 40, 41, 42, 43, 44, 45, 46, 47, 48, 49, 50, 51, 52, 53, 54, 55, 56, 57, 58, 59, 60, 61, 62, 63, 64, 65, 66, 67, 68, 69, 70, 71, 72, 73, 74, 75, 76, 77, 78, 79, 80, 81, 82, 83, 84, 85, 86, 87, 88, 89, 90, 91, 92, 93, 94, 95, 96, 97, 98, 99, 100, 101, 102, 103, 104, 105, 106, 107, 108, 109, 110, 111, 112, 113, 114, 115, 116, 117, 118, 119, 120, 121, 122, 123, 124, 125, 126, 127, 128, 129, 130, 131, 132, 133, 134, 135, 136, 137, 138, 139, 140, 141, 142, 143, 144, 145, 146, 147, 148, 149, 150, 151, 152, 153, 154, 155, 156, 157, 158, 159, 160, 161, 162, 163, 164, 165, 166, 167, 168, 169, 170, 171, 172, 173, 174, 175, 176, 177, 178, 179, 180, 181, 182] (by decide +kernel) (by decide +kernel)) (goodIn_sub (fun _ h => List.mem_cons_of_mem _ (List.mem_append_left _ (List.mem_append_right _ h))) (by decide +kernel))) (goodIn_sub (fun _ h => List.mem_cons_of_mem _ (List.mem_append_right _ h)) (by decide +kernel))
set_option maxRecDepth 20000 in
theorem gL_anew_X4_bestAnew : GoodIn wsL_anew (wsV RL 86 RX4 yX4_bestAnew wsX4_bestAnew) := goodIn_app (goodIn_of _ (by decide +kernel)) ggL_anew_X4_bestAnew
theorem dL_anew_0 : decode cL_anew 0 = .ok (.aload_n 0, 1) := by decide +kernel
theorem dL_anew_1 : decode cL_anew 1 = .ok (.iload_n 1, 1) := by decide +kernel
theorem dL_anew_2 : decode cL_anew 2 = .ok (.iload_n 2, 1) := by decide +kernel
theorem dL_anew_3 : decode cL_anew 3 = .ok (.iload_n 3, 1) := by decide +kernel
theorem dL_anew_4 : decode cL_anew 4 = .ok (.invokevirtual 86, 3) := by decide +kernel
theorem dL_anew_7 : decode cL_anew 7 = .ok (.ireturn, 1) := by decide +kernel
theorem dL_anew_8 : decode cL_anew 8 = .ok (.astore 4, 2) := by decide +kernel
theorem dL_anew_10 : decode cL_anew 10 = .ok (.ldc 25, 2) := by decide +kernel
theorem dL_anew_12 : decode cL_anew 12 = .ok (.ireturn, 1) := by decide +kernel
theorem dL_anew_13 : decode cL_anew 13 = .ok (.astore 4, 2) := by decide +kernel
theorem dL_anew_15 : decode cL_anew 15 = .ok (.ldc 15, 2) := by decide +kernel
theorem dL_anew_17 : decode cL_anew 17 = .ok (.ireturn, 1) := by decide +kernel
set_option maxRecDepth 20000 in
theorem ggL_lacks_X4_lacks : GoodIn wsL_lacks wsX4_lacks := goodIn_ca (goodIn_r _ [7, 8, 9, 10, 11, 12, 13, 6, 14, 15, 16, 17, 18, 19, 20, 21, 22, 23, 24, 25, 26, 27, 28, 29, 30, 31, 32, 33, 34, 35, 36, 37, 38, 39, 40, 41, 42, 43, 44, 45, 46, 47, 48, 49, 50, 51, 52, 53, 54, 55, 56, 57, 58, 59, 60, 61, 62, 63, 64, 65, 66, 67, 68, 69, 70, 71, 72, 73, 74, 75, 76, 77, 78, 79, 80, 81, 82, 83, 84, 85, 86, 87, 88, 89, 90, 91, 92, 93, 94] (by decide +kernel) (by decide +kernel)) (goodIn_sub (fun _ h => List.mem_cons_of_mem _ (List.mem_append_right _ h)) (by decide +kernel))
set_option maxRecDepth 20000 in
theorem gL_lacks_X4_lacks : GoodIn wsL_lacks (wsV RL 89 RX4 yX4_lacks wsX4_lacks) := goodIn_app (goodIn_of _ (by decide +kernel)) ggL_lacks_X4_lacks
theorem dL_lacks_0 : decode cL_lacks 0 = .ok (.aload_n 0, 1) := by decide +kernel
theorem dL_lacks_1 : decode cL_lacks 1 = .ok (.iload_n 1, 1) := by decide +kernel
theorem dL_lacks_2 : decode cL_lacks 2 = .ok (.iload_n 2, 1) := by decide +kernel
theorem dL_lacks_3 : decode cL_lacks 3 = .ok (.invokevirtual 89, 3) := by decide +kernel
theorem dL_lacks_6 : decode cL_lacks 6 = .ok (.ireturn, 1) := by decide +kernel
theorem dL_lacks_7 : decode cL_lacks 7 = .ok (.astore_n 3, 1) := by decide +kernel
theorem dL_lacks_8 : decode cL_lacks 8 = .ok (.ldc 25, 2) := by decide +kernel
theorem dL_lacks_10 : decode cL_lacks 10 = .ok (.ireturn, 1) := by decide +kernel
set_option maxRecDepth 20000 in
theorem ggL_ofItem_X4_ofItem : GoodIn wsL_ofItem wsX4_ofItem := goodIn_ca (goodIn_ca (goodIn_r _ [8, 9, 10, 11, 12, 13, 14, 15, 16, 17, 18, 19, 20, 21, 22, 23, 7, 24, 25, 26, 27, 28, 29, 30, 31, 32, 33, 34, 35, 36, 37, 38, 39, 40, 41, 42, 43, 44, 45, 46, 47, 48] (by decide +kernel) (by decide +kernel)) (goodIn_sub (fun _ h => List.mem_cons_of_mem _ (List.mem_append_left _ (List.mem_append_right _ h))) (by decide +kernel))) (goodIn_sub (fun _ h => List.mem_cons_of_mem _ (List.mem_append_right _ h)) (by decide +kernel))
set_option maxRecDepth 20000 in
theorem gL_ofItem_X4_ofItem : GoodIn wsL_ofItem (wsV RL 92 RX4 yX4_ofItem wsX4_ofItem) := goodIn_app (goodIn_of _ (by decide +kernel)) ggL_ofItem_X4_ofItem
theorem dL_ofItem_0 : decode cL_ofItem 0 = .ok (.aload_n 0, 1) := by decide +kernel
theorem dL_ofItem_1 : decode cL_ofItem 1 = .ok (.iload_n 1, 1) := by decide +kernel
theorem dL_ofItem_2 : decode cL_ofItem 2 = .ok (.iload_n 2, 1) := by decide +kernel
theorem dL_ofItem_3 : decode cL_ofItem 3 = .ok (.invokevirtual 92, 3) := by decide +kernel
theorem dL_ofItem_6 : decode cL_ofItem 6 = .ok (.ireturn, 1) := by decide +kernel
theorem dL_ofItem_7 : decode cL_ofItem 7 = .ok (.astore_n 3, 1) := by decide +kernel
theorem dL_ofItem_8 : decode cL_ofItem 8 = .ok (.ldc 25, 2) := by decide +kernel
theorem dL_ofItem_10 : decode cL_ofItem 10 = .ok (.ireturn, 1) := by decide +kernel
theorem dL_ofItem_11 : decode cL_ofItem 11 = .ok (.astore_n 3, 1) := by decide +kernel
theorem dL_ofItem_12 : decode cL_ofItem 12 = .ok (.ldc 15, 2) := by decide +kernel
theorem dL_ofItem_14 : decode cL_ofItem 14 = .ok (.ireturn, 1) := by decide +kernel
set_option maxRecDepth 20000 in
theorem ggL_of_X4_ofAccused : GoodIn wsL_of wsX4_ofAccused := goodIn_ca (goodIn_ca (goodIn_r _ [8, 9, 10, 11, 12, 13, 14, 15, 16, 17, 18, 19, 20, 7, 21, 22, 23, 24, 25, 26, 27, 28, 29, 30, 31, 32, 33, 34, 35, 36, 37, 38, 39, 40, 41, 42, 43, 44, 45, 46, 47, 48, 49, 50, 51, 52, 53, 54, 55, 56, 57, 58, 59, 60, 61, 62, 63, 64, 65, 66, 67, 68, 69, 70, 71, 72, 73, 74, 75, 76, 77, 78, 79, 80, 81, 82, 83, 84, 85, 86, 87, 88, 89, 90, 91, 92, 93, 94, 95, 96] (by decide +kernel) (by decide +kernel)) (goodIn_sub (fun _ h => List.mem_cons_of_mem _ (List.mem_append_left _ (List.mem_append_right _ h))) (by decide +kernel))) (goodIn_sub (fun _ h => List.mem_cons_of_mem _ (List.mem_append_right _ h)) (by decide +kernel))
set_option maxRecDepth 20000 in
theorem gL_of_X4_ofAccused : GoodIn wsL_of (wsV RL 95 RX4 yX4_ofAccused wsX4_ofAccused) := goodIn_app (goodIn_of _ (by decide +kernel)) ggL_of_X4_ofAccused
theorem dL_of_0 : decode cL_of 0 = .ok (.aload_n 0, 1) := by decide +kernel
theorem dL_of_1 : decode cL_of 1 = .ok (.iload_n 1, 1) := by decide +kernel
theorem dL_of_2 : decode cL_of 2 = .ok (.iload_n 2, 1) := by decide +kernel
theorem dL_of_3 : decode cL_of 3 = .ok (.iload_n 3, 1) := by decide +kernel
theorem dL_of_4 : decode cL_of 4 = .ok (.invokevirtual 95, 3) := by decide +kernel
theorem dL_of_7 : decode cL_of 7 = .ok (.ireturn, 1) := by decide +kernel
theorem dL_of_8 : decode cL_of 8 = .ok (.astore 4, 2) := by decide +kernel
theorem dL_of_10 : decode cL_of 10 = .ok (.ldc 25, 2) := by decide +kernel
theorem dL_of_12 : decode cL_of 12 = .ok (.ireturn, 1) := by decide +kernel
theorem dL_of_13 : decode cL_of 13 = .ok (.astore 4, 2) := by decide +kernel
theorem dL_of_15 : decode cL_of 15 = .ok (.ldc 15, 2) := by decide +kernel
theorem dL_of_17 : decode cL_of 17 = .ok (.ireturn, 1) := by decide +kernel
set_option maxRecDepth 20000 in
theorem ggL_count_X4_count : GoodIn wsL_count wsX4_count := goodIn_ca (goodIn_r _ [7, 8, 9, 10, 11, 12, 13, 14, 15, 16, 17, 18, 19, 20, 21, 22, 23, 24, 25, 26, 27, 28] (by decide +kernel) (by decide +kernel)) (goodIn_sub (fun _ h => List.mem_cons_of_mem _ (List.mem_append_right _ h)) (by decide +kernel))
set_option maxRecDepth 20000 in
theorem gL_count_X4_count : GoodIn wsL_count (wsV RL 98 RX4 yX4_count wsX4_count) := goodIn_app (goodIn_of _ (by decide +kernel)) ggL_count_X4_count
theorem dL_count_0 : decode cL_count 0 = .ok (.aload_n 0, 1) := by decide +kernel
theorem dL_count_1 : decode cL_count 1 = .ok (.iload_n 1, 1) := by decide +kernel
theorem dL_count_2 : decode cL_count 2 = .ok (.invokevirtual 98, 3) := by decide +kernel
theorem dL_count_5 : decode cL_count 5 = .ok (.ireturn, 1) := by decide +kernel
theorem dL_count_6 : decode cL_count 6 = .ok (.astore_n 2, 1) := by decide +kernel
theorem dL_count_7 : decode cL_count 7 = .ok (.ldc 15, 2) := by decide +kernel
theorem dL_count_9 : decode cL_count 9 = .ok (.ireturn, 1) := by decide +kernel
theorem dL_drawn_0 : decode cL_drawn 0 = .ok (.iload_n 1, 1) := by decide +kernel
theorem dL_drawn_1 : decode cL_drawn 1 = .ok (.aload_n 0, 1) := by decide +kernel
theorem dL_drawn_2 : decode cL_drawn 2 = .ok (.arraylength, 1) := by decide +kernel
theorem dL_drawn_3 : decode cL_drawn 3 = .ok (.if_icmp .ge 9, 3) := by decide +kernel
theorem dL_drawn_6 : decode cL_drawn 6 = .ok (.aload_n 0, 1) := by decide +kernel
theorem dL_drawn_7 : decode cL_drawn 7 = .ok (.iload_n 1, 1) := by decide +kernel
theorem dL_drawn_8 : decode cL_drawn 8 = .ok (.iaload, 1) := by decide +kernel
theorem dL_drawn_9 : decode cL_drawn 9 = .ok (.goto 13, 3) := by decide +kernel
theorem dL_drawn_12 : decode cL_drawn 12 = .ok (.ldc 101, 2) := by decide +kernel
theorem dL_drawn_14 : decode cL_drawn 14 = .ok (.iload_n 1, 1) := by decide +kernel
theorem dL_drawn_15 : decode cL_drawn 15 = .ok (.iconst 3, 1) := by decide +kernel
theorem dL_drawn_16 : decode cL_drawn 16 = .ok (.iadd, 1) := by decide +kernel
theorem dL_drawn_17 : decode cL_drawn 17 = .ok (.imul, 1) := by decide +kernel
theorem dL_drawn_18 : decode cL_drawn 18 = .ok (.sipush 16871, 3) := by decide +kernel
theorem dL_drawn_21 : decode cL_drawn 21 = .ok (.iadd, 1) := by decide +kernel
theorem dL_drawn_22 : decode cL_drawn 22 = .ok (.ldc 102, 2) := by decide +kernel
theorem dL_drawn_24 : decode cL_drawn 24 = .ok (.iand, 1) := by decide +kernel
theorem dL_drawn_25 : decode cL_drawn 25 = .ok (.ireturn, 1) := by decide +kernel
theorem dL_isRefused_0 : decode cL_isRefused 0 = .ok (.iload_n 0, 1) := by decide +kernel
theorem dL_isRefused_1 : decode cL_isRefused 1 = .ok (.ldc 25, 2) := by decide +kernel
theorem dL_isRefused_3 : decode cL_isRefused 3 = .ok (.if_icmp .eq 15, 3) := by decide +kernel
theorem dL_isRefused_6 : decode cL_isRefused 6 = .ok (.iload_n 0, 1) := by decide +kernel
theorem dL_isRefused_7 : decode cL_isRefused 7 = .ok (.ldc 15, 2) := by decide +kernel
theorem dL_isRefused_9 : decode cL_isRefused 9 = .ok (.if_icmp .eq 9, 3) := by decide +kernel
theorem dL_isRefused_12 : decode cL_isRefused 12 = .ok (.iload_n 0, 1) := by decide +kernel
theorem dL_isRefused_13 : decode cL_isRefused 13 = .ok (.ldc 18, 2) := by decide +kernel
theorem dL_isRefused_15 : decode cL_isRefused 15 = .ok (.if_icmp .ne 7, 3) := by decide +kernel
theorem dL_isRefused_18 : decode cL_isRefused 18 = .ok (.iconst 1, 1) := by decide +kernel
theorem dL_isRefused_19 : decode cL_isRefused 19 = .ok (.goto 4, 3) := by decide +kernel
theorem dL_isRefused_22 : decode cL_isRefused 22 = .ok (.iconst 0, 1) := by decide +kernel
theorem dL_isRefused_23 : decode cL_isRefused 23 = .ok (.ireturn, 1) := by decide +kernel
theorem dL_bits_0 : decode cL_bits 0 = .ok (.iconst 0, 1) := by decide +kernel
theorem dL_bits_1 : decode cL_bits 1 = .ok (.istore_n 1, 1) := by decide +kernel
theorem dL_bits_2 : decode cL_bits 2 = .ok (.iconst 0, 1) := by decide +kernel
theorem dL_bits_3 : decode cL_bits 3 = .ok (.istore_n 2, 1) := by decide +kernel
theorem dL_bits_4 : decode cL_bits 4 = .ok (.iload_n 2, 1) := by decide +kernel
theorem dL_bits_5 : decode cL_bits 5 = .ok (.bipush 8, 2) := by decide +kernel
theorem dL_bits_7 : decode cL_bits 7 = .ok (.if_icmp .ge 17, 3) := by decide +kernel
theorem dL_bits_10 : decode cL_bits 10 = .ok (.iload_n 1, 1) := by decide +kernel
theorem dL_bits_11 : decode cL_bits 11 = .ok (.iload_n 0, 1) := by decide +kernel
theorem dL_bits_12 : decode cL_bits 12 = .ok (.iload_n 2, 1) := by decide +kernel
theorem dL_bits_13 : decode cL_bits 13 = .ok (.ishr, 1) := by decide +kernel
theorem dL_bits_14 : decode cL_bits 14 = .ok (.iconst 1, 1) := by decide +kernel
theorem dL_bits_15 : decode cL_bits 15 = .ok (.iand, 1) := by decide +kernel
theorem dL_bits_16 : decode cL_bits 16 = .ok (.iadd, 1) := by decide +kernel
theorem dL_bits_17 : decode cL_bits 17 = .ok (.istore_n 1, 1) := by decide +kernel
theorem dL_bits_18 : decode cL_bits 18 = .ok (.iinc 2 1, 3) := by decide +kernel
theorem dL_bits_21 : decode cL_bits 21 = .ok (.goto (-17), 3) := by decide +kernel
theorem dL_bits_24 : decode cL_bits 24 = .ok (.iload_n 1, 1) := by decide +kernel
theorem dL_bits_25 : decode cL_bits 25 = .ok (.ireturn, 1) := by decide +kernel
set_option maxRecDepth 20000 in
theorem ggL_mix_X4_day : GoodIn wsL_mix wsX4_day := goodIn_r _ [12, 13, 122, 123, 124, 125, 126, 127, 128, 129, 130, 131, 132, 133, 134] (by decide +kernel) (by decide +kernel)
set_option maxRecDepth 20000 in
theorem gL_mix_X4_day : GoodIn wsL_mix (wsV RL 105 RX4 yX4_day wsX4_day) := goodIn_app (goodIn_of _ (by decide +kernel)) ggL_mix_X4_day
set_option maxRecDepth 20000 in
theorem ggL_mix_L_count : GoodIn wsL_mix wsL_count := goodIn_ca (goodIn_r _ [17, 18, 19, 20, 21, 22, 11, 23, 24, 25, 26, 27, 28, 29, 30, 31, 122, 123, 124, 125, 126, 127, 128, 129, 130, 131, 132, 133, 134] (by decide +kernel) (by decide +kernel)) (goodIn_sub (fun _ h => List.mem_cons_of_mem _ (List.mem_append_left _ (List.mem_append_right _ h))) (by decide +kernel))
set_option maxRecDepth 20000 in
theorem gL_mix_L_count : GoodIn wsL_mix (va_wsS RL 111 yL_count wsL_count) := goodIn_app (goodIn_of _ (by decide +kernel)) ggL_mix_L_count
set_option maxRecDepth 20000 in
theorem ggL_mix_L_of : GoodIn wsL_mix wsL_of := goodIn_ca (goodIn_ca (goodIn_r _ [34, 35, 36, 19, 37, 38, 39, 11, 40, 24, 25, 41, 42, 43, 44, 45, 46, 47, 48, 49, 50, 51, 52, 53, 54, 55, 56, 57, 58, 59, 60, 61, 62, 63, 64, 65, 66, 67, 68, 69, 13, 70, 71, 72, 73, 74, 75, 76, 77, 78, 79, 80, 81, 82, 83, 84, 85, 86, 87, 88, 89, 135, 136, 137, 138, 139, 140, 141, 142, 143, 144, 145, 146, 147, 148, 122, 123, 124, 125, 126, 127, 128, 129, 130, 131, 132, 133, 134, 149, 150, 151, 152, 153, 154, 155, 156, 157] (by decide +kernel) (by decide +kernel)) (goodIn_sub (fun _ h => List.mem_cons_of_mem _ (List.mem_append_left _ (List.mem_append_right _ h))) (by decide +kernel))) (goodIn_sub (fun _ h => List.mem_cons_of_mem _ (List.mem_append_right _ h)) (by decide +kernel))
set_option maxRecDepth 20000 in
theorem gL_mix_L_of : GoodIn wsL_mix (va_wsS RL 116 yL_of wsL_of) := goodIn_app (goodIn_of _ (by decide +kernel)) ggL_mix_L_of
set_option maxRecDepth 20000 in
theorem ggL_mix_L_ofItem : GoodIn wsL_mix wsL_ofItem := goodIn_ca (goodIn_ca (goodIn_r _ [92, 35, 36, 19, 93, 94, 95, 11, 96, 52, 53, 24, 25, 97, 98, 99, 100, 101, 102, 103, 104, 105, 106, 107, 108, 109, 158, 159, 160, 161, 162, 163, 164, 165, 166, 167, 122, 123, 124, 125, 126, 127, 128, 129, 130, 131, 132, 133, 134] (by decide +kernel) (by decide +kernel)) (goodIn_sub (fun _ h => List.mem_cons_of_mem _ (List.mem_append_right _ h)) (by decide +kernel))) (goodIn_sub (fun _ h => List.mem_cons_of_mem _ (List.mem_append_left _ (List.mem_append_right _ h))) (by decide +kernel))
set_option maxRecDepth 20000 in
theorem gL_mix_L_ofItem : GoodIn wsL_mix (va_wsS RL 122 yL_ofItem wsL_ofItem) := goodIn_app (goodIn_of _ (by decide +kernel)) ggL_mix_L_ofItem
set_option maxRecDepth 20000 in
theorem ggL_mix_L_nests : GoodIn wsL_mix wsL_nests := goodIn_ca (goodIn_r _ [112, 35, 36, 113, 114, 115, 11, 116, 52, 53, 117, 118, 119, 120, 69, 121, 81, 82, 77, 83, 79, 122, 123, 124, 125, 126, 127, 128, 129, 130, 131, 132, 133, 134, 154, 155, 156, 157] (by decide +kernel) (by decide +kernel)) (goodIn_sub (fun _ h => List.mem_cons_of_mem _ (List.mem_append_right _ h)) (by decide +kernel))
set_option maxRecDepth 20000 in
theorem gL_mix_L_nests : GoodIn wsL_mix (va_wsS RL 133 yL_nests wsL_nests) := goodIn_app (goodIn_of _ (by decide +kernel)) ggL_mix_L_nests
theorem dL_mix_0 : decode cL_mix 0 = .ok (.aload_n 0, 1) := by decide +kernel
theorem dL_mix_1 : decode cL_mix 1 = .ok (.invokevirtual 105, 3) := by decide +kernel
theorem dL_mix_4 : decode cL_mix 4 = .ok (.i2l, 1) := by decide +kernel
theorem dL_mix_5 : decode cL_mix 5 = .ok (.lstore_n 3, 1) := by decide +kernel
theorem dL_mix_6 : decode cL_mix 6 = .ok (.iconst 0, 1) := by decide +kernel
theorem dL_mix_7 : decode cL_mix 7 = .ok (.istore 5, 2) := by decide +kernel
theorem dL_mix_9 : decode cL_mix 9 = .ok (.iload 5, 2) := by decide +kernel
theorem dL_mix_11 : decode cL_mix 11 = .ok (.bipush 6, 2) := by decide +kernel
theorem dL_mix_13 : decode cL_mix 13 = .ok (.if_icmp .ge 23, 3) := by decide +kernel
theorem dL_mix_16 : decode cL_mix 16 = .ok (.ldc2_w 109, 3) := by decide +kernel
theorem dL_mix_19 : decode cL_mix 19 = .ok (.lload_n 3, 1) := by decide +kernel
theorem dL_mix_20 : decode cL_mix 20 = .ok (.lmul, 1) := by decide +kernel
theorem dL_mix_21 : decode cL_mix 21 = .ok (.aload_n 0, 1) := by decide +kernel
theorem dL_mix_22 : decode cL_mix 22 = .ok (.iload 5, 2) := by decide +kernel
theorem dL_mix_24 : decode cL_mix 24 = .ok (.invokestatic 111, 3) := by decide +kernel
theorem dL_mix_27 : decode cL_mix 27 = .ok (.i2l, 1) := by decide +kernel
theorem dL_mix_28 : decode cL_mix 28 = .ok (.ladd, 1) := by decide +kernel
theorem dL_mix_29 : decode cL_mix 29 = .ok (.lstore_n 3, 1) := by decide +kernel
theorem dL_mix_30 : decode cL_mix 30 = .ok (.iinc 5 1, 3) := by decide +kernel
theorem dL_mix_33 : decode cL_mix 33 = .ok (.goto (-24), 3) := by decide +kernel
theorem dL_mix_36 : decode cL_mix 36 = .ok (.iconst 0, 1) := by decide +kernel
theorem dL_mix_37 : decode cL_mix 37 = .ok (.istore 5, 2) := by decide +kernel
theorem dL_mix_39 : decode cL_mix 39 = .ok (.iload 5, 2) := by decide +kernel
theorem dL_mix_41 : decode cL_mix 41 = .ok (.bipush 8, 2) := by decide +kernel
theorem dL_mix_43 : decode cL_mix 43 = .ok (.aload_n 1, 1) := by decide +kernel
theorem dL_mix_44 : decode cL_mix 44 = .ok (.iconst 1, 1) := by decide +kernel
theorem dL_mix_45 : decode cL_mix 45 = .ok (.iaload, 1) := by decide +kernel
theorem dL_mix_46 : decode cL_mix 46 = .ok (.imul, 1) := by decide +kernel
theorem dL_mix_47 : decode cL_mix 47 = .ok (.if_icmp .ge 68, 3) := by decide +kernel
theorem dL_mix_50 : decode cL_mix 50 = .ok (.aload_n 2, 1) := by decide +kernel
theorem dL_mix_51 : decode cL_mix 51 = .ok (.iload 5, 2) := by decide +kernel
theorem dL_mix_53 : decode cL_mix 53 = .ok (.bipush 8, 2) := by decide +kernel
theorem dL_mix_55 : decode cL_mix 55 = .ok (.idiv, 1) := by decide +kernel
theorem dL_mix_56 : decode cL_mix 56 = .ok (.iaload, 1) := by decide +kernel
theorem dL_mix_57 : decode cL_mix 57 = .ok (.iload 5, 2) := by decide +kernel
theorem dL_mix_59 : decode cL_mix 59 = .ok (.bipush 8, 2) := by decide +kernel
theorem dL_mix_61 : decode cL_mix 61 = .ok (.irem, 1) := by decide +kernel
theorem dL_mix_62 : decode cL_mix 62 = .ok (.ishr, 1) := by decide +kernel
theorem dL_mix_63 : decode cL_mix 63 = .ok (.iconst 1, 1) := by decide +kernel
theorem dL_mix_64 : decode cL_mix 64 = .ok (.iand, 1) := by decide +kernel
theorem dL_mix_65 : decode cL_mix 65 = .ok (.iconst 1, 1) := by decide +kernel
theorem dL_mix_66 : decode cL_mix 66 = .ok (.if_icmp .ne 43, 3) := by decide +kernel
theorem dL_mix_69 : decode cL_mix 69 = .ok (.iconst 0, 1) := by decide +kernel
theorem dL_mix_70 : decode cL_mix 70 = .ok (.istore 6, 2) := by decide +kernel
theorem dL_mix_72 : decode cL_mix 72 = .ok (.iload 6, 2) := by decide +kernel
theorem dL_mix_74 : decode cL_mix 74 = .ok (.bipush 8, 2) := by decide +kernel
theorem dL_mix_76 : decode cL_mix 76 = .ok (.if_icmp .ge 33, 3) := by decide +kernel
theorem dL_mix_79 : decode cL_mix 79 = .ok (.ldc2_w 114, 3) := by decide +kernel
theorem dL_mix_82 : decode cL_mix 82 = .ok (.lload_n 3, 1) := by decide +kernel
theorem dL_mix_83 : decode cL_mix 83 = .ok (.lmul, 1) := by decide +kernel
theorem dL_mix_84 : decode cL_mix 84 = .ok (.aload_n 0, 1) := by decide +kernel
theorem dL_mix_85 : decode cL_mix 85 = .ok (.iload 5, 2) := by decide +kernel
theorem dL_mix_87 : decode cL_mix 87 = .ok (.bipush 8, 2) := by decide +kernel
theorem dL_mix_89 : decode cL_mix 89 = .ok (.idiv, 1) := by decide +kernel
theorem dL_mix_90 : decode cL_mix 90 = .ok (.iload 5, 2) := by decide +kernel
theorem dL_mix_92 : decode cL_mix 92 = .ok (.bipush 8, 2) := by decide +kernel
theorem dL_mix_94 : decode cL_mix 94 = .ok (.irem, 1) := by decide +kernel
theorem dL_mix_95 : decode cL_mix 95 = .ok (.iload 6, 2) := by decide +kernel
theorem dL_mix_97 : decode cL_mix 97 = .ok (.invokestatic 116, 3) := by decide +kernel
theorem dL_mix_100 : decode cL_mix 100 = .ok (.i2l, 1) := by decide +kernel
theorem dL_mix_101 : decode cL_mix 101 = .ok (.ladd, 1) := by decide +kernel
theorem dL_mix_102 : decode cL_mix 102 = .ok (.lstore_n 3, 1) := by decide +kernel
theorem dL_mix_103 : decode cL_mix 103 = .ok (.iinc 6 1, 3) := by decide +kernel
theorem dL_mix_106 : decode cL_mix 106 = .ok (.goto (-34), 3) := by decide +kernel
theorem dL_mix_109 : decode cL_mix 109 = .ok (.iinc 5 1, 3) := by decide +kernel
theorem dL_mix_112 : decode cL_mix 112 = .ok (.goto (-73), 3) := by decide +kernel
theorem dL_mix_115 : decode cL_mix 115 = .ok (.iconst 0, 1) := by decide +kernel
theorem dL_mix_116 : decode cL_mix 116 = .ok (.istore 5, 2) := by decide +kernel
theorem dL_mix_118 : decode cL_mix 118 = .ok (.iload 5, 2) := by decide +kernel
theorem dL_mix_120 : decode cL_mix 120 = .ok (.aload_n 1, 1) := by decide +kernel
theorem dL_mix_121 : decode cL_mix 121 = .ok (.iconst 2, 1) := by decide +kernel
theorem dL_mix_122 : decode cL_mix 122 = .ok (.iaload, 1) := by decide +kernel
theorem dL_mix_123 : decode cL_mix 123 = .ok (.if_icmp .ge 65, 3) := by decide +kernel
theorem dL_mix_126 : decode cL_mix 126 = .ok (.ldc2_w 120, 3) := by decide +kernel
theorem dL_mix_129 : decode cL_mix 129 = .ok (.lload_n 3, 1) := by decide +kernel
theorem dL_mix_130 : decode cL_mix 130 = .ok (.lmul, 1) := by decide +kernel
theorem dL_mix_131 : decode cL_mix 131 = .ok (.aload_n 0, 1) := by decide +kernel
theorem dL_mix_132 : decode cL_mix 132 = .ok (.iload 5, 2) := by decide +kernel
theorem dL_mix_134 : decode cL_mix 134 = .ok (.iconst 4, 1) := by decide +kernel
theorem dL_mix_135 : decode cL_mix 135 = .ok (.invokestatic 122, 3) := by decide +kernel
theorem dL_mix_138 : decode cL_mix 138 = .ok (.i2l, 1) := by decide +kernel
theorem dL_mix_139 : decode cL_mix 139 = .ok (.ladd, 1) := by decide +kernel
theorem dL_mix_140 : decode cL_mix 140 = .ok (.ldc2_w 125, 3) := by decide +kernel
theorem dL_mix_143 : decode cL_mix 143 = .ok (.aload_n 0, 1) := by decide +kernel
theorem dL_mix_144 : decode cL_mix 144 = .ok (.iload 5, 2) := by decide +kernel
theorem dL_mix_146 : decode cL_mix 146 = .ok (.iconst 5, 1) := by decide +kernel
theorem dL_mix_147 : decode cL_mix 147 = .ok (.invokestatic 122, 3) := by decide +kernel
theorem dL_mix_150 : decode cL_mix 150 = .ok (.i2l, 1) := by decide +kernel
theorem dL_mix_151 : decode cL_mix 151 = .ok (.lmul, 1) := by decide +kernel
theorem dL_mix_152 : decode cL_mix 152 = .ok (.ladd, 1) := by decide +kernel
theorem dL_mix_153 : decode cL_mix 153 = .ok (.ldc2_w 127, 3) := by decide +kernel
theorem dL_mix_156 : decode cL_mix 156 = .ok (.aload_n 0, 1) := by decide +kernel
theorem dL_mix_157 : decode cL_mix 157 = .ok (.iload 5, 2) := by decide +kernel
theorem dL_mix_159 : decode cL_mix 159 = .ok (.bipush 6, 2) := by decide +kernel
theorem dL_mix_161 : decode cL_mix 161 = .ok (.invokestatic 122, 3) := by decide +kernel
theorem dL_mix_164 : decode cL_mix 164 = .ok (.i2l, 1) := by decide +kernel
theorem dL_mix_165 : decode cL_mix 165 = .ok (.lmul, 1) := by decide +kernel
theorem dL_mix_166 : decode cL_mix 166 = .ok (.ladd, 1) := by decide +kernel
theorem dL_mix_167 : decode cL_mix 167 = .ok (.ldc2_w 129, 3) := by decide +kernel
theorem dL_mix_170 : decode cL_mix 170 = .ok (.aload_n 0, 1) := by decide +kernel
theorem dL_mix_171 : decode cL_mix 171 = .ok (.iload 5, 2) := by decide +kernel
theorem dL_mix_173 : decode cL_mix 173 = .ok (.bipush 7, 2) := by decide +kernel
theorem dL_mix_175 : decode cL_mix 175 = .ok (.invokestatic 122, 3) := by decide +kernel
theorem dL_mix_178 : decode cL_mix 178 = .ok (.i2l, 1) := by decide +kernel
theorem dL_mix_179 : decode cL_mix 179 = .ok (.lmul, 1) := by decide +kernel
theorem dL_mix_180 : decode cL_mix 180 = .ok (.ladd, 1) := by decide +kernel
theorem dL_mix_181 : decode cL_mix 181 = .ok (.lstore_n 3, 1) := by decide +kernel
theorem dL_mix_182 : decode cL_mix 182 = .ok (.iinc 5 1, 3) := by decide +kernel
theorem dL_mix_185 : decode cL_mix 185 = .ok (.goto (-67), 3) := by decide +kernel
theorem dL_mix_188 : decode cL_mix 188 = .ok (.iconst 0, 1) := by decide +kernel
theorem dL_mix_189 : decode cL_mix 189 = .ok (.istore 5, 2) := by decide +kernel
theorem dL_mix_191 : decode cL_mix 191 = .ok (.iload 5, 2) := by decide +kernel
theorem dL_mix_193 : decode cL_mix 193 = .ok (.aload_n 1, 1) := by decide +kernel
theorem dL_mix_194 : decode cL_mix 194 = .ok (.iconst 0, 1) := by decide +kernel
theorem dL_mix_195 : decode cL_mix 195 = .ok (.iaload, 1) := by decide +kernel
theorem dL_mix_196 : decode cL_mix 196 = .ok (.aload_n 1, 1) := by decide +kernel
theorem dL_mix_197 : decode cL_mix 197 = .ok (.iconst 0, 1) := by decide +kernel
theorem dL_mix_198 : decode cL_mix 198 = .ok (.iaload, 1) := by decide +kernel
theorem dL_mix_199 : decode cL_mix 199 = .ok (.imul, 1) := by decide +kernel
theorem dL_mix_200 : decode cL_mix 200 = .ok (.if_icmp .ge 33, 3) := by decide +kernel
theorem dL_mix_203 : decode cL_mix 203 = .ok (.ldc2_w 131, 3) := by decide +kernel
theorem dL_mix_206 : decode cL_mix 206 = .ok (.lload_n 3, 1) := by decide +kernel
theorem dL_mix_207 : decode cL_mix 207 = .ok (.lmul, 1) := by decide +kernel
theorem dL_mix_208 : decode cL_mix 208 = .ok (.aload_n 0, 1) := by decide +kernel
theorem dL_mix_209 : decode cL_mix 209 = .ok (.iload 5, 2) := by decide +kernel
theorem dL_mix_211 : decode cL_mix 211 = .ok (.aload_n 1, 1) := by decide +kernel
theorem dL_mix_212 : decode cL_mix 212 = .ok (.iconst 0, 1) := by decide +kernel
theorem dL_mix_213 : decode cL_mix 213 = .ok (.iaload, 1) := by decide +kernel
theorem dL_mix_214 : decode cL_mix 214 = .ok (.idiv, 1) := by decide +kernel
theorem dL_mix_215 : decode cL_mix 215 = .ok (.iload 5, 2) := by decide +kernel
theorem dL_mix_217 : decode cL_mix 217 = .ok (.aload_n 1, 1) := by decide +kernel
theorem dL_mix_218 : decode cL_mix 218 = .ok (.iconst 0, 1) := by decide +kernel
theorem dL_mix_219 : decode cL_mix 219 = .ok (.iaload, 1) := by decide +kernel
theorem dL_mix_220 : decode cL_mix 220 = .ok (.irem, 1) := by decide +kernel
theorem dL_mix_221 : decode cL_mix 221 = .ok (.invokestatic 133, 3) := by decide +kernel
theorem dL_mix_224 : decode cL_mix 224 = .ok (.i2l, 1) := by decide +kernel
theorem dL_mix_225 : decode cL_mix 225 = .ok (.ladd, 1) := by decide +kernel
theorem dL_mix_226 : decode cL_mix 226 = .ok (.lstore_n 3, 1) := by decide +kernel
theorem dL_mix_227 : decode cL_mix 227 = .ok (.iinc 5 1, 3) := by decide +kernel
theorem dL_mix_230 : decode cL_mix 230 = .ok (.goto (-39), 3) := by decide +kernel
theorem dL_mix_233 : decode cL_mix 233 = .ok (.lload_n 3, 1) := by decide +kernel
theorem dL_mix_234 : decode cL_mix 234 = .ok (.lreturn, 1) := by decide +kernel
set_option maxRecDepth 20000 in
theorem ggL_known_L_whyNot : GoodIn wsL_known wsL_whyNot := goodIn_ca (goodIn_ca (goodIn_r _ [6, 7, 8, 9, 10, 11, 12, 13, 14, 15, 16, 17, 18, 19, 20, 21, 22, 23, 24, 25, 26, 27, 28, 29, 30, 31, 32, 33, 34, 35, 36, 37, 38, 39, 40, 41, 42, 43, 44, 45, 46, 47, 48, 49, 50, 51, 52, 53, 54, 55, 56, 57, 58, 59, 60, 61, 62, 63, 64, 65, 66, 67, 68, 69, 70, 71, 72, 73, 74, 75, 76, 77, 78, 79, 80, 81, 82, 83, 84, 85, 86, 87, 88, 89, 90, 91, 92, 93, 94, 95, 96, 97, 98, 99, 100, 101, 102, 103, 104, 105, 106, 114, 115, 116, 117, 118, 119, 120, 121, 122, 123, 124, 125, 126, 127, 128, 129, 130, 131, 132, 133, 134, 135, 136, 137, 138, 139, 140, 141, 142, 143, 144, 145, 146, 147, 148, 149, 150, 151, 152, 153, 154, 155, 156, 157, 158, 159] (by decide +kernel) (by decide +kernel)) (goodIn_sub (fun _ h => List.mem_cons_of_mem _ (List.mem_append_left _ (List.mem_append_right _ h))) (by decide +kernel))) (goodIn_sub (fun _ h => List.mem_cons_of_mem _ (List.mem_append_right _ h)) (by decide +kernel))
set_option maxRecDepth 20000 in
theorem gL_known_L_whyNot : GoodIn wsL_known (va_wsS RL 135 yL_whyNot wsL_whyNot) := goodIn_app (goodIn_of _ (by decide +kernel)) ggL_known_L_whyNot
set_option maxRecDepth 20000 in
theorem ggL_known_L_strength : GoodIn wsL_known wsL_strength := goodIn_ca (goodIn_ca (goodIn_r _ [109, 7, 8, 9, 110, 111, 112, 13, 113, 15, 16, 17, 18, 19, 20, 21, 22, 23, 24, 25, 26, 27, 28, 29, 30, 31, 44, 45, 46, 37, 38, 39, 40, 41, 42, 43, 84, 85, 86, 87, 88, 89, 51, 90, 91, 92, 93, 94, 95, 96, 97, 98, 99, 82, 83, 100, 101, 102, 103, 104, 105, 106, 114, 115, 116, 117, 118, 119, 120, 121, 122, 123, 124, 125, 126, 127, 128, 129, 130, 131, 150, 151, 152, 153, 154, 155, 156, 157, 158, 159, 132, 133, 134, 135, 136, 137, 138, 139, 140, 141, 142, 143, 144, 145] (by decide +kernel) (by decide +kernel)) (goodIn_sub (fun _ h => List.mem_cons_of_mem _ (List.mem_append_left _ (List.mem_append_right _ h))) (by decide +kernel))) (goodIn_sub (fun _ h => List.mem_cons_of_mem _ (List.mem_append_right _ h)) (by decide +kernel))
set_option maxRecDepth 20000 in
theorem gL_known_L_strength : GoodIn wsL_known (va_wsS RL 138 yL_strength wsL_strength) := goodIn_app (goodIn_of _ (by decide +kernel)) ggL_known_L_strength
theorem dL_known_0 : decode cL_known 0 = .ok (.lconst 0, 1) := by decide +kernel
theorem dL_known_1 : decode cL_known 1 = .ok (.lstore 4, 2) := by decide +kernel
theorem dL_known_3 : decode cL_known 3 = .ok (.iconst 0, 1) := by decide +kernel
theorem dL_known_4 : decode cL_known 4 = .ok (.istore 6, 2) := by decide +kernel
theorem dL_known_6 : decode cL_known 6 = .ok (.iload 6, 2) := by decide +kernel
theorem dL_known_8 : decode cL_known 8 = .ok (.aload_n 1, 1) := by decide +kernel
theorem dL_known_9 : decode cL_known 9 = .ok (.iconst 0, 1) := by decide +kernel
theorem dL_known_10 : decode cL_known 10 = .ok (.iaload, 1) := by decide +kernel
theorem dL_known_11 : decode cL_known 11 = .ok (.if_icmp .ge 34, 3) := by decide +kernel
theorem dL_known_14 : decode cL_known 14 = .ok (.ldc2_w 109, 3) := by decide +kernel
theorem dL_known_17 : decode cL_known 17 = .ok (.lload 4, 2) := by decide +kernel
theorem dL_known_19 : decode cL_known 19 = .ok (.lmul, 1) := by decide +kernel
theorem dL_known_20 : decode cL_known 20 = .ok (.aload_n 0, 1) := by decide +kernel
theorem dL_known_21 : decode cL_known 21 = .ok (.iload_n 2, 1) := by decide +kernel
theorem dL_known_22 : decode cL_known 22 = .ok (.bipush 8, 2) := by decide +kernel
theorem dL_known_24 : decode cL_known 24 = .ok (.idiv, 1) := by decide +kernel
theorem dL_known_25 : decode cL_known 25 = .ok (.iload_n 2, 1) := by decide +kernel
theorem dL_known_26 : decode cL_known 26 = .ok (.bipush 8, 2) := by decide +kernel
theorem dL_known_28 : decode cL_known 28 = .ok (.irem, 1) := by decide +kernel
theorem dL_known_29 : decode cL_known 29 = .ok (.iload 6, 2) := by decide +kernel
theorem dL_known_31 : decode cL_known 31 = .ok (.iload_n 3, 1) := by decide +kernel
theorem dL_known_32 : decode cL_known 32 = .ok (.invokestatic 135, 3) := by decide +kernel
theorem dL_known_35 : decode cL_known 35 = .ok (.i2l, 1) := by decide +kernel
theorem dL_known_36 : decode cL_known 36 = .ok (.ladd, 1) := by decide +kernel
theorem dL_known_37 : decode cL_known 37 = .ok (.lstore 4, 2) := by decide +kernel
theorem dL_known_39 : decode cL_known 39 = .ok (.iinc 6 1, 3) := by decide +kernel
theorem dL_known_42 : decode cL_known 42 = .ok (.goto (-36), 3) := by decide +kernel
theorem dL_known_45 : decode cL_known 45 = .ok (.iconst 0, 1) := by decide +kernel
theorem dL_known_46 : decode cL_known 46 = .ok (.istore 6, 2) := by decide +kernel
theorem dL_known_48 : decode cL_known 48 = .ok (.iload 6, 2) := by decide +kernel
theorem dL_known_50 : decode cL_known 50 = .ok (.bipush 10, 2) := by decide +kernel
theorem dL_known_52 : decode cL_known 52 = .ok (.if_icmp .ge 34, 3) := by decide +kernel
theorem dL_known_55 : decode cL_known 55 = .ok (.ldc2_w 114, 3) := by decide +kernel
theorem dL_known_58 : decode cL_known 58 = .ok (.lload 4, 2) := by decide +kernel
theorem dL_known_60 : decode cL_known 60 = .ok (.lmul, 1) := by decide +kernel
theorem dL_known_61 : decode cL_known 61 = .ok (.aload_n 0, 1) := by decide +kernel
theorem dL_known_62 : decode cL_known 62 = .ok (.iload_n 2, 1) := by decide +kernel
theorem dL_known_63 : decode cL_known 63 = .ok (.bipush 8, 2) := by decide +kernel
theorem dL_known_65 : decode cL_known 65 = .ok (.idiv, 1) := by decide +kernel
theorem dL_known_66 : decode cL_known 66 = .ok (.iload_n 2, 1) := by decide +kernel
theorem dL_known_67 : decode cL_known 67 = .ok (.bipush 8, 2) := by decide +kernel
theorem dL_known_69 : decode cL_known 69 = .ok (.irem, 1) := by decide +kernel
theorem dL_known_70 : decode cL_known 70 = .ok (.iload 6, 2) := by decide +kernel
theorem dL_known_72 : decode cL_known 72 = .ok (.iload_n 3, 1) := by decide +kernel
theorem dL_known_73 : decode cL_known 73 = .ok (.invokestatic 138, 3) := by decide +kernel
theorem dL_known_76 : decode cL_known 76 = .ok (.i2l, 1) := by decide +kernel
theorem dL_known_77 : decode cL_known 77 = .ok (.ladd, 1) := by decide +kernel
theorem dL_known_78 : decode cL_known 78 = .ok (.lstore 4, 2) := by decide +kernel
theorem dL_known_80 : decode cL_known 80 = .ok (.iinc 6 1, 3) := by decide +kernel
theorem dL_known_83 : decode cL_known 83 = .ok (.goto (-35), 3) := by decide +kernel
theorem dL_known_86 : decode cL_known 86 = .ok (.lload 4, 2) := by decide +kernel
theorem dL_known_88 : decode cL_known 88 = .ok (.lreturn, 1) := by decide +kernel
set_option maxRecDepth 20000 in
theorem ggL_isHeld_L_of : GoodIn wsL_isHeld wsL_of := goodIn_ca (goodIn_ca (goodIn_r _ [4, 5, 6, 7, 8, 9, 10, 11, 12, 13, 14, 15, 16, 17, 18, 19, 20, 21, 22, 23, 24, 25, 26, 27, 28, 29, 30, 31, 32, 33, 34, 35, 36, 37, 38, 39, 40, 41, 42, 43, 44, 45, 46, 47, 48, 49, 50, 51, 52, 53, 54, 55, 56, 57, 58, 59, 60, 61, 62, 63, 64, 65, 66, 67, 68, 69, 70, 71, 72, 73, 74, 75, 76, 77, 78, 79, 80, 81, 82, 83, 84, 85, 86, 87, 88, 89, 90, 91, 92, 93, 94, 95, 96, 97, 98, 99, 100] (by decide +kernel) (by decide +kernel)) (goodIn_sub (fun _ h => List.mem_cons_of_mem _ (List.mem_append_left _ (List.mem_append_right _ h))) (by decide +kernel))) (goodIn_sub (fun _ h => List.mem_cons_of_mem _ (List.mem_append_right _ h)) (by decide +kernel))
set_option maxRecDepth 20000 in
theorem gL_isHeld_L_of : GoodIn wsL_isHeld (va_wsS RL 116 yL_of wsL_of) := goodIn_app (goodIn_of _ (by decide +kernel)) ggL_isHeld_L_of
