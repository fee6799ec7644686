theorem dJ6_bitCount_0f7a4_0 : decode cJ6_bitCount_0f7a4 0 = .ok (.iload_n 0, 1) := by decide +kernel
theorem dJ6_bitCount_0f7a4_1 : decode cJ6_bitCount_0f7a4 1 = .ok (.iload_n 0, 1) := by decide +kernel
theorem dJ6_bitCount_0f7a4_2 : decode cJ6_bitCount_0f7a4 2 = .ok (.iconst 1, 1) := by decide +kernel
theorem dJ6_bitCount_0f7a4_3 : decode cJ6_bitCount_0f7a4 3 = .ok (.iushr, 1) := by decide +kernel
theorem dJ6_bitCount_0f7a4_4 : decode cJ6_bitCount_0f7a4 4 = .ok (.ldc_w 265, 3) := by decide +kernel
theorem dJ6_bitCount_0f7a4_7 : decode cJ6_bitCount_0f7a4 7 = .ok (.iand, 1) := by decide +kernel
theorem dJ6_bitCount_0f7a4_8 : decode cJ6_bitCount_0f7a4 8 = .ok (.isub, 1) := by decide +kernel
theorem dJ6_bitCount_0f7a4_9 : decode cJ6_bitCount_0f7a4 9 = .ok (.istore_n 0, 1) := by decide +kernel
theorem dJ6_bitCount_0f7a4_10 : decode cJ6_bitCount_0f7a4 10 = .ok (.iload_n 0, 1) := by decide +kernel
theorem dJ6_bitCount_0f7a4_11 : decode cJ6_bitCount_0f7a4 11 = .ok (.ldc_w 266, 3) := by decide +kernel
theorem dJ6_bitCount_0f7a4_14 : decode cJ6_bitCount_0f7a4 14 = .ok (.iand, 1) := by decide +kernel
theorem dJ6_bitCount_0f7a4_15 : decode cJ6_bitCount_0f7a4 15 = .ok (.iload_n 0, 1) := by decide +kernel
theorem dJ6_bitCount_0f7a4_16 : decode cJ6_bitCount_0f7a4 16 = .ok (.iconst 2, 1) := by decide +kernel
theorem dJ6_bitCount_0f7a4_17 : decode cJ6_bitCount_0f7a4 17 = .ok (.iushr, 1) := by decide +kernel
theorem dJ6_bitCount_0f7a4_18 : decode cJ6_bitCount_0f7a4 18 = .ok (.ldc_w 266, 3) := by decide +kernel
theorem dJ6_bitCount_0f7a4_21 : decode cJ6_bitCount_0f7a4 21 = .ok (.iand, 1) := by decide +kernel
theorem dJ6_bitCount_0f7a4_22 : decode cJ6_bitCount_0f7a4 22 = .ok (.iadd, 1) := by decide +kernel
theorem dJ6_bitCount_0f7a4_23 : decode cJ6_bitCount_0f7a4 23 = .ok (.istore_n 0, 1) := by decide +kernel
theorem dJ6_bitCount_0f7a4_24 : decode cJ6_bitCount_0f7a4 24 = .ok (.iload_n 0, 1) := by decide +kernel
theorem dJ6_bitCount_0f7a4_25 : decode cJ6_bitCount_0f7a4 25 = .ok (.iload_n 0, 1) := by decide +kernel
theorem dJ6_bitCount_0f7a4_26 : decode cJ6_bitCount_0f7a4 26 = .ok (.iconst 4, 1) := by decide +kernel
theorem dJ6_bitCount_0f7a4_27 : decode cJ6_bitCount_0f7a4 27 = .ok (.iushr, 1) := by decide +kernel
theorem dJ6_bitCount_0f7a4_28 : decode cJ6_bitCount_0f7a4 28 = .ok (.iadd, 1) := by decide +kernel
theorem dJ6_bitCount_0f7a4_29 : decode cJ6_bitCount_0f7a4 29 = .ok (.ldc_w 267, 3) := by decide +kernel
theorem dJ6_bitCount_0f7a4_32 : decode cJ6_bitCount_0f7a4 32 = .ok (.iand, 1) := by decide +kernel
theorem dJ6_bitCount_0f7a4_33 : decode cJ6_bitCount_0f7a4 33 = .ok (.istore_n 0, 1) := by decide +kernel
theorem dJ6_bitCount_0f7a4_34 : decode cJ6_bitCount_0f7a4 34 = .ok (.iload_n 0, 1) := by decide +kernel
theorem dJ6_bitCount_0f7a4_35 : decode cJ6_bitCount_0f7a4 35 = .ok (.iload_n 0, 1) := by decide +kernel
theorem dJ6_bitCount_0f7a4_36 : decode cJ6_bitCount_0f7a4 36 = .ok (.bipush 8, 2) := by decide +kernel
theorem dJ6_bitCount_0f7a4_38 : decode cJ6_bitCount_0f7a4 38 = .ok (.iushr, 1) := by decide +kernel
theorem dJ6_bitCount_0f7a4_39 : decode cJ6_bitCount_0f7a4 39 = .ok (.iadd, 1) := by decide +kernel
theorem dJ6_bitCount_0f7a4_40 : decode cJ6_bitCount_0f7a4 40 = .ok (.istore_n 0, 1) := by decide +kernel
theorem dJ6_bitCount_0f7a4_41 : decode cJ6_bitCount_0f7a4 41 = .ok (.iload_n 0, 1) := by decide +kernel
theorem dJ6_bitCount_0f7a4_42 : decode cJ6_bitCount_0f7a4 42 = .ok (.iload_n 0, 1) := by decide +kernel
theorem dJ6_bitCount_0f7a4_43 : decode cJ6_bitCount_0f7a4 43 = .ok (.bipush 16, 2) := by decide +kernel
theorem dJ6_bitCount_0f7a4_45 : decode cJ6_bitCount_0f7a4 45 = .ok (.iushr, 1) := by decide +kernel
theorem dJ6_bitCount_0f7a4_46 : decode cJ6_bitCount_0f7a4 46 = .ok (.iadd, 1) := by decide +kernel
theorem dJ6_bitCount_0f7a4_47 : decode cJ6_bitCount_0f7a4 47 = .ok (.istore_n 0, 1) := by decide +kernel
theorem dJ6_bitCount_0f7a4_48 : decode cJ6_bitCount_0f7a4 48 = .ok (.iload_n 0, 1) := by decide +kernel
theorem dJ6_bitCount_0f7a4_49 : decode cJ6_bitCount_0f7a4 49 = .ok (.bipush 63, 2) := by decide +kernel
theorem dJ6_bitCount_0f7a4_51 : decode cJ6_bitCount_0f7a4 51 = .ok (.iand, 1) := by decide +kernel
theorem dJ6_bitCount_0f7a4_52 : decode cJ6_bitCount_0f7a4 52 = .ok (.ireturn, 1) := by decide +kernel
theorem dJ9_floorMod_7cf53_0 : decode cJ9_floorMod_7cf53 0 = .ok (.iload_n 0, 1) := by decide +kernel
theorem dJ9_floorMod_7cf53_1 : decode cJ9_floorMod_7cf53 1 = .ok (.iload_n 1, 1) := by decide +kernel
theorem dJ9_floorMod_7cf53_2 : decode cJ9_floorMod_7cf53 2 = .ok (.irem, 1) := by decide +kernel
theorem dJ9_floorMod_7cf53_3 : decode cJ9_floorMod_7cf53 3 = .ok (.istore_n 2, 1) := by decide +kernel
theorem dJ9_floorMod_7cf53_4 : decode cJ9_floorMod_7cf53 4 = .ok (.iload_n 0, 1) := by decide +kernel
theorem dJ9_floorMod_7cf53_5 : decode cJ9_floorMod_7cf53 5 = .ok (.iload_n 1, 1) := by decide +kernel
theorem dJ9_floorMod_7cf53_6 : decode cJ9_floorMod_7cf53 6 = .ok (.ixor, 1) := by decide +kernel
theorem dJ9_floorMod_7cf53_7 : decode cJ9_floorMod_7cf53 7 = .ok (.ifCond .ge 11, 3) := by decide +kernel
theorem dJ9_floorMod_7cf53_10 : decode cJ9_floorMod_7cf53 10 = .ok (.iload_n 2, 1) := by decide +kernel
theorem dJ9_floorMod_7cf53_11 : decode cJ9_floorMod_7cf53 11 = .ok (.ifCond .eq 7, 3) := by decide +kernel
theorem dJ9_floorMod_7cf53_14 : decode cJ9_floorMod_7cf53 14 = .ok (.iload_n 2, 1) := by decide +kernel
theorem dJ9_floorMod_7cf53_15 : decode cJ9_floorMod_7cf53 15 = .ok (.iload_n 1, 1) := by decide +kernel
theorem dJ9_floorMod_7cf53_16 : decode cJ9_floorMod_7cf53 16 = .ok (.iadd, 1) := by decide +kernel
theorem dJ9_floorMod_7cf53_17 : decode cJ9_floorMod_7cf53 17 = .ok (.ireturn, 1) := by decide +kernel
theorem dJ9_floorMod_7cf53_18 : decode cJ9_floorMod_7cf53 18 = .ok (.iload_n 2, 1) := by decide +kernel
theorem dJ9_floorMod_7cf53_19 : decode cJ9_floorMod_7cf53 19 = .ok (.ireturn, 1) := by decide +kernel
theorem dJ9_max_7cf53_0 : decode cJ9_max_7cf53 0 = .ok (.iload_n 0, 1) := by decide +kernel
theorem dJ9_max_7cf53_1 : decode cJ9_max_7cf53 1 = .ok (.iload_n 1, 1) := by decide +kernel
theorem dJ9_max_7cf53_2 : decode cJ9_max_7cf53 2 = .ok (.if_icmp .lt 7, 3) := by decide +kernel
theorem dJ9_max_7cf53_5 : decode cJ9_max_7cf53 5 = .ok (.iload_n 0, 1) := by decide +kernel
theorem dJ9_max_7cf53_6 : decode cJ9_max_7cf53 6 = .ok (.goto 4, 3) := by decide +kernel
theorem dJ9_max_7cf53_9 : decode cJ9_max_7cf53 9 = .ok (.iload_n 1, 1) := by decide +kernel
theorem dJ9_max_7cf53_10 : decode cJ9_max_7cf53 10 = .ok (.ireturn, 1) := by decide +kernel
theorem dJ7_fill_53178_0 : decode cJ7_fill_53178 0 = .ok (.iconst 0, 1) := by decide +kernel
theorem dJ7_fill_53178_1 : decode cJ7_fill_53178 1 = .ok (.istore_n 2, 1) := by decide +kernel
theorem dJ7_fill_53178_2 : decode cJ7_fill_53178 2 = .ok (.aload_n 0, 1) := by decide +kernel
theorem dJ7_fill_53178_3 : decode cJ7_fill_53178 3 = .ok (.arraylength, 1) := by decide +kernel
theorem dJ7_fill_53178_4 : decode cJ7_fill_53178 4 = .ok (.istore_n 3, 1) := by decide +kernel
theorem dJ7_fill_53178_5 : decode cJ7_fill_53178 5 = .ok (.iload_n 2, 1) := by decide +kernel
theorem dJ7_fill_53178_6 : decode cJ7_fill_53178 6 = .ok (.iload_n 3, 1) := by decide +kernel
theorem dJ7_fill_53178_7 : decode cJ7_fill_53178 7 = .ok (.if_icmp .ge 13, 3) := by decide +kernel
theorem dJ7_fill_53178_10 : decode cJ7_fill_53178 10 = .ok (.aload_n 0, 1) := by decide +kernel
theorem dJ7_fill_53178_11 : decode cJ7_fill_53178 11 = .ok (.iload_n 2, 1) := by decide +kernel
theorem dJ7_fill_53178_12 : decode cJ7_fill_53178 12 = .ok (.iload_n 1, 1) := by decide +kernel
theorem dJ7_fill_53178_13 : decode cJ7_fill_53178 13 = .ok (.iastore, 1) := by decide +kernel
theorem dJ7_fill_53178_14 : decode cJ7_fill_53178 14 = .ok (.iinc 2 1, 3) := by decide +kernel
theorem dJ7_fill_53178_17 : decode cJ7_fill_53178 17 = .ok (.goto (-12), 3) := by decide +kernel
theorem dJ7_fill_53178_20 : decode cJ7_fill_53178 20 = .ok (.return_, 1) := by decide +kernel
theorem dL_cell_0 : decode cL_cell 0 = .ok (.iload_n 1, 1) := by decide +kernel
theorem dL_cell_1 : decode cL_cell 1 = .ok (.aload_n 0, 1) := by decide +kernel
theorem dL_cell_2 : decode cL_cell 2 = .ok (.arraylength, 1) := by decide +kernel
theorem dL_cell_3 : decode cL_cell 3 = .ok (.if_icmp .ge 9, 3) := by decide +kernel
theorem dL_cell_6 : decode cL_cell 6 = .ok (.aload_n 0, 1) := by decide +kernel
theorem dL_cell_7 : decode cL_cell 7 = .ok (.iload_n 1, 1) := by decide +kernel
theorem dL_cell_8 : decode cL_cell 8 = .ok (.iaload, 1) := by decide +kernel
theorem dL_cell_9 : decode cL_cell 9 = .ok (.goto 15, 3) := by decide +kernel
theorem dL_cell_12 : decode cL_cell 12 = .ok (.ldc 7, 2) := by decide +kernel
theorem dL_cell_14 : decode cL_cell 14 = .ok (.iload_n 1, 1) := by decide +kernel
theorem dL_cell_15 : decode cL_cell 15 = .ok (.sipush 6833, 3) := by decide +kernel
theorem dL_cell_18 : decode cL_cell 18 = .ok (.irem, 1) := by decide +kernel
theorem dL_cell_19 : decode cL_cell 19 = .ok (.imul, 1) := by decide +kernel
theorem dL_cell_20 : decode cL_cell 20 = .ok (.sipush 2203, 3) := by decide +kernel
theorem dL_cell_23 : decode cL_cell 23 = .ok (.iadd, 1) := by decide +kernel
theorem dL_cell_24 : decode cL_cell 24 = .ok (.ldc 8, 2) := by decide +kernel
theorem dL_cell_26 : decode cL_cell 26 = .ok (.iand, 1) := by decide +kernel
theorem dL_cell_27 : decode cL_cell 27 = .ok (.ireturn, 1) := by decide +kernel
set_option maxRecDepth 20000 in
theorem ggL_put_X2_put : GoodIn wsL_put wsX2_put := goodIn_ca (goodIn_ca (goodIn_r _ [7, 8, 9, 10, 11, 6, 12, 13, 14, 15, 16, 17, 18, 19, 20, 21, 22, 23, 24, 25, 26, 27, 28, 29, 30, 31, 32, 33, 34, 35, 36, 37, 38, 39, 40, 41, 42, 43, 44, 45, 46, 47, 48, 49, 50, 51, 52, 53, 54, 55, 56, 57, 58, 59, 60, 61, 62, 63, 64, 65, 66, 67, 68, 69, 70, 71, 72, 73, 74, 75, 76] (by decide +kernel) (by decide +kernel)) (goodIn_sub (fun _ h => List.mem_cons_of_mem _ (List.mem_append_left _ (List.mem_append_right _ h))) (by decide +kernel))) (goodIn_sub (fun _ h => List.mem_cons_of_mem _ (List.mem_append_right _ h)) (by decide +kernel))
set_option maxRecDepth 20000 in
theorem gL_put_X2_put : GoodIn wsL_put (wsV RL 9 RX2 yX2_put wsX2_put) := goodIn_app (goodIn_of _ (by decide +kernel)) ggL_put_X2_put
theorem dL_put_0 : decode cL_put 0 = .ok (.aload_n 0, 1) := by decide +kernel
theorem dL_put_1 : decode cL_put 1 = .ok (.iload_n 1, 1) := by decide +kernel
theorem dL_put_2 : decode cL_put 2 = .ok (.iload_n 2, 1) := by decide +kernel
theorem dL_put_3 : decode cL_put 3 = .ok (.invokevirtual 9, 3) := by decide +kernel
theorem dL_put_6 : decode cL_put 6 = .ok (.ireturn, 1) := by decide +kernel
theorem dL_put_7 : decode cL_put 7 = .ok (.astore_n 3, 1) := by decide +kernel
theorem dL_put_8 : decode cL_put 8 = .ok (.bipush (-102), 2) := by decide +kernel
theorem dL_put_10 : decode cL_put 10 = .ok (.ireturn, 1) := by decide +kernel
theorem dL_put_11 : decode cL_put 11 = .ok (.astore_n 3, 1) := by decide +kernel
theorem dL_put_12 : decode cL_put 12 = .ok (.bipush (-103), 2) := by decide +kernel
theorem dL_put_14 : decode cL_put 14 = .ok (.ireturn, 1) := by decide +kernel
set_option maxRecDepth 20000 in
theorem ggL_delete_X2_delete : GoodIn wsL_delete wsX2_delete := goodIn_ca (goodIn_ca (goodIn_r _ [7, 8, 9, 10, 11, 12, 6, 13, 14, 15, 16, 17, 18, 19, 20, 21, 22, 23, 24, 25, 26, 27, 28, 29, 30, 31, 32, 33, 34, 35, 36, 37, 38, 39, 40, 41, 42, 43, 44, 45, 46, 47, 48, 49, 50, 51, 52, 53, 54, 55, 56, 57, 58, 59, 60, 61, 62, 63, 64, 65, 66, 67, 68, 69, 70, 71, 72, 73, 74, 75, 76, 77, 78, 79, 80, 81, 82, 83, 84, 85, 86, 87, 88, 89] (by decide +kernel) (by decide +kernel)) (goodIn_sub (fun _ h => List.mem_cons_of_mem _ (List.mem_append_left _ (List.mem_append_right _ h))) (by decide +kernel))) (goodIn_sub (fun _ h => List.mem_cons_of_mem _ (List.mem_append_right _ h)) (by decide +kernel))
set_option maxRecDepth 20000 in
theorem gL_delete_X2_delete : GoodIn wsL_delete (wsV RL 19 RX2 yX2_delete wsX2_delete) := goodIn_app (goodIn_of _ (by decide +kernel)) ggL_delete_X2_delete
theorem dL_delete_0 : decode cL_delete 0 = .ok (.aload_n 0, 1) := by decide +kernel
theorem dL_delete_1 : decode cL_delete 1 = .ok (.iload_n 1, 1) := by decide +kernel
theorem dL_delete_2 : decode cL_delete 2 = .ok (.invokevirtual 19, 3) := by decide +kernel
theorem dL_delete_5 : decode cL_delete 5 = .ok (.ireturn, 1) := by decide +kernel
theorem dL_delete_6 : decode cL_delete 6 = .ok (.astore_n 2, 1) := by decide +kernel
theorem dL_delete_7 : decode cL_delete 7 = .ok (.bipush (-102), 2) := by decide +kernel
theorem dL_delete_9 : decode cL_delete 9 = .ok (.ireturn, 1) := by decide +kernel
theorem dL_delete_10 : decode cL_delete 10 = .ok (.astore_n 2, 1) := by decide +kernel
theorem dL_delete_11 : decode cL_delete 11 = .ok (.bipush (-103), 2) := by decide +kernel
theorem dL_delete_13 : decode cL_delete 13 = .ok (.ireturn, 1) := by decide +kernel
set_option maxRecDepth 20000 in
theorem ggL_get_X2_get : GoodIn wsL_get wsX2_get := goodIn_ca (goodIn_ca (goodIn_r _ [7, 8, 9, 10, 6, 11, 12, 13, 14, 15, 16, 17, 18, 19, 20, 21, 22, 23, 24, 25, 26, 27, 28, 29, 30, 31, 32, 33, 34, 35, 36, 37, 38, 39, 40, 41, 42, 43, 44, 45, 46, 47, 48, 49, 50, 51, 52, 53, 54, 55, 56, 57, 58, 59] (by decide +kernel) (by decide +kernel)) (goodIn_sub (fun _ h => List.mem_cons_of_mem _ (List.mem_append_left _ (List.mem_append_right _ h))) (by decide +kernel))) (goodIn_sub (fun _ h => List.mem_cons_of_mem _ (List.mem_append_right _ h)) (by decide +kernel))
set_option maxRecDepth 20000 in
theorem gL_get_X2_get : GoodIn wsL_get (wsV RL 23 RX2 yX2_get wsX2_get) := goodIn_app (goodIn_of _ (by decide +kernel)) ggL_get_X2_get
theorem dL_get_0 : decode cL_get 0 = .ok (.aload_n 0, 1) := by decide +kernel
theorem dL_get_1 : decode cL_get 1 = .ok (.iload_n 1, 1) := by decide +kernel
theorem dL_get_2 : decode cL_get 2 = .ok (.invokevirtual 23, 3) := by decide +kernel
theorem dL_get_5 : decode cL_get 5 = .ok (.ireturn, 1) := by decide +kernel
theorem dL_get_6 : decode cL_get 6 = .ok (.astore_n 2, 1) := by decide +kernel
theorem dL_get_7 : decode cL_get 7 = .ok (.bipush (-102), 2) := by decide +kernel
theorem dL_get_9 : decode cL_get 9 = .ok (.ireturn, 1) := by decide +kernel
theorem dL_get_10 : decode cL_get 10 = .ok (.astore_n 2, 1) := by decide +kernel
theorem dL_get_11 : decode cL_get 11 = .ok (.bipush (-103), 2) := by decide +kernel
theorem dL_get_13 : decode cL_get 13 = .ok (.ireturn, 1) := by decide +kernel
set_option maxRecDepth 20000 in
theorem ggL_next_X2_next : GoodIn wsL_next wsX2_next := goodIn_ca (goodIn_ca (goodIn_r _ [7, 8, 9, 10, 6, 11, 12, 13, 14, 15, 16, 17, 18, 19, 20, 21, 22, 23, 24, 25, 26, 27, 28, 29, 30, 31, 32, 33, 34, 35, 36, 37, 38, 39, 40, 41] (by decide +kernel) (by decide +kernel)) (goodIn_sub (fun _ h => List.mem_cons_of_mem _ (List.mem_append_left _ (List.mem_append_right _ h))) (by decide +kernel))) (goodIn_sub (fun _ h => List.mem_cons_of_mem _ (List.mem_append_right _ h)) (by decide +kernel))
set_option maxRecDepth 20000 in
theorem gL_next_X2_next : GoodIn wsL_next (wsV RL 26 RX2 yX2_next wsX2_next) := goodIn_app (goodIn_of _ (by decide +kernel)) ggL_next_X2_next
theorem dL_next_0 : decode cL_next 0 = .ok (.aload_n 0, 1) := by decide +kernel
theorem dL_next_1 : decode cL_next 1 = .ok (.iload_n 1, 1) := by decide +kernel
theorem dL_next_2 : decode cL_next 2 = .ok (.invokevirtual 26, 3) := by decide +kernel
theorem dL_next_5 : decode cL_next 5 = .ok (.ireturn, 1) := by decide +kernel
theorem dL_next_6 : decode cL_next 6 = .ok (.astore_n 2, 1) := by decide +kernel
theorem dL_next_7 : decode cL_next 7 = .ok (.bipush (-102), 2) := by decide +kernel
theorem dL_next_9 : decode cL_next 9 = .ok (.ireturn, 1) := by decide +kernel
theorem dL_next_10 : decode cL_next 10 = .ok (.astore_n 2, 1) := by decide +kernel
theorem dL_next_11 : decode cL_next 11 = .ok (.bipush (-103), 2) := by decide +kernel
theorem dL_next_13 : decode cL_next 13 = .ok (.ireturn, 1) := by decide +kernel
set_option maxRecDepth 20000 in
theorem ggL_sum_X2_sum : GoodIn wsL_sum wsX2_sum := goodIn_ca (goodIn_ca (goodIn_r _ [7, 8, 9, 10, 6, 11, 12, 13, 14, 15, 16, 17, 18, 19, 20, 21, 22, 23, 24, 25, 26, 27, 28, 29, 30, 31, 32, 33, 34, 35, 36, 37, 38, 39, 40, 41, 42, 43, 44, 45, 46, 47, 48, 49, 50, 51, 52, 53, 54, 55, 56, 57, 58, 59, 60, 61, 62] (by decide +kernel) (by decide +kernel)) (goodIn_sub (fun _ h => List.mem_cons_of_mem _ (List.mem_append_left _ (List.mem_append_right _ h))) (by decide +kernel))) (goodIn_sub (fun _ h => List.mem_cons_of_mem _ (List.mem_append_right _ h)) (by decide +kernel))
set_option maxRecDepth 20000 in
theorem gL_sum_X2_sum : GoodIn wsL_sum (wsV RL 29 RX2 yX2_sum wsX2_sum) := goodIn_app (goodIn_of _ (by decide +kernel)) ggL_sum_X2_sum
theorem dL_sum_0 : decode cL_sum 0 = .ok (.aload_n 0, 1) := by decide +kernel
theorem dL_sum_1 : decode cL_sum 1 = .ok (.iload_n 1, 1) := by decide +kernel
theorem dL_sum_2 : decode cL_sum 2 = .ok (.iload_n 2, 1) := by decide +kernel
theorem dL_sum_3 : decode cL_sum 3 = .ok (.invokevirtual 29, 3) := by decide +kernel
theorem dL_sum_6 : decode cL_sum 6 = .ok (.ireturn, 1) := by decide +kernel
theorem dL_sum_7 : decode cL_sum 7 = .ok (.astore_n 3, 1) := by decide +kernel
theorem dL_sum_8 : decode cL_sum 8 = .ok (.bipush (-102), 2) := by decide +kernel
theorem dL_sum_10 : decode cL_sum 10 = .ok (.ireturn, 1) := by decide +kernel
theorem dL_sum_11 : decode cL_sum 11 = .ok (.astore_n 3, 1) := by decide +kernel
theorem dL_sum_12 : decode cL_sum 12 = .ok (.bipush (-103), 2) := by decide +kernel
theorem dL_sum_14 : decode cL_sum 14 = .ok (.ireturn, 1) := by decide +kernel
set_option maxRecDepth 20000 in
theorem ggL_fetches_X2_fetches : GoodIn wsL_fetches wsX2_fetches := goodIn_ca (goodIn_ca (goodIn_r _ [7, 8, 9, 10, 11, 6, 12, 13, 14, 15, 16, 17, 18, 19, 20, 21, 22, 23, 24, 25, 26, 27, 28, 29, 30, 31, 32, 33, 34, 35, 36, 37, 38, 39, 40, 41, 42, 43, 44, 45, 46, 47, 48, 49, 50, 51, 52, 53, 54, 55, 56] (by decide +kernel) (by decide +kernel)) (goodIn_sub (fun _ h => List.mem_cons_of_mem _ (List.mem_append_left _ (List.mem_append_right _ h))) (by decide +kernel))) (goodIn_sub (fun _ h => List.mem_cons_of_mem _ (List.mem_append_right _ h)) (by decide +kernel))
set_option maxRecDepth 20000 in
theorem gL_fetches_X2_fetches : GoodIn wsL_fetches (wsV RL 32 RX2 yX2_fetches wsX2_fetches) := goodIn_app (goodIn_of _ (by decide +kernel)) ggL_fetches_X2_fetches
theorem dL_fetches_0 : decode cL_fetches 0 = .ok (.aload_n 0, 1) := by decide +kernel
theorem dL_fetches_1 : decode cL_fetches 1 = .ok (.iload_n 1, 1) := by decide +kernel
theorem dL_fetches_2 : decode cL_fetches 2 = .ok (.iload_n 2, 1) := by decide +kernel
theorem dL_fetches_3 : decode cL_fetches 3 = .ok (.invokevirtual 32, 3) := by decide +kernel
theorem dL_fetches_6 : decode cL_fetches 6 = .ok (.ireturn, 1) := by decide +kernel
theorem dL_fetches_7 : decode cL_fetches 7 = .ok (.astore_n 3, 1) := by decide +kernel
theorem dL_fetches_8 : decode cL_fetches 8 = .ok (.bipush (-102), 2) := by decide +kernel
theorem dL_fetches_10 : decode cL_fetches 10 = .ok (.ireturn, 1) := by decide +kernel
theorem dL_fetches_11 : decode cL_fetches 11 = .ok (.astore_n 3, 1) := by decide +kernel
theorem dL_fetches_12 : decode cL_fetches 12 = .ok (.bipush (-103), 2) := by decide +kernel
theorem dL_fetches_14 : decode cL_fetches 14 = .ok (.ireturn, 1) := by decide +kernel
set_option maxRecDepth 20000 in
theorem ggL_sync_X2_synchronize : GoodIn wsL_sync wsX2_synchronize := goodIn_ca (goodIn_r _ [6, 7, 8, 9, 5, 10, 11, 12, 13, 14, 15, 16, 17, 18, 19, 20, 21, 22, 23, 24, 25, 26, 27, 28, 29, 30, 31, 32, 33, 34, 35, 36, 37, 38] (by decide +kernel) (by decide +kernel)) (goodIn_sub (fun _ h => List.mem_cons_of_mem _ (List.mem_append_right _ h)) (by decide +kernel))
set_option maxRecDepth 20000 in
theorem gL_sync_X2_synchronize : GoodIn wsL_sync (wsV RL 35 RX2 yX2_synchronize wsX2_synchronize) := goodIn_app (goodIn_of _ (by decide +kernel)) ggL_sync_X2_synchronize
theorem dL_sync_0 : decode cL_sync 0 = .ok (.aload_n 0, 1) := by decide +kernel
theorem dL_sync_1 : decode cL_sync 1 = .ok (.invokevirtual 35, 3) := by decide +kernel
theorem dL_sync_4 : decode cL_sync 4 = .ok (.ifCond .eq 7, 3) := by decide +kernel
theorem dL_sync_7 : decode cL_sync 7 = .ok (.iconst 1, 1) := by decide +kernel
theorem dL_sync_8 : decode cL_sync 8 = .ok (.goto 4, 3) := by decide +kernel
theorem dL_sync_11 : decode cL_sync 11 = .ok (.iconst 0, 1) := by decide +kernel
theorem dL_sync_12 : decode cL_sync 12 = .ok (.ireturn, 1) := by decide +kernel
theorem dL_sync_13 : decode cL_sync 13 = .ok (.astore_n 1, 1) := by decide +kernel
theorem dL_sync_14 : decode cL_sync 14 = .ok (.bipush (-103), 2) := by decide +kernel
theorem dL_sync_16 : decode cL_sync 16 = .ok (.ireturn, 1) := by decide +kernel
set_option maxRecDepth 20000 in
theorem ggL_check_X2_checkpoint : GoodIn wsL_check wsX2_checkpoint := goodIn_ca (goodIn_r _ [6, 7, 8, 9, 10, 11, 12, 13, 5, 14, 15, 16, 17, 18, 19, 20, 21, 22, 23, 24, 25, 26, 27, 28, 29, 30, 31, 32, 33, 34, 35, 36, 37, 38, 39, 40, 41, 42, 43, 44, 45, 46, 47, 48, 49, 50, 51, 52] (by decide +kernel) (by decide +kernel)) (goodIn_sub (fun _ h => List.mem_cons_of_mem _ (List.mem_append_right _ h)) (by decide +kernel))
set_option maxRecDepth 20000 in
theorem gL_check_X2_checkpoint : GoodIn wsL_check (wsV RL 39 RX2 yX2_checkpoint wsX2_checkpoint) := goodIn_app (goodIn_of _ (by decide +kernel)) ggL_check_X2_checkpoint
theorem dL_check_0 : decode cL_check 0 = .ok (.aload_n 0, 1) := by decide +kernel
theorem dL_check_1 : decode cL_check 1 = .ok (.invokevirtual 39, 3) := by decide +kernel
theorem dL_check_4 : decode cL_check 4 = .ok (.ifCond .eq 7, 3) := by decide +kernel
theorem dL_check_7 : decode cL_check 7 = .ok (.iconst 1, 1) := by decide +kernel
theorem dL_check_8 : decode cL_check 8 = .ok (.goto 4, 3) := by decide +kernel
theorem dL_check_11 : decode cL_check 11 = .ok (.iconst 0, 1) := by decide +kernel
theorem dL_check_12 : decode cL_check 12 = .ok (.ireturn, 1) := by decide +kernel
theorem dL_check_13 : decode cL_check 13 = .ok (.astore_n 1, 1) := by decide +kernel
theorem dL_check_14 : decode cL_check 14 = .ok (.bipush (-103), 2) := by decide +kernel
theorem dL_check_16 : decode cL_check 16 = .ok (.ireturn, 1) := by decide +kernel
set_option maxRecDepth 20000 in
theorem ggL_collect_X2_collect : GoodIn wsL_collect wsX2_collect := goodIn_ca (goodIn_ca (goodIn_r _ [7, 8, 9, 10, 11, 12, 13, 14, 15, 16, 6, 17, 18, 19, 20, 21, 22, 23, 24, 25, 26, 27, 28, 29, 30, 31, 32, 33, 34, 35, 36, 37, 38, 39, 40, 41, 42, 43, 44, 45, 46, 47, 48, 49, 50, 51, 52, 53, 54, 55, 56, 57, 58, 59, 60, 61, 62, 63, 64, 65, 66, 67, 68, 69, 70, 71, 72, 73, 74, 75, 76, 77, 78, 79, 80, 81, 82, 83, 84, 85, 86, 87, 88, 89, 90, 91, 92, 93, 94, 95, 96, 97, 98, 99, 100, 101, 102, 103] (by decide +kernel) (by decide +kernel)) (goodIn_sub (fun _ h => List.mem_cons_of_mem _ (List.mem_append_left _ (List.mem_append_right _ h))) (by decide +kernel))) (goodIn_sub (fun _ h => List.mem_cons_of_mem _ (List.mem_append_right _ h)) (by decide +kernel))
set_option maxRecDepth 20000 in
theorem gL_collect_X2_collect : GoodIn wsL_collect (wsV RL 42 RX2 yX2_collect wsX2_collect) := goodIn_app (goodIn_of _ (by decide +kernel)) ggL_collect_X2_collect
theorem dL_collect_0 : decode cL_collect 0 = .ok (.aload_n 0, 1) := by decide +kernel
theorem dL_collect_1 : decode cL_collect 1 = .ok (.iload_n 1, 1) := by decide +kernel
theorem dL_collect_2 : decode cL_collect 2 = .ok (.invokevirtual 42, 3) := by decide +kernel
theorem dL_collect_5 : decode cL_collect 5 = .ok (.ifCond .eq 7, 3) := by decide +kernel
theorem dL_collect_8 : decode cL_collect 8 = .ok (.iconst 1, 1) := by decide +kernel
theorem dL_collect_9 : decode cL_collect 9 = .ok (.goto 4, 3) := by decide +kernel
theorem dL_collect_12 : decode cL_collect 12 = .ok (.iconst 0, 1) := by decide +kernel
theorem dL_collect_13 : decode cL_collect 13 = .ok (.ireturn, 1) := by decide +kernel
theorem dL_collect_14 : decode cL_collect 14 = .ok (.astore_n 2, 1) := by decide +kernel
theorem dL_collect_15 : decode cL_collect 15 = .ok (.bipush (-102), 2) := by decide +kernel
theorem dL_collect_17 : decode cL_collect 17 = .ok (.ireturn, 1) := by decide +kernel
theorem dL_collect_18 : decode cL_collect 18 = .ok (.astore_n 2, 1) := by decide +kernel
theorem dL_collect_19 : decode cL_collect 19 = .ok (.bipush (-103), 2) := by decide +kernel
theorem dL_collect_21 : decode cL_collect 21 = .ok (.ireturn, 1) := by decide +kernel
set_option maxRecDepth 20000 in
theorem ggL_crash_X2_crash : GoodIn wsL_crash wsX2_crash := goodIn_ca (goodIn_r _ [6, 7, 8, 9, 10, 11, 5, 12, 13, 14, 15, 16, 17, 18, 19, 20, 21, 22, 23, 24, 25, 26, 27, 28, 29] (by decide +kernel) (by decide +kernel)) (goodIn_sub (fun _ h => List.mem_cons_of_mem _ (List.mem_append_right _ h)) (by decide +kernel))
set_option maxRecDepth 20000 in
theorem gL_crash_X2_crash : GoodIn wsL_crash (wsV RL 46 RX2 yX2_crash wsX2_crash) := goodIn_app (goodIn_of _ (by decide +kernel)) ggL_crash_X2_crash
theorem dL_crash_0 : decode cL_crash 0 = .ok (.aload_n 0, 1) := by decide +kernel
theorem dL_crash_1 : decode cL_crash 1 = .ok (.invokevirtual 46, 3) := by decide +kernel
theorem dL_crash_4 : decode cL_crash 4 = .ok (.ireturn, 1) := by decide +kernel
theorem dL_crash_5 : decode cL_crash 5 = .ok (.astore_n 1, 1) := by decide +kernel
theorem dL_crash_6 : decode cL_crash 6 = .ok (.bipush (-103), 2) := by decide +kernel
theorem dL_crash_8 : decode cL_crash 8 = .ok (.ireturn, 1) := by decide +kernel
set_option maxRecDepth 20000 in
theorem ggL_start_X2_start : GoodIn wsL_start wsX2_start := goodIn_ca (goodIn_r _ [6, 7, 8, 9, 10, 11, 12, 13, 5, 14, 15, 16, 17, 18, 19, 20, 21, 22, 23, 24, 25, 26, 27, 28, 29, 30, 31, 32, 33, 34, 35, 36, 37, 38, 39, 40, 41, 42, 43, 44, 45, 46, 47, 48, 49, 50, 51, 52, 53, 54, 55, 56, 57, 58, 59, 60, 61, 62, 63, 64, 65, 66, 67, 68, 69, 70, 71, 72, 73, 74, 75, 76, 77] (by decide +kernel) (by decide +kernel)) (goodIn_sub (fun _ h => List.mem_cons_of_mem _ (List.mem_append_right _ h)) (by decide +kernel))
set_option maxRecDepth 20000 in
theorem gL_start_X2_start : GoodIn wsL_start (wsV RL 50 RX2 yX2_start wsX2_start) := goodIn_app (goodIn_of _ (by decide +kernel)) ggL_start_X2_start
theorem dL_start_0 : decode cL_start 0 = .ok (.aload_n 0, 1) := by decide +kernel
theorem dL_start_1 : decode cL_start 1 = .ok (.invokevirtual 50, 3) := by decide +kernel
theorem dL_start_4 : decode cL_start 4 = .ok (.ireturn, 1) := by decide +kernel
theorem dL_start_5 : decode cL_start 5 = .ok (.astore_n 1, 1) := by decide +kernel
theorem dL_start_6 : decode cL_start 6 = .ok (.bipush (-103), 2) := by decide +kernel
theorem dL_start_8 : decode cL_start 8 = .ok (.ireturn, 1) := by decide +kernel
set_option maxRecDepth 20000 in
theorem ggL_position_X2_positionOf : GoodIn wsL_position wsX2_positionOf := goodIn_ca (goodIn_ca (goodIn_r _ [7, 8, 9, 10, 6, 11, 12, 13, 14, 15, 16, 17, 18, 19, 20, 21, 22, 23, 24, 25, 26, 27, 28, 29, 30, 31, 32, 33, 34, 35, 36, 37] (by decide +kernel) (by decide +kernel)) (goodIn_sub (fun _ h => List.mem_cons_of_mem _ (List.mem_append_left _ (List.mem_append_right _ h))) (by decide +kernel))) (goodIn_sub (fun _ h => List.mem_cons_of_mem _ (List.mem_append_right _ h)) (by decide +kernel))
set_option maxRecDepth 20000 in
theorem gL_position_X2_positionOf : GoodIn wsL_position (wsV RL 53 RX2 yX2_positionOf wsX2_positionOf) := goodIn_app (goodIn_of _ (by decide +kernel)) ggL_position_X2_positionOf
theorem dL_position_0 : decode cL_position 0 = .ok (.aload_n 0, 1) := by decide +kernel
theorem dL_position_1 : decode cL_position 1 = .ok (.iload_n 1, 1) := by decide +kernel
theorem dL_position_2 : decode cL_position 2 = .ok (.invokevirtual 53, 3) := by decide +kernel
theorem dL_position_5 : decode cL_position 5 = .ok (.ireturn, 1) := by decide +kernel
theorem dL_position_6 : decode cL_position 6 = .ok (.astore_n 2, 1) := by decide +kernel
theorem dL_position_7 : decode cL_position 7 = .ok (.bipush (-102), 2) := by decide +kernel
theorem dL_position_9 : decode cL_position 9 = .ok (.ireturn, 1) := by decide +kernel
theorem dL_position_10 : decode cL_position 10 = .ok (.astore_n 2, 1) := by decide +kernel
theorem dL_position_11 : decode cL_position 11 = .ok (.bipush (-103), 2) := by decide +kernel
theorem dL_position_13 : decode cL_position 13 = .ok (.ireturn, 1) := by decide +kernel
set_option maxRecDepth 20000 in
theorem ggL_live_X2_live : GoodIn wsL_live wsX2_live := goodIn_ca (goodIn_r _ [6, 7, 8, 9, 10, 11, 5, 12, 13, 14, 15, 16, 17, 18, 19, 20, 21, 22, 23, 24, 25, 26, 27, 28, 29, 30, 31, 32, 33, 34, 35, 36, 37, 38, 39, 40, 41, 42, 43, 44, 45, 46, 47, 48, 49, 50, 51, 52, 53, 54] (by decide +kernel) (by decide +kernel)) (goodIn_sub (fun _ h => List.mem_cons_of_mem _ (List.mem_append_right _ h)) (by decide +kernel))
set_option maxRecDepth 20000 in
theorem gL_live_X2_live : GoodIn wsL_live (wsV RL 56 RX2 yX2_live wsX2_live) := goodIn_app (goodIn_of _ (by decide +kernel)) ggL_live_X2_live
theorem dL_live_0 : decode cL_live 0 = .ok (.aload_n 0, 1) := by decide +kernel
theorem dL_live_1 : decode cL_live 1 = .ok (.invokevirtual 56, 3) := by decide +kernel
theorem dL_live_4 : decode cL_live 4 = .ok (.ireturn, 1) := by decide +kernel
theorem dL_live_5 : decode cL_live 5 = .ok (.astore_n 1, 1) := by decide +kernel
theorem dL_live_6 : decode cL_live 6 = .ok (.bipush (-103), 2) := by decide +kernel
theorem dL_live_8 : decode cL_live 8 = .ok (.ireturn, 1) := by decide +kernel
set_option maxRecDepth 20000 in
theorem ggL_has_X2_isUp : GoodIn wsL_has wsX2_isUp := goodIn_r _ [5, 6, 139, 140, 141, 142, 143, 144, 145, 146, 147, 148] (by decide +kernel) (by decide +kernel)
set_option maxRecDepth 20000 in
theorem gL_has_X2_isUp : GoodIn wsL_has (wsV RL 59 RX2 yX2_isUp wsX2_isUp) := goodIn_app (goodIn_of _ (by decide +kernel)) ggL_has_X2_isUp
set_option maxRecDepth 20000 in
theorem ggL_has_X2_tail : GoodIn wsL_has wsX2_tail := goodIn_r _ [10, 11, 139, 140, 141, 142, 143, 144, 145, 146, 147, 148] (by decide +kernel) (by decide +kernel)
set_option maxRecDepth 20000 in
theorem gL_has_X2_tail : GoodIn wsL_has (wsV RL 62 RX2 yX2_tail wsX2_tail) := goodIn_app (goodIn_of _ (by decide +kernel)) ggL_has_X2_tail
set_option maxRecDepth 20000 in
theorem ggL_has_X2_written : GoodIn wsL_has wsX2_written := goodIn_r _ [15, 16, 139, 140, 141, 142, 143, 144, 145, 146, 147, 148] (by decide +kernel) (by decide +kernel)
set_option maxRecDepth 20000 in
theorem gL_has_X2_written : GoodIn wsL_has (wsV RL 65 RX2 yX2_written wsX2_written) := goodIn_app (goodIn_of _ (by decide +kernel)) ggL_has_X2_written
set_option maxRecDepth 20000 in
theorem ggL_has_X2_head : GoodIn wsL_has wsX2_head := goodIn_r _ [20, 21, 139, 140, 141, 142, 143, 144, 145, 146, 147, 148] (by decide +kernel) (by decide +kernel)
set_option maxRecDepth 20000 in
theorem gL_has_X2_head : GoodIn wsL_has (wsV RL 68 RX2 yX2_head wsX2_head) := goodIn_app (goodIn_of _ (by decide +kernel)) ggL_has_X2_head
set_option maxRecDepth 20000 in
theorem ggL_has_L_position : GoodIn wsL_has wsL_position := goodIn_ca (goodIn_ca (goodIn_r _ [25, 26, 27, 28, 29, 30, 4, 31, 32, 33, 34, 35, 36, 37, 38, 39, 40, 41, 42, 43, 6, 44, 45, 46, 47, 48, 49, 139, 140, 141, 142, 143, 144, 145, 146, 147, 148, 149] (by decide +kernel) (by decide +kernel)) (goodIn_sub (fun _ h => List.mem_cons_of_mem _ (List.mem_append_left _ (List.mem_append_right _ h))) (by decide +kernel))) (goodIn_sub (fun _ h => List.mem_cons_of_mem _ (List.mem_append_right _ h)) (by decide +kernel))
set_option maxRecDepth 20000 in
theorem gL_has_L_position : GoodIn wsL_has (va_wsS RL 71 yL_position wsL_position) := goodIn_app (goodIn_of _ (by decide +kernel)) ggL_has_L_position
set_option maxRecDepth 20000 in
theorem ggL_has_L_get : GoodIn wsL_has wsL_get := goodIn_ca (goodIn_ca (goodIn_r _ [52, 26, 27, 53, 54, 55, 4, 56, 32, 33, 34, 35, 36, 37, 38, 39, 40, 41, 42, 43, 6, 57, 58, 59, 47, 60, 61, 45, 46, 48, 49, 62, 63, 64, 65, 66, 44, 67, 68, 69, 70, 71, 72, 73, 74, 75, 76, 139, 140, 141, 142, 143, 144, 145, 146, 147, 148, 149, 150, 151] (by decide +kernel) (by decide +kernel)) (goodIn_sub (fun _ h => List.mem_cons_of_mem _ (List.mem_append_left _ (List.mem_append_right _ h))) (by decide +kernel))) (goodIn_sub (fun _ h => List.mem_cons_of_mem _ (List.mem_append_right _ h)) (by decide +kernel))
set_option maxRecDepth 20000 in
theorem gL_has_L_get : GoodIn wsL_has (va_wsS RL 77 yL_get wsL_get) := goodIn_app (goodIn_of _ (by decide +kernel)) ggL_has_L_get
set_option maxRecDepth 20000 in
theorem ggL_has_L_next : GoodIn wsL_has wsL_next := goodIn_ca (goodIn_ca (goodIn_r _ [79, 26, 27, 80, 81, 82, 4, 83, 32, 33, 34, 35, 36, 37, 38, 39, 40, 41, 42, 43, 6, 57, 58, 59, 47, 60, 61, 45, 46, 48, 49, 139, 140, 141, 142, 143, 144, 145, 146, 147, 148, 149] (by decide +kernel) (by decide +kernel)) (goodIn_sub (fun _ h => List.mem_cons_of_mem _ (List.mem_append_left _ (List.mem_append_right _ h))) (by decide +kernel))) (goodIn_sub (fun _ h => List.mem_cons_of_mem _ (List.mem_append_right _ h)) (by decide +kernel))
set_option maxRecDepth 20000 in
theorem gL_has_L_next : GoodIn wsL_has (va_wsS RL 79 yL_next wsL_next) := goodIn_app (goodIn_of _ (by decide +kernel)) ggL_has_L_next
set_option maxRecDepth 20000 in
theorem ggL_has_L_fetches : GoodIn wsL_has wsL_fetches := goodIn_ca (goodIn_ca (goodIn_r _ [86, 26, 27, 87, 88, 89, 4, 90, 11, 32, 91, 92, 93, 36, 37, 33, 34, 35, 38, 39, 40, 41, 42, 43, 6, 94, 95, 96, 57, 58, 59, 47, 60, 61, 45, 46, 48, 49, 44, 97, 98, 99, 100, 101, 102, 103, 139, 140, 141, 142, 143, 144, 145, 146, 147, 148, 149] (by decide +kernel) (by decide +kernel)) (goodIn_sub (fun _ h => List.mem_cons_of_mem _ (List.mem_append_left _ (List.mem_append_right _ h))) (by decide +kernel))) (goodIn_sub (fun _ h => List.mem_cons_of_mem _ (List.mem_append_right _ h)) (by decide +kernel))
set_option maxRecDepth 20000 in
theorem gL_has_L_fetches : GoodIn wsL_has (va_wsS RL 81 yL_fetches wsL_fetches) := goodIn_app (goodIn_of _ (by decide +kernel)) ggL_has_L_fetches
set_option maxRecDepth 20000 in
theorem ggL_has_L_sum : GoodIn wsL_has wsL_sum := goodIn_ca (goodIn_ca (goodIn_r _ [106, 26, 27, 107, 108, 109, 4, 110, 32, 91, 92, 93, 36, 37, 33, 34, 35, 38, 39, 40, 41, 42, 43, 6, 57, 58, 59, 47, 60, 61, 45, 46, 48, 49, 62, 63, 64, 65, 66, 44, 67, 68, 69, 70, 71, 72, 73, 74, 75, 76, 139, 140, 141, 142, 143, 144, 145, 146, 147, 148, 149, 150, 151] (by decide +kernel) (by decide +kernel)) (goodIn_sub (fun _ h => List.mem_cons_of_mem _ (List.mem_append_left _ (List.mem_append_right _ h))) (by decide +kernel))) (goodIn_sub (fun _ h => List.mem_cons_of_mem _ (List.mem_append_right _ h)) (by decide +kernel))
set_option maxRecDepth 20000 in
theorem gL_has_L_sum : GoodIn wsL_has (va_wsS RL 84 yL_sum wsL_sum) := goodIn_app (goodIn_of _ (by decide +kernel)) ggL_has_L_sum
set_option maxRecDepth 20000 in
theorem ggL_has_L_live : GoodIn wsL_has wsL_live := goodIn_ca (goodIn_r _ [113, 27, 114, 115, 116, 4, 117, 21, 11, 38, 39, 40, 41, 42, 43, 6, 118, 119, 120, 121, 122, 123, 124, 125, 32, 66, 126, 127, 128, 70, 129, 130, 73, 74, 75, 76, 44, 45, 46, 47, 48, 49, 139, 140, 141, 142, 143, 144, 145, 146, 147, 148, 150, 151, 149] (by decide +kernel) (by decide +kernel)) (goodIn_sub (fun _ h => List.mem_cons_of_mem _ (List.mem_append_right _ h)) (by decide +kernel))
set_option maxRecDepth 20000 in
theorem gL_has_L_live : GoodIn wsL_has (va_wsS RL 86 yL_live wsL_live) := goodIn_app (goodIn_of _ (by decide +kernel)) ggL_has_L_live
set_option maxRecDepth 20000 in
theorem ggL_has_X2_segments : GoodIn wsL_has wsX2_segments := goodIn_r _ [134, 21, 11, 94, 95, 4, 96, 139, 140, 141, 142, 143, 144, 145, 146, 147, 148] (by decide +kernel) (by decide +kernel)
set_option maxRecDepth 20000 in
theorem gL_has_X2_segments : GoodIn wsL_has (wsV RL 89 RX2 yX2_segments wsX2_segments) := goodIn_app (goodIn_of _ (by decide +kernel)) ggL_has_X2_segments
set_option maxRecDepth 20000 in
theorem ggL_has_X2_toFree : GoodIn wsL_has wsX2_toFree := goodIn_r _ [138, 11, 21, 94, 95, 4, 96, 139, 140, 141, 142, 143, 144, 145, 146, 147, 148] (by decide +kernel) (by decide +kernel)
set_option maxRecDepth 20000 in
theorem gL_has_X2_toFree : GoodIn wsL_has (wsV RL 92 RX2 yX2_toFree wsX2_toFree) := goodIn_app (goodIn_of _ (by decide +kernel)) ggL_has_X2_toFree
theorem dL_has_0 : decode cL_has 0 = .ok (.iconst 0, 1) := by decide +kernel
theorem dL_has_1 : decode cL_has 1 = .ok (.istore_n 2, 1) := by decide +kernel
theorem dL_has_2 : decode cL_has 2 = .ok (.iconst 0, 1) := by decide +kernel
theorem dL_has_3 : decode cL_has 3 = .ok (.istore_n 3, 1) := by decide +kernel
theorem dL_has_4 : decode cL_has 4 = .ok (.iconst (-1), 1) := by decide +kernel
theorem dL_has_5 : decode cL_has 5 = .ok (.istore 4, 2) := by decide +kernel
theorem dL_has_7 : decode cL_has 7 = .ok (.aload_n 0, 1) := by decide +kernel
theorem dL_has_8 : decode cL_has 8 = .ok (.invokevirtual 59, 3) := by decide +kernel
theorem dL_has_11 : decode cL_has 11 = .ok (.ifCond .eq 29, 3) := by decide +kernel
theorem dL_has_14 : decode cL_has 14 = .ok (.aload_n 0, 1) := by decide +kernel
theorem dL_has_15 : decode cL_has 15 = .ok (.invokevirtual 62, 3) := by decide +kernel
theorem dL_has_18 : decode cL_has 18 = .ok (.aload_n 0, 1) := by decide +kernel
theorem dL_has_19 : decode cL_has 19 = .ok (.invokevirtual 65, 3) := by decide +kernel
theorem dL_has_22 : decode cL_has 22 = .ok (.if_icmp .gt 18, 3) := by decide +kernel
theorem dL_has_25 : decode cL_has 25 = .ok (.aload_n 0, 1) := by decide +kernel
theorem dL_has_26 : decode cL_has 26 = .ok (.invokevirtual 65, 3) := by decide +kernel
theorem dL_has_29 : decode cL_has 29 = .ok (.aload_n 0, 1) := by decide +kernel
theorem dL_has_30 : decode cL_has 30 = .ok (.invokevirtual 68, 3) := by decide +kernel
theorem dL_has_33 : decode cL_has 33 = .ok (.if_icmp .gt 7, 3) := by decide +kernel
theorem dL_has_36 : decode cL_has 36 = .ok (.iconst 1, 1) := by decide +kernel
theorem dL_has_37 : decode cL_has 37 = .ok (.goto 4, 3) := by decide +kernel
theorem dL_has_40 : decode cL_has 40 = .ok (.iconst 0, 1) := by decide +kernel
theorem dL_has_41 : decode cL_has 41 = .ok (.istore 5, 2) := by decide +kernel
theorem dL_has_43 : decode cL_has 43 = .ok (.iconst 0, 1) := by decide +kernel
theorem dL_has_44 : decode cL_has 44 = .ok (.istore 6, 2) := by decide +kernel
theorem dL_has_46 : decode cL_has 46 = .ok (.iload 6, 2) := by decide +kernel
theorem dL_has_48 : decode cL_has 48 = .ok (.bipush 64, 2) := by decide +kernel
theorem dL_has_50 : decode cL_has 50 = .ok (.if_icmp .ge 173, 3) := by decide +kernel
theorem dL_has_53 : decode cL_has 53 = .ok (.iload 5, 2) := by decide +kernel
theorem dL_has_55 : decode cL_has 55 = .ok (.ifCond .eq 168, 3) := by decide +kernel
theorem dL_has_58 : decode cL_has 58 = .ok (.aload_n 0, 1) := by decide +kernel
theorem dL_has_59 : decode cL_has 59 = .ok (.iload 6, 2) := by decide +kernel
theorem dL_has_61 : decode cL_has 61 = .ok (.invokestatic 71, 3) := by decide +kernel
theorem dL_has_64 : decode cL_has 64 = .ok (.istore 7, 2) := by decide +kernel
theorem dL_has_66 : decode cL_has 66 = .ok (.aload_n 0, 1) := by decide +kernel
theorem dL_has_67 : decode cL_has 67 = .ok (.iload 6, 2) := by decide +kernel
theorem dL_has_69 : decode cL_has 69 = .ok (.invokestatic 77, 3) := by decide +kernel
theorem dL_has_72 : decode cL_has 72 = .ok (.aload_n 1, 1) := by decide +kernel
theorem dL_has_73 : decode cL_has 73 = .ok (.iload 6, 2) := by decide +kernel
theorem dL_has_75 : decode cL_has 75 = .ok (.iaload, 1) := by decide +kernel
theorem dL_has_76 : decode cL_has 76 = .ok (.if_icmp .ne 57, 3) := by decide +kernel
theorem dL_has_79 : decode cL_has 79 = .ok (.aload_n 1, 1) := by decide +kernel
theorem dL_has_80 : decode cL_has 80 = .ok (.iload 6, 2) := by decide +kernel
theorem dL_has_82 : decode cL_has 82 = .ok (.iaload, 1) := by decide +kernel
theorem dL_has_83 : decode cL_has 83 = .ok (.ifCond .ge 7, 3) := by decide +kernel
theorem dL_has_86 : decode cL_has 86 = .ok (.iconst 1, 1) := by decide +kernel
theorem dL_has_87 : decode cL_has 87 = .ok (.goto 4, 3) := by decide +kernel
theorem dL_has_90 : decode cL_has 90 = .ok (.iconst 0, 1) := by decide +kernel
theorem dL_has_91 : decode cL_has 91 = .ok (.iload 7, 2) := by decide +kernel
theorem dL_has_93 : decode cL_has 93 = .ok (.iconst (-1), 1) := by decide +kernel
theorem dL_has_94 : decode cL_has 94 = .ok (.if_icmp .ne 7, 3) := by decide +kernel
theorem dL_has_97 : decode cL_has 97 = .ok (.iconst 1, 1) := by decide +kernel
theorem dL_has_98 : decode cL_has 98 = .ok (.goto 4, 3) := by decide +kernel
theorem dL_has_101 : decode cL_has 101 = .ok (.iconst 0, 1) := by decide +kernel
theorem dL_has_102 : decode cL_has 102 = .ok (.if_icmp .ne 31, 3) := by decide +kernel
theorem dL_has_105 : decode cL_has 105 = .ok (.iload 7, 2) := by decide +kernel
theorem dL_has_107 : decode cL_has 107 = .ok (.iconst (-1), 1) := by decide +kernel
theorem dL_has_108 : decode cL_has 108 = .ok (.if_icmp .eq 21, 3) := by decide +kernel
theorem dL_has_111 : decode cL_has 111 = .ok (.iload 7, 2) := by decide +kernel
theorem dL_has_113 : decode cL_has 113 = .ok (.aload_n 0, 1) := by decide +kernel
theorem dL_has_114 : decode cL_has 114 = .ok (.invokevirtual 62, 3) := by decide +kernel
theorem dL_has_117 : decode cL_has 117 = .ok (.if_icmp .lt 16, 3) := by decide +kernel
theorem dL_has_120 : decode cL_has 120 = .ok (.iload 7, 2) := by decide +kernel
theorem dL_has_122 : decode cL_has 122 = .ok (.aload_n 0, 1) := by decide +kernel
theorem dL_has_123 : decode cL_has 123 = .ok (.invokevirtual 68, 3) := by decide +kernel
theorem dL_has_126 : decode cL_has 126 = .ok (.if_icmp .ge 7, 3) := by decide +kernel
theorem dL_has_129 : decode cL_has 129 = .ok (.iconst 1, 1) := by decide +kernel
theorem dL_has_130 : decode cL_has 130 = .ok (.goto 4, 3) := by decide +kernel
theorem dL_has_133 : decode cL_has 133 = .ok (.iconst 0, 1) := by decide +kernel
theorem dL_has_134 : decode cL_has 134 = .ok (.istore 5, 2) := by decide +kernel
theorem dL_has_136 : decode cL_has 136 = .ok (.iload_n 2, 1) := by decide +kernel
theorem dL_has_137 : decode cL_has 137 = .ok (.aload_n 1, 1) := by decide +kernel
theorem dL_has_138 : decode cL_has 138 = .ok (.iload 6, 2) := by decide +kernel
theorem dL_has_140 : decode cL_has 140 = .ok (.iaload, 1) := by decide +kernel
theorem dL_has_141 : decode cL_has 141 = .ok (.ifCond .ge 7, 3) := by decide +kernel
theorem dL_has_144 : decode cL_has 144 = .ok (.iconst 0, 1) := by decide +kernel
theorem dL_has_145 : decode cL_has 145 = .ok (.goto 7, 3) := by decide +kernel
theorem dL_has_148 : decode cL_has 148 = .ok (.aload_n 1, 1) := by decide +kernel
theorem dL_has_149 : decode cL_has 149 = .ok (.iload 6, 2) := by decide +kernel
theorem dL_has_151 : decode cL_has 151 = .ok (.iaload, 1) := by decide +kernel
theorem dL_has_152 : decode cL_has 152 = .ok (.iadd, 1) := by decide +kernel
theorem dL_has_153 : decode cL_has 153 = .ok (.istore_n 2, 1) := by decide +kernel
theorem dL_has_154 : decode cL_has 154 = .ok (.iload_n 3, 1) := by decide +kernel
theorem dL_has_155 : decode cL_has 155 = .ok (.aload_n 1, 1) := by decide +kernel
theorem dL_has_156 : decode cL_has 156 = .ok (.iload 6, 2) := by decide +kernel
theorem dL_has_158 : decode cL_has 158 = .ok (.iaload, 1) := by decide +kernel
theorem dL_has_159 : decode cL_has 159 = .ok (.ifCond .ge 7, 3) := by decide +kernel
theorem dL_has_162 : decode cL_has 162 = .ok (.iconst 0, 1) := by decide +kernel
theorem dL_has_163 : decode cL_has 163 = .ok (.goto 4, 3) := by decide +kernel
theorem dL_has_166 : decode cL_has 166 = .ok (.iconst 1, 1) := by decide +kernel
theorem dL_has_167 : decode cL_has 167 = .ok (.iadd, 1) := by decide +kernel
theorem dL_has_168 : decode cL_has 168 = .ok (.istore_n 3, 1) := by decide +kernel
theorem dL_has_169 : decode cL_has 169 = .ok (.aload_n 1, 1) := by decide +kernel
theorem dL_has_170 : decode cL_has 170 = .ok (.iload 6, 2) := by decide +kernel
theorem dL_has_172 : decode cL_has 172 = .ok (.iaload, 1) := by decide +kernel
theorem dL_has_173 : decode cL_has 173 = .ok (.ifCond .lt 44, 3) := by decide +kernel
theorem dL_has_176 : decode cL_has 176 = .ok (.iload 5, 2) := by decide +kernel
theorem dL_has_178 : decode cL_has 178 = .ok (.ifCond .eq 32, 3) := by decide +kernel
theorem dL_has_181 : decode cL_has 181 = .ok (.aload_n 0, 1) := by decide +kernel
theorem dL_has_182 : decode cL_has 182 = .ok (.iload 4, 2) := by decide +kernel
theorem dL_has_184 : decode cL_has 184 = .ok (.iconst 1, 1) := by decide +kernel
theorem dL_has_185 : decode cL_has 185 = .ok (.iadd, 1) := by decide +kernel
theorem dL_has_186 : decode cL_has 186 = .ok (.invokestatic 79, 3) := by decide +kernel
theorem dL_has_189 : decode cL_has 189 = .ok (.iload 6, 2) := by decide +kernel
theorem dL_has_191 : decode cL_has 191 = .ok (.if_icmp .ne 19, 3) := by decide +kernel
theorem dL_has_194 : decode cL_has 194 = .ok (.aload_n 0, 1) := by decide +kernel
theorem dL_has_195 : decode cL_has 195 = .ok (.iload 6, 2) := by decide +kernel
theorem dL_has_197 : decode cL_has 197 = .ok (.iload 6, 2) := by decide +kernel
theorem dL_has_199 : decode cL_has 199 = .ok (.invokestatic 81, 3) := by decide +kernel
theorem dL_has_202 : decode cL_has 202 = .ok (.iconst 1, 1) := by decide +kernel
theorem dL_has_203 : decode cL_has 203 = .ok (.if_icmp .ne 7, 3) := by decide +kernel
theorem dL_has_206 : decode cL_has 206 = .ok (.iconst 1, 1) := by decide +kernel
theorem dL_has_207 : decode cL_has 207 = .ok (.goto 4, 3) := by decide +kernel
theorem dL_has_210 : decode cL_has 210 = .ok (.iconst 0, 1) := by decide +kernel
theorem dL_has_211 : decode cL_has 211 = .ok (.istore 5, 2) := by decide +kernel
theorem dL_has_213 : decode cL_has 213 = .ok (.iload 6, 2) := by decide +kernel
theorem dL_has_215 : decode cL_has 215 = .ok (.istore 4, 2) := by decide +kernel
theorem dL_has_217 : decode cL_has 217 = .ok (.iinc 6 1, 3) := by decide +kernel
theorem dL_has_220 : decode cL_has 220 = .ok (.goto (-174), 3) := by decide +kernel
theorem dL_has_223 : decode cL_has 223 = .ok (.iload 5, 2) := by decide +kernel
theorem dL_has_225 : decode cL_has 225 = .ok (.ifCond .eq 58, 3) := by decide +kernel
theorem dL_has_228 : decode cL_has 228 = .ok (.iload 4, 2) := by decide +kernel
theorem dL_has_230 : decode cL_has 230 = .ok (.bipush 63, 2) := by decide +kernel
theorem dL_has_232 : decode cL_has 232 = .ok (.if_icmp .eq 15, 3) := by decide +kernel
theorem dL_has_235 : decode cL_has 235 = .ok (.aload_n 0, 1) := by decide +kernel
theorem dL_has_236 : decode cL_has 236 = .ok (.iload 4, 2) := by decide +kernel
theorem dL_has_238 : decode cL_has 238 = .ok (.iconst 1, 1) := by decide +kernel
theorem dL_has_239 : decode cL_has 239 = .ok (.iadd, 1) := by decide +kernel
theorem dL_has_240 : decode cL_has 240 = .ok (.invokestatic 79, 3) := by decide +kernel
theorem dL_has_243 : decode cL_has 243 = .ok (.iconst (-1), 1) := by decide +kernel
theorem dL_has_244 : decode cL_has 244 = .ok (.if_icmp .ne 39, 3) := by decide +kernel
theorem dL_has_247 : decode cL_has 247 = .ok (.aload_n 0, 1) := by decide +kernel
theorem dL_has_248 : decode cL_has 248 = .ok (.iconst 0, 1) := by decide +kernel
theorem dL_has_249 : decode cL_has 249 = .ok (.bipush 63, 2) := by decide +kernel
theorem dL_has_251 : decode cL_has 251 = .ok (.invokestatic 84, 3) := by decide +kernel
theorem dL_has_254 : decode cL_has 254 = .ok (.iload_n 2, 1) := by decide +kernel
theorem dL_has_255 : decode cL_has 255 = .ok (.if_icmp .ne 28, 3) := by decide +kernel
theorem dL_has_258 : decode cL_has 258 = .ok (.aload_n 0, 1) := by decide +kernel
theorem dL_has_259 : decode cL_has 259 = .ok (.invokestatic 86, 3) := by decide +kernel
theorem dL_has_262 : decode cL_has 262 = .ok (.iload_n 3, 1) := by decide +kernel
theorem dL_has_263 : decode cL_has 263 = .ok (.if_icmp .ne 20, 3) := by decide +kernel
theorem dL_has_266 : decode cL_has 266 = .ok (.iload_n 3, 1) := by decide +kernel
theorem dL_has_267 : decode cL_has 267 = .ok (.aload_n 0, 1) := by decide +kernel
theorem dL_has_268 : decode cL_has 268 = .ok (.invokevirtual 68, 3) := by decide +kernel
theorem dL_has_271 : decode cL_has 271 = .ok (.aload_n 0, 1) := by decide +kernel
theorem dL_has_272 : decode cL_has 272 = .ok (.invokevirtual 62, 3) := by decide +kernel
theorem dL_has_275 : decode cL_has 275 = .ok (.isub, 1) := by decide +kernel
theorem dL_has_276 : decode cL_has 276 = .ok (.if_icmp .gt 7, 3) := by decide +kernel
theorem dL_has_279 : decode cL_has 279 = .ok (.iconst 1, 1) := by decide +kernel
theorem dL_has_280 : decode cL_has 280 = .ok (.goto 4, 3) := by decide +kernel
theorem dL_has_283 : decode cL_has 283 = .ok (.iconst 0, 1) := by decide +kernel
theorem dL_has_284 : decode cL_has 284 = .ok (.istore 5, 2) := by decide +kernel
theorem dL_has_286 : decode cL_has 286 = .ok (.aload_n 0, 1) := by decide +kernel
theorem dL_has_287 : decode cL_has 287 = .ok (.iconst 0, 1) := by decide +kernel
theorem dL_has_288 : decode cL_has 288 = .ok (.bipush 63, 2) := by decide +kernel
theorem dL_has_290 : decode cL_has 290 = .ok (.invokestatic 81, 3) := by decide +kernel
theorem dL_has_293 : decode cL_has 293 = .ok (.istore 6, 2) := by decide +kernel
theorem dL_has_295 : decode cL_has 295 = .ok (.iload 5, 2) := by decide +kernel
theorem dL_has_297 : decode cL_has 297 = .ok (.ifCond .eq 93, 3) := by decide +kernel
theorem dL_has_300 : decode cL_has 300 = .ok (.iload 6, 2) := by decide +kernel
theorem dL_has_302 : decode cL_has 302 = .ok (.aload_n 0, 1) := by decide +kernel
theorem dL_has_303 : decode cL_has 303 = .ok (.invokevirtual 89, 3) := by decide +kernel
theorem dL_has_306 : decode cL_has 306 = .ok (.if_icmp .gt 84, 3) := by decide +kernel
theorem dL_has_309 : decode cL_has 309 = .ok (.iload 6, 2) := by decide +kernel
theorem dL_has_311 : decode cL_has 311 = .ok (.iload_n 3, 1) := by decide +kernel
theorem dL_has_312 : decode cL_has 312 = .ok (.if_icmp .gt 78, 3) := by decide +kernel
theorem dL_has_315 : decode cL_has 315 = .ok (.iload_n 3, 1) := by decide +kernel
theorem dL_has_316 : decode cL_has 316 = .ok (.ifCond .ne 7, 3) := by decide +kernel
theorem dL_has_319 : decode cL_has 319 = .ok (.iconst 1, 1) := by decide +kernel
theorem dL_has_320 : decode cL_has 320 = .ok (.goto 4, 3) := by decide +kernel
theorem dL_has_323 : decode cL_has 323 = .ok (.iconst 0, 1) := by decide +kernel
theorem dL_has_324 : decode cL_has 324 = .ok (.iload 6, 2) := by decide +kernel
theorem dL_has_326 : decode cL_has 326 = .ok (.ifCond .ne 7, 3) := by decide +kernel
theorem dL_has_329 : decode cL_has 329 = .ok (.iconst 1, 1) := by decide +kernel
theorem dL_has_330 : decode cL_has 330 = .ok (.goto 4, 3) := by decide +kernel
theorem dL_has_333 : decode cL_has 333 = .ok (.iconst 0, 1) := by decide +kernel
theorem dL_has_334 : decode cL_has 334 = .ok (.if_icmp .ne 56, 3) := by decide +kernel
theorem dL_has_337 : decode cL_has 337 = .ok (.aload_n 0, 1) := by decide +kernel
theorem dL_has_338 : decode cL_has 338 = .ok (.invokevirtual 89, 3) := by decide +kernel
theorem dL_has_341 : decode cL_has 341 = .ok (.bipush 12, 2) := by decide +kernel
theorem dL_has_343 : decode cL_has 343 = .ok (.if_icmp .gt 47, 3) := by decide +kernel
theorem dL_has_346 : decode cL_has 346 = .ok (.aload_n 0, 1) := by decide +kernel
theorem dL_has_347 : decode cL_has 347 = .ok (.invokevirtual 92, 3) := by decide +kernel
theorem dL_has_350 : decode cL_has 350 = .ok (.iconst (-1), 1) := by decide +kernel
theorem dL_has_351 : decode cL_has 351 = .ok (.if_icmp .eq 35, 3) := by decide +kernel
theorem dL_has_354 : decode cL_has 354 = .ok (.aload_n 0, 1) := by decide +kernel
theorem dL_has_355 : decode cL_has 355 = .ok (.invokevirtual 92, 3) := by decide +kernel
theorem dL_has_358 : decode cL_has 358 = .ok (.iconst 1, 1) := by decide +kernel
theorem dL_has_359 : decode cL_has 359 = .ok (.if_icmp .lt 31, 3) := by decide +kernel
theorem dL_has_362 : decode cL_has 362 = .ok (.aload_n 0, 1) := by decide +kernel
theorem dL_has_363 : decode cL_has 363 = .ok (.invokevirtual 92, 3) := by decide +kernel
theorem dL_has_366 : decode cL_has 366 = .ok (.bipush 8, 2) := by decide +kernel
theorem dL_has_368 : decode cL_has 368 = .ok (.if_icmp .gt 22, 3) := by decide +kernel
theorem dL_has_371 : decode cL_has 371 = .ok (.aload_n 0, 1) := by decide +kernel
theorem dL_has_372 : decode cL_has 372 = .ok (.invokevirtual 62, 3) := by decide +kernel
theorem dL_has_375 : decode cL_has 375 = .ok (.aload_n 0, 1) := by decide +kernel
theorem dL_has_376 : decode cL_has 376 = .ok (.invokevirtual 92, 3) := by decide +kernel
theorem dL_has_379 : decode cL_has 379 = .ok (.iadd, 1) := by decide +kernel
theorem dL_has_380 : decode cL_has 380 = .ok (.bipush 8, 2) := by decide +kernel
theorem dL_has_382 : decode cL_has 382 = .ok (.irem, 1) := by decide +kernel
theorem dL_has_383 : decode cL_has 383 = .ok (.ifCond .ne 7, 3) := by decide +kernel
theorem dL_has_386 : decode cL_has 386 = .ok (.iconst 1, 1) := by decide +kernel
theorem dL_has_387 : decode cL_has 387 = .ok (.goto 4, 3) := by decide +kernel
theorem dL_has_390 : decode cL_has 390 = .ok (.iconst 0, 1) := by decide +kernel
theorem dL_has_391 : decode cL_has 391 = .ok (.ireturn, 1) := by decide +kernel
set_option maxRecDepth 20000 in
theorem ggL_law_X2_init : GoodIn wsL_law wsX2_init := goodIn_r _ [6, 7, 8, 9, 10, 11, 12, 13, 14, 15, 16, 17, 18, 19, 20, 21, 22, 23, 24, 25, 26, 27, 28, 29, 3, 30, 31, 32, 33, 34, 35, 36, 37, 38, 39, 40, 298, 299, 288, 289, 290, 291, 292, 293, 294, 295, 296, 297, 300] (by decide +kernel) (by decide +kernel)
set_option maxRecDepth 20000 in
theorem gL_law_X2_init : GoodIn wsL_law (wsX2_init) := ggL_law_X2_init
set_option maxRecDepth 20000 in
theorem ggL_law_L_has : GoodIn wsL_law wsL_has := goodIn_ca (goodIn_ca (goodIn_r _ [44, 45, 46, 47, 2, 48, 20, 49, 50, 51, 52, 22, 53, 54, 55, 56, 23, 57, 58, 59, 60, 21, 61, 62, 43, 63, 64, 65, 66, 67, 68, 69, 17, 70, 71, 72, 73, 74, 75, 76, 77, 78, 79, 80, 81, 82, 83, 16, 84, 36, 85, 86, 87, 88, 89, 90, 91, 92, 93, 94, 95, 96, 97, 98, 99, 100, 13, 101, 102, 103, 12, 104, 31, 105, 106, 107, 108, 109, 110, 111, 112, 113, 114, 115, 116, 117, 118, 119, 120, 121, 122, 123, 124, 125, 126, 127, 128, 129, 130, 131, 132, 133, 134, 135, 136, 137, 138, 139, 140, 141, 142, 143, 144, 145, 146, 147, 148, 149, 150, 151, 152, 153, 154, 155, 156, 157, 158, 159, 160, 161, 30, 162, 163, 164, 165, 166, 167, 168, 169, 288, 289, 290, 291, 292, 293, 294, 295, 296, 297, 300, 298, 299] (by decide +kernel) (by decide +kernel)) (goodIn_sub (fun _ h => List.mem_append_left _ (List.mem_append_right _ h)) (by decide +kernel))) (goodIn_sub (fun _ h => List.mem_append_right _ h) (by decide +kernel))
set_option maxRecDepth 20000 in
theorem gL_law_L_has : GoodIn wsL_law (va_wsS RL 96 yL_has wsL_has) := goodIn_app (goodIn_of _ (by decide +kernel)) ggL_law_L_has
set_option maxRecDepth 20000 in
theorem ggL_law_L_cell : GoodIn wsL_law wsL_cell := goodIn_r _ [172, 173, 174] (by decide +kernel) (by decide +kernel)
set_option maxRecDepth 20000 in
theorem gL_law_L_cell : GoodIn wsL_law (va_wsS RL 100 yL_cell wsL_cell) := goodIn_app (goodIn_of _ (by decide +kernel)) ggL_law_L_cell
set_option maxRecDepth 20000 in
theorem ggL_law_X2_head : GoodIn wsL_law wsX2_head := goodIn_r _ [60, 21, 288, 289, 290, 291, 292, 293, 294, 295, 296, 297] (by decide +kernel) (by decide +kernel)
set_option maxRecDepth 20000 in
theorem gL_law_X2_head : GoodIn wsL_law (wsV RL 68 RX2 yX2_head wsX2_head) := goodIn_app (goodIn_of _ (by decide +kernel)) ggL_law_X2_head
set_option maxRecDepth 20000 in
theorem ggL_law_L_put : GoodIn wsL_law wsL_put := goodIn_ca (goodIn_ca (goodIn_r _ [177, 64, 65, 178, 179, 180, 2, 181, 73, 74, 70, 71, 72, 75, 76, 77, 78, 79, 80, 20, 182, 183, 184, 185, 22, 21, 126, 127, 128, 186, 187, 188, 189, 13, 17, 190, 191, 192, 12, 193, 30, 31, 105, 106, 107, 108, 194, 195, 196, 197, 101, 102, 103, 104, 158, 159, 160, 161, 198, 199, 200, 16, 201, 36, 288, 289, 290, 291, 292, 293, 294, 295, 296, 297, 298, 299, 300] (by decide +kernel) (by decide +kernel)) (goodIn_sub (fun _ h => List.mem_append_left _ (List.mem_append_right _ h)) (by decide +kernel))) (goodIn_sub (fun _ h => List.mem_append_right _ h) (by decide +kernel))
set_option maxRecDepth 20000 in
theorem gL_law_L_put : GoodIn wsL_law (va_wsS RL 104 yL_put wsL_put) := goodIn_app (goodIn_of _ (by decide +kernel)) ggL_law_L_put
set_option maxRecDepth 20000 in
theorem ggL_law_L_delete : GoodIn wsL_law wsL_delete := goodIn_ca (goodIn_ca (goodIn_r _ [204, 64, 65, 205, 206, 207, 2, 208, 79, 80, 17, 70, 71, 72, 73, 74, 75, 76, 77, 78, 20, 92, 93, 94, 16, 95, 96, 82, 83, 84, 36, 182, 183, 184, 185, 22, 21, 126, 127, 128, 97, 98, 99, 100, 13, 81, 101, 102, 103, 12, 104, 31, 105, 106, 107, 108, 186, 187, 188, 189, 190, 191, 192, 193, 30, 194, 195, 196, 197, 158, 159, 160, 161, 198, 199, 200, 201, 288, 289, 290, 291, 292, 293, 294, 295, 296, 297, 300, 298, 299] (by decide +kernel) (by decide +kernel)) (goodIn_sub (fun _ h => List.mem_append_right _ h) (by decide +kernel))) (goodIn_sub (fun _ h => List.mem_append_left _ (List.mem_append_right _ h)) (by decide +kernel))
set_option maxRecDepth 20000 in
theorem gL_law_L_delete : GoodIn wsL_law (va_wsS RL 106 yL_delete wsL_delete) := goodIn_app (goodIn_of _ (by decide +kernel)) ggL_law_L_delete
set_option maxRecDepth 20000 in
theorem ggL_law_X2_toFree : GoodIn wsL_law wsX2_toFree := goodIn_r _ [169, 22, 21, 126, 127, 2, 128, 288, 289, 290, 291, 292, 293, 294, 295, 296, 297] (by decide +kernel) (by decide +kernel)
set_option maxRecDepth 20000 in
theorem gL_law_X2_toFree : GoodIn wsL_law (wsV RL 92 RX2 yX2_toFree wsX2_toFree) := goodIn_app (goodIn_of _ (by decide +kernel)) ggL_law_X2_toFree
set_option maxRecDepth 20000 in
theorem ggL_law_L_sync : GoodIn wsL_law wsL_sync := goodIn_ca (goodIn_r _ [211, 65, 212, 213, 214, 2, 215, 75, 76, 77, 78, 79, 80, 20, 216, 217, 218, 219, 21, 23, 220, 221, 222, 223, 25, 224, 225, 226, 227, 288, 289, 290, 291, 292, 293, 294, 295, 296, 297] (by decide +kernel) (by decide +kernel)) (goodIn_sub (fun _ h => List.mem_append_right _ h) (by decide +kernel))
set_option maxRecDepth 20000 in
theorem gL_law_L_sync : GoodIn wsL_law (va_wsS RL 108 yL_sync wsL_sync) := goodIn_app (goodIn_of _ (by decide +kernel)) ggL_law_L_sync
set_option maxRecDepth 20000 in
theorem ggL_law_L_check : GoodIn wsL_law wsL_check := goodIn_ca (goodIn_r _ [230, 65, 231, 232, 233, 2, 234, 18, 17, 21, 24, 75, 76, 77, 78, 79, 80, 20, 216, 217, 218, 219, 23, 220, 221, 222, 223, 25, 224, 225, 226, 227, 235, 236, 237, 16, 238, 36, 96, 82, 83, 84, 288, 289, 290, 291, 292, 293, 294, 295, 296, 297, 300] (by decide +kernel) (by decide +kernel)) (goodIn_sub (fun _ h => List.mem_append_right _ h) (by decide +kernel))
set_option maxRecDepth 20000 in
theorem gL_law_L_check : GoodIn wsL_law (va_wsS RL 111 yL_check wsL_check) := goodIn_app (goodIn_of _ (by decide +kernel)) ggL_law_L_check
set_option maxRecDepth 20000 in
theorem ggL_law_L_collect : GoodIn wsL_law wsL_collect := goodIn_ca (goodIn_ca (goodIn_r _ [241, 64, 65, 242, 243, 244, 2, 245, 73, 74, 79, 80, 21, 22, 75, 76, 77, 78, 20, 150, 151, 152, 153, 154, 155, 156, 157, 17, 13, 158, 159, 160, 12, 161, 30, 105, 106, 107, 108, 81, 82, 83, 16, 84, 36, 182, 183, 184, 185, 126, 127, 128, 246, 247, 248, 249, 101, 102, 103, 104, 31, 186, 187, 188, 189, 190, 191, 192, 193, 194, 195, 196, 197, 198, 199, 200, 201, 216, 217, 218, 219, 23, 220, 221, 222, 223, 25, 224, 225, 226, 227, 288, 289, 290, 291, 292, 293, 294, 295, 296, 297, 298, 299, 300] (by decide +kernel) (by decide +kernel)) (goodIn_sub (fun _ h => List.mem_append_left _ (List.mem_append_right _ h)) (by decide +kernel))) (goodIn_sub (fun _ h => List.mem_append_right _ h) (by decide +kernel))
set_option maxRecDepth 20000 in
theorem gL_law_L_collect : GoodIn wsL_law (va_wsS RL 114 yL_collect wsL_collect) := goodIn_app (goodIn_of _ (by decide +kernel)) ggL_law_L_collect
set_option maxRecDepth 20000 in
theorem ggL_law_X2_written : GoodIn wsL_law wsX2_written := goodIn_r _ [56, 23, 288, 289, 290, 291, 292, 293, 294, 295, 296, 297] (by decide +kernel) (by decide +kernel)
set_option maxRecDepth 20000 in
theorem gL_law_X2_written : GoodIn wsL_law (wsV RL 65 RX2 yX2_written wsX2_written) := goodIn_app (goodIn_of _ (by decide +kernel)) ggL_law_X2_written
set_option maxRecDepth 20000 in
theorem ggL_law_X2_checkpointAt : GoodIn wsL_law wsX2_checkpointAt := goodIn_r _ [253, 24, 288, 289, 290, 291, 292, 293, 294, 295, 296, 297] (by decide +kernel) (by decide +kernel)
set_option maxRecDepth 20000 in
theorem gL_law_X2_checkpointAt : GoodIn wsL_law (wsV RL 116 RX2 yX2_checkpointAt wsX2_checkpointAt) := goodIn_app (goodIn_of _ (by decide +kernel)) ggL_law_X2_checkpointAt
set_option maxRecDepth 20000 in
theorem ggL_law_X2_wouldHave : GoodIn wsL_law wsX2_wouldHave := goodIn_r _ [257, 19, 258, 259, 260, 2, 261, 18, 22, 24, 262, 263, 264, 265, 23, 235, 236, 237, 16, 238, 36, 96, 82, 83, 84, 266, 267, 268, 269, 194, 195, 196, 197, 13, 101, 102, 103, 12, 104, 31, 105, 106, 107, 108, 158, 159, 160, 161, 30, 198, 199, 200, 201, 270, 271, 272, 273, 288, 289, 290, 291, 292, 293, 294, 295, 296, 297, 300, 298, 299] (by decide +kernel) (by decide +kernel)
set_option maxRecDepth 20000 in
theorem gL_law_X2_wouldHave : GoodIn wsL_law (wsV RL 119 RX2 yX2_wouldHave wsX2_wouldHave) := goodIn_app (goodIn_of _ (by decide +kernel)) ggL_law_X2_wouldHave
set_option maxRecDepth 20000 in
theorem ggL_law_L_crash : GoodIn wsL_law wsL_crash := goodIn_ca (goodIn_r _ [276, 65, 277, 278, 279, 2, 280, 21, 23, 75, 76, 77, 78, 79, 80, 20, 224, 225, 226, 227, 288, 289, 290, 291, 292, 293, 294, 295, 296, 297] (by decide +kernel) (by decide +kernel)) (goodIn_sub (fun _ h => List.mem_append_right _ h) (by decide +kernel))
set_option maxRecDepth 20000 in
theorem gL_law_L_crash : GoodIn wsL_law (va_wsS RL 122 yL_crash wsL_crash) := goodIn_app (goodIn_of _ (by decide +kernel)) ggL_law_L_crash
set_option maxRecDepth 20000 in
theorem ggL_law_X2_isUp : GoodIn wsL_law wsX2_isUp := goodIn_r _ [48, 20, 288, 289, 290, 291, 292, 293, 294, 295, 296, 297] (by decide +kernel) (by decide +kernel)
set_option maxRecDepth 20000 in
theorem gL_law_X2_isUp : GoodIn wsL_law (wsV RL 59 RX2 yX2_isUp wsX2_isUp) := goodIn_app (goodIn_of _ (by decide +kernel)) ggL_law_X2_isUp
set_option maxRecDepth 20000 in
theorem ggL_law_L_get : GoodIn wsL_law wsL_get := goodIn_ca (goodIn_ca (goodIn_r _ [87, 64, 65, 88, 89, 90, 2, 91, 17, 70, 71, 72, 73, 74, 75, 76, 77, 78, 79, 80, 20, 92, 93, 94, 16, 95, 96, 82, 83, 84, 36, 97, 98, 99, 100, 13, 81, 101, 102, 103, 12, 104, 31, 105, 106, 107, 108, 288, 289, 290, 291, 292, 293, 294, 295, 296, 297, 300, 298, 299] (by decide +kernel) (by decide +kernel)) (goodIn_sub (fun _ h => List.mem_append_left _ (List.mem_append_right _ h)) (by decide +kernel))) (goodIn_sub (fun _ h => List.mem_append_right _ h) (by decide +kernel))
set_option maxRecDepth 20000 in
theorem gL_law_L_get : GoodIn wsL_law (va_wsS RL 77 yL_get wsL_get) := goodIn_app (goodIn_of _ (by decide +kernel)) ggL_law_L_get
set_option maxRecDepth 20000 in
theorem ggL_law_L_start : GoodIn wsL_law wsL_start := goodIn_ca (goodIn_r _ [283, 65, 284, 285, 286, 2, 287, 79, 80, 20, 17, 258, 259, 260, 261, 18, 22, 24, 262, 263, 264, 265, 23, 235, 236, 237, 16, 238, 36, 96, 82, 83, 84, 266, 267, 268, 269, 194, 195, 196, 197, 13, 101, 102, 103, 12, 104, 31, 105, 106, 107, 108, 158, 159, 160, 161, 30, 198, 199, 200, 201, 270, 271, 272, 273, 288, 289, 290, 291, 292, 293, 294, 295, 296, 297, 300, 298, 299] (by decide +kernel) (by decide +kernel)) (goodIn_sub (fun _ h => List.mem_append_right _ h) (by decide +kernel))
set_option maxRecDepth 20000 in
theorem gL_law_L_start : GoodIn wsL_law (va_wsS RL 124 yL_start wsL_start) := goodIn_app (goodIn_of _ (by decide +kernel)) ggL_law_L_start
theorem dL_law_0 : decode cL_law 0 = .ok (.new 10, 3) := by decide +kernel
theorem dL_law_3 : decode cL_law 3 = .ok (.dup, 1) := by decide +kernel
theorem dL_law_4 : decode cL_law 4 = .ok (.invokespecial 95, 3) := by decide +kernel
theorem dL_law_7 : decode cL_law 7 = .ok (.astore_n 1, 1) := by decide +kernel
theorem dL_law_8 : decode cL_law 8 = .ok (.bipush 64, 2) := by decide +kernel
theorem dL_law_10 : decode cL_law 10 = .ok (.newarray .int, 2) := by decide +kernel
theorem dL_law_12 : decode cL_law 12 = .ok (.astore_n 2, 1) := by decide +kernel
theorem dL_law_13 : decode cL_law 13 = .ok (.bipush 64, 2) := by decide +kernel
theorem dL_law_15 : decode cL_law 15 = .ok (.newarray .int, 2) := by decide +kernel
theorem dL_law_17 : decode cL_law 17 = .ok (.astore_n 3, 1) := by decide +kernel
theorem dL_law_18 : decode cL_law 18 = .ok (.iconst 0, 1) := by decide +kernel
theorem dL_law_19 : decode cL_law 19 = .ok (.istore 4, 2) := by decide +kernel
theorem dL_law_21 : decode cL_law 21 = .ok (.iload 4, 2) := by decide +kernel
theorem dL_law_23 : decode cL_law 23 = .ok (.bipush 64, 2) := by decide +kernel
theorem dL_law_25 : decode cL_law 25 = .ok (.if_icmp .ge 19, 3) := by decide +kernel
theorem dL_law_28 : decode cL_law 28 = .ok (.aload_n 2, 1) := by decide +kernel
theorem dL_law_29 : decode cL_law 29 = .ok (.iload 4, 2) := by decide +kernel
theorem dL_law_31 : decode cL_law 31 = .ok (.iconst (-1), 1) := by decide +kernel
theorem dL_law_32 : decode cL_law 32 = .ok (.iastore, 1) := by decide +kernel
theorem dL_law_33 : decode cL_law 33 = .ok (.aload_n 3, 1) := by decide +kernel
theorem dL_law_34 : decode cL_law 34 = .ok (.iload 4, 2) := by decide +kernel
theorem dL_law_36 : decode cL_law 36 = .ok (.iconst (-1), 1) := by decide +kernel
theorem dL_law_37 : decode cL_law 37 = .ok (.iastore, 1) := by decide +kernel
theorem dL_law_38 : decode cL_law 38 = .ok (.iinc 4 1, 3) := by decide +kernel
theorem dL_law_41 : decode cL_law 41 = .ok (.goto (-20), 3) := by decide +kernel
theorem dL_law_44 : decode cL_law 44 = .ok (.aload_n 1, 1) := by decide +kernel
theorem dL_law_45 : decode cL_law 45 = .ok (.aload_n 2, 1) := by decide +kernel
theorem dL_law_46 : decode cL_law 46 = .ok (.invokestatic 96, 3) := by decide +kernel
theorem dL_law_49 : decode cL_law 49 = .ok (.istore 4, 2) := by decide +kernel
theorem dL_law_51 : decode cL_law 51 = .ok (.iconst 0, 1) := by decide +kernel
theorem dL_law_52 : decode cL_law 52 = .ok (.istore 5, 2) := by decide +kernel
theorem dL_law_54 : decode cL_law 54 = .ok (.iload 5, 2) := by decide +kernel
theorem dL_law_56 : decode cL_law 56 = .ok (.bipush 48, 2) := by decide +kernel
theorem dL_law_58 : decode cL_law 58 = .ok (.if_icmp .ge 564, 3) := by decide +kernel
theorem dL_law_61 : decode cL_law 61 = .ok (.iload 4, 2) := by decide +kernel
theorem dL_law_63 : decode cL_law 63 = .ok (.ifCond .eq 559, 3) := by decide +kernel
theorem dL_law_66 : decode cL_law 66 = .ok (.aload_n 0, 1) := by decide +kernel
theorem dL_law_67 : decode cL_law 67 = .ok (.iload 5, 2) := by decide +kernel
theorem dL_law_69 : decode cL_law 69 = .ok (.invokestatic 100, 3) := by decide +kernel
theorem dL_law_72 : decode cL_law 72 = .ok (.istore 6, 2) := by decide +kernel
theorem dL_law_74 : decode cL_law 74 = .ok (.iload 6, 2) := by decide +kernel
theorem dL_law_76 : decode cL_law 76 = .ok (.bipush 16, 2) := by decide +kernel
theorem dL_law_78 : decode cL_law 78 = .ok (.idiv, 1) := by decide +kernel
theorem dL_law_79 : decode cL_law 79 = .ok (.istore 7, 2) := by decide +kernel
theorem dL_law_81 : decode cL_law 81 = .ok (.iload 7, 2) := by decide +kernel
theorem dL_law_83 : decode cL_law 83 = .ok (.iload 6, 2) := by decide +kernel
theorem dL_law_85 : decode cL_law 85 = .ok (.iconst 2, 1) := by decide +kernel
theorem dL_law_86 : decode cL_law 86 = .ok (.irem, 1) := by decide +kernel
theorem dL_law_87 : decode cL_law 87 = .ok (.ifCond .ne 8, 3) := by decide +kernel
theorem dL_law_90 : decode cL_law 90 = .ok (.bipush 64, 2) := by decide +kernel
theorem dL_law_92 : decode cL_law 92 = .ok (.goto 5, 3) := by decide +kernel
theorem dL_law_95 : decode cL_law 95 = .ok (.bipush 12, 2) := by decide +kernel
theorem dL_law_97 : decode cL_law 97 = .ok (.irem, 1) := by decide +kernel
theorem dL_law_98 : decode cL_law 98 = .ok (.istore 8, 2) := by decide +kernel
theorem dL_law_100 : decode cL_law 100 = .ok (.iload 7, 2) := by decide +kernel
theorem dL_law_102 : decode cL_law 102 = .ok (.bipush 64, 2) := by decide +kernel
theorem dL_law_104 : decode cL_law 104 = .ok (.idiv, 1) := by decide +kernel
theorem dL_law_105 : decode cL_law 105 = .ok (.istore 9, 2) := by decide +kernel
theorem dL_law_107 : decode cL_law 107 = .ok (.iload 6, 2) := by decide +kernel
theorem dL_law_109 : decode cL_law 109 = .ok (.bipush 16, 2) := by decide +kernel
theorem dL_law_111 : decode cL_law 111 = .ok (.irem, 1) := by decide +kernel
theorem dL_law_112 : decode cL_law 112 = .ok (.istore 10, 2) := by decide +kernel
theorem dL_law_114 : decode cL_law 114 = .ok (.aload_n 1, 1) := by decide +kernel
theorem dL_law_115 : decode cL_law 115 = .ok (.invokevirtual 68, 3) := by decide +kernel
theorem dL_law_118 : decode cL_law 118 = .ok (.istore 11, 2) := by decide +kernel
theorem dL_law_120 : decode cL_law 120 = .ok (.iload 10, 2) := by decide +kernel
theorem dL_law_122 : decode cL_law 122 = .ok (.bipush 7, 2) := by decide +kernel
theorem dL_law_124 : decode cL_law 124 = .ok (.if_icmp .ge 83, 3) := by decide +kernel
theorem dL_law_127 : decode cL_law 127 = .ok (.aload_n 1, 1) := by decide +kernel
theorem dL_law_128 : decode cL_law 128 = .ok (.iload 8, 2) := by decide +kernel
theorem dL_law_130 : decode cL_law 130 = .ok (.iload 9, 2) := by decide +kernel
theorem dL_law_132 : decode cL_law 132 = .ok (.sipush 10000, 3) := by decide +kernel
theorem dL_law_135 : decode cL_law 135 = .ok (.irem, 1) := by decide +kernel
theorem dL_law_136 : decode cL_law 136 = .ok (.invokestatic 104, 3) := by decide +kernel
theorem dL_law_139 : decode cL_law 139 = .ok (.istore 12, 2) := by decide +kernel
theorem dL_law_141 : decode cL_law 141 = .ok (.iload 12, 2) := by decide +kernel
theorem dL_law_143 : decode cL_law 143 = .ok (.iload 11, 2) := by decide +kernel
theorem dL_law_145 : decode cL_law 145 = .ok (.if_icmp .ne 14, 3) := by decide +kernel
theorem dL_law_148 : decode cL_law 148 = .ok (.aload_n 1, 1) := by decide +kernel
theorem dL_law_149 : decode cL_law 149 = .ok (.invokevirtual 68, 3) := by decide +kernel
theorem dL_law_152 : decode cL_law 152 = .ok (.iload 11, 2) := by decide +kernel
theorem dL_law_154 : decode cL_law 154 = .ok (.iconst 1, 1) := by decide +kernel
theorem dL_law_155 : decode cL_law 155 = .ok (.iadd, 1) := by decide +kernel
theorem dL_law_156 : decode cL_law 156 = .ok (.if_icmp .eq 19, 3) := by decide +kernel
theorem dL_law_159 : decode cL_law 159 = .ok (.iload 12, 2) := by decide +kernel
theorem dL_law_161 : decode cL_law 161 = .ok (.bipush (-103), 2) := by decide +kernel
theorem dL_law_163 : decode cL_law 163 = .ok (.if_icmp .ne 16, 3) := by decide +kernel
theorem dL_law_166 : decode cL_law 166 = .ok (.aload_n 1, 1) := by decide +kernel
theorem dL_law_167 : decode cL_law 167 = .ok (.invokevirtual 68, 3) := by decide +kernel
theorem dL_law_170 : decode cL_law 170 = .ok (.iload 11, 2) := by decide +kernel
theorem dL_law_172 : decode cL_law 172 = .ok (.if_icmp .ne 7, 3) := by decide +kernel
theorem dL_law_175 : decode cL_law 175 = .ok (.iconst 1, 1) := by decide +kernel
theorem dL_law_176 : decode cL_law 176 = .ok (.goto 4, 3) := by decide +kernel
theorem dL_law_179 : decode cL_law 179 = .ok (.iconst 0, 1) := by decide +kernel
theorem dL_law_180 : decode cL_law 180 = .ok (.istore 4, 2) := by decide +kernel
theorem dL_law_182 : decode cL_law 182 = .ok (.aload_n 2, 1) := by decide +kernel
theorem dL_law_183 : decode cL_law 183 = .ok (.iload 8, 2) := by decide +kernel
theorem dL_law_185 : decode cL_law 185 = .ok (.iload 12, 2) := by decide +kernel
theorem dL_law_187 : decode cL_law 187 = .ok (.ifCond .lt 12, 3) := by decide +kernel
theorem dL_law_190 : decode cL_law 190 = .ok (.iload 9, 2) := by decide +kernel
theorem dL_law_192 : decode cL_law 192 = .ok (.sipush 10000, 3) := by decide +kernel
theorem dL_law_195 : decode cL_law 195 = .ok (.irem, 1) := by decide +kernel
theorem dL_law_196 : decode cL_law 196 = .ok (.goto 7, 3) := by decide +kernel
theorem dL_law_199 : decode cL_law 199 = .ok (.aload_n 2, 1) := by decide +kernel
theorem dL_law_200 : decode cL_law 200 = .ok (.iload 8, 2) := by decide +kernel
theorem dL_law_202 : decode cL_law 202 = .ok (.iaload, 1) := by decide +kernel
theorem dL_law_203 : decode cL_law 203 = .ok (.iastore, 1) := by decide +kernel
theorem dL_law_204 : decode cL_law 204 = .ok (.goto 392, 3) := by decide +kernel
theorem dL_law_207 : decode cL_law 207 = .ok (.iload 10, 2) := by decide +kernel
theorem dL_law_209 : decode cL_law 209 = .ok (.bipush 9, 2) := by decide +kernel
theorem dL_law_211 : decode cL_law 211 = .ok (.if_icmp .ge 79, 3) := by decide +kernel
theorem dL_law_214 : decode cL_law 214 = .ok (.aload_n 1, 1) := by decide +kernel
theorem dL_law_215 : decode cL_law 215 = .ok (.iload 8, 2) := by decide +kernel
theorem dL_law_217 : decode cL_law 217 = .ok (.invokestatic 106, 3) := by decide +kernel
theorem dL_law_220 : decode cL_law 220 = .ok (.istore 12, 2) := by decide +kernel
theorem dL_law_222 : decode cL_law 222 = .ok (.iload 12, 2) := by decide +kernel
theorem dL_law_224 : decode cL_law 224 = .ok (.aload_n 2, 1) := by decide +kernel
theorem dL_law_225 : decode cL_law 225 = .ok (.iload 8, 2) := by decide +kernel
theorem dL_law_227 : decode cL_law 227 = .ok (.iaload, 1) := by decide +kernel
theorem dL_law_228 : decode cL_law 228 = .ok (.if_icmp .ne 19, 3) := by decide +kernel
theorem dL_law_231 : decode cL_law 231 = .ok (.iload 12, 2) := by decide +kernel
theorem dL_law_233 : decode cL_law 233 = .ok (.ifCond .lt 14, 3) := by decide +kernel
theorem dL_law_236 : decode cL_law 236 = .ok (.aload_n 1, 1) := by decide +kernel
theorem dL_law_237 : decode cL_law 237 = .ok (.invokevirtual 68, 3) := by decide +kernel
theorem dL_law_240 : decode cL_law 240 = .ok (.iload 11, 2) := by decide +kernel
theorem dL_law_242 : decode cL_law 242 = .ok (.iconst 1, 1) := by decide +kernel
theorem dL_law_243 : decode cL_law 243 = .ok (.iadd, 1) := by decide +kernel
theorem dL_law_244 : decode cL_law 244 = .ok (.if_icmp .eq 19, 3) := by decide +kernel
theorem dL_law_247 : decode cL_law 247 = .ok (.iload 12, 2) := by decide +kernel
theorem dL_law_249 : decode cL_law 249 = .ok (.bipush (-103), 2) := by decide +kernel
theorem dL_law_251 : decode cL_law 251 = .ok (.if_icmp .ne 16, 3) := by decide +kernel
theorem dL_law_254 : decode cL_law 254 = .ok (.aload_n 1, 1) := by decide +kernel
theorem dL_law_255 : decode cL_law 255 = .ok (.invokevirtual 68, 3) := by decide +kernel
theorem dL_law_258 : decode cL_law 258 = .ok (.iload 11, 2) := by decide +kernel
theorem dL_law_260 : decode cL_law 260 = .ok (.if_icmp .ne 7, 3) := by decide +kernel
theorem dL_law_263 : decode cL_law 263 = .ok (.iconst 1, 1) := by decide +kernel
theorem dL_law_264 : decode cL_law 264 = .ok (.goto 4, 3) := by decide +kernel
theorem dL_law_267 : decode cL_law 267 = .ok (.iconst 0, 1) := by decide +kernel
theorem dL_law_268 : decode cL_law 268 = .ok (.istore 4, 2) := by decide +kernel
theorem dL_law_270 : decode cL_law 270 = .ok (.aload_n 2, 1) := by decide +kernel
theorem dL_law_271 : decode cL_law 271 = .ok (.iload 8, 2) := by decide +kernel
theorem dL_law_273 : decode cL_law 273 = .ok (.iload 12, 2) := by decide +kernel
theorem dL_law_275 : decode cL_law 275 = .ok (.ifCond .lt 7, 3) := by decide +kernel
theorem dL_law_278 : decode cL_law 278 = .ok (.iconst (-1), 1) := by decide +kernel
theorem dL_law_279 : decode cL_law 279 = .ok (.goto 7, 3) := by decide +kernel
theorem dL_law_282 : decode cL_law 282 = .ok (.aload_n 2, 1) := by decide +kernel
theorem dL_law_283 : decode cL_law 283 = .ok (.iload 8, 2) := by decide +kernel
theorem dL_law_285 : decode cL_law 285 = .ok (.iaload, 1) := by decide +kernel
theorem dL_law_286 : decode cL_law 286 = .ok (.iastore, 1) := by decide +kernel
theorem dL_law_287 : decode cL_law 287 = .ok (.goto 309, 3) := by decide +kernel
theorem dL_law_290 : decode cL_law 290 = .ok (.iload 10, 2) := by decide +kernel
theorem dL_law_292 : decode cL_law 292 = .ok (.bipush 14, 2) := by decide +kernel
theorem dL_law_294 : decode cL_law 294 = .ok (.if_icmp .ge 163, 3) := by decide +kernel
theorem dL_law_297 : decode cL_law 297 = .ok (.aload_n 1, 1) := by decide +kernel
theorem dL_law_298 : decode cL_law 298 = .ok (.invokevirtual 92, 3) := by decide +kernel
theorem dL_law_301 : decode cL_law 301 = .ok (.istore 12, 2) := by decide +kernel
theorem dL_law_303 : decode cL_law 303 = .ok (.iload 10, 2) := by decide +kernel
theorem dL_law_305 : decode cL_law 305 = .ok (.bipush 9, 2) := by decide +kernel
theorem dL_law_307 : decode cL_law 307 = .ok (.if_icmp .ne 10, 3) := by decide +kernel
theorem dL_law_310 : decode cL_law 310 = .ok (.aload_n 1, 1) := by decide +kernel
theorem dL_law_311 : decode cL_law 311 = .ok (.invokestatic 108, 3) := by decide +kernel
theorem dL_law_314 : decode cL_law 314 = .ok (.goto 45, 3) := by decide +kernel
theorem dL_law_317 : decode cL_law 317 = .ok (.iload 10, 2) := by decide +kernel
theorem dL_law_319 : decode cL_law 319 = .ok (.bipush 10, 2) := by decide +kernel
theorem dL_law_321 : decode cL_law 321 = .ok (.if_icmp .ne 10, 3) := by decide +kernel
theorem dL_law_324 : decode cL_law 324 = .ok (.aload_n 1, 1) := by decide +kernel
theorem dL_law_325 : decode cL_law 325 = .ok (.invokestatic 111, 3) := by decide +kernel
theorem dL_law_328 : decode cL_law 328 = .ok (.goto 31, 3) := by decide +kernel
theorem dL_law_331 : decode cL_law 331 = .ok (.aload_n 1, 1) := by decide +kernel
theorem dL_law_332 : decode cL_law 332 = .ok (.iload 10, 2) := by decide +kernel
theorem dL_law_334 : decode cL_law 334 = .ok (.bipush 13, 2) := by decide +kernel
theorem dL_law_336 : decode cL_law 336 = .ok (.if_icmp .ge 13, 3) := by decide +kernel
theorem dL_law_339 : decode cL_law 339 = .ok (.iload 12, 2) := by decide +kernel
theorem dL_law_341 : decode cL_law 341 = .ok (.ifCond .le 8, 3) := by decide +kernel
theorem dL_law_344 : decode cL_law 344 = .ok (.iload 12, 2) := by decide +kernel
theorem dL_law_346 : decode cL_law 346 = .ok (.goto 10, 3) := by decide +kernel
theorem dL_law_349 : decode cL_law 349 = .ok (.iconst 1, 1) := by decide +kernel
theorem dL_law_350 : decode cL_law 350 = .ok (.iload 9, 2) := by decide +kernel
theorem dL_law_352 : decode cL_law 352 = .ok (.bipush 9, 2) := by decide +kernel
theorem dL_law_354 : decode cL_law 354 = .ok (.irem, 1) := by decide +kernel
theorem dL_law_355 : decode cL_law 355 = .ok (.iadd, 1) := by decide +kernel
theorem dL_law_356 : decode cL_law 356 = .ok (.invokestatic 114, 3) := by decide +kernel
theorem dL_law_359 : decode cL_law 359 = .ok (.istore 13, 2) := by decide +kernel
theorem dL_law_361 : decode cL_law 361 = .ok (.iload 13, 2) := by decide +kernel
theorem dL_law_363 : decode cL_law 363 = .ok (.iconst 1, 1) := by decide +kernel
theorem dL_law_364 : decode cL_law 364 = .ok (.if_icmp .eq 17, 3) := by decide +kernel
theorem dL_law_367 : decode cL_law 367 = .ok (.iload 10, 2) := by decide +kernel
theorem dL_law_369 : decode cL_law 369 = .ok (.bipush 10, 2) := by decide +kernel
theorem dL_law_371 : decode cL_law 371 = .ok (.if_icmp .le 14, 3) := by decide +kernel
theorem dL_law_374 : decode cL_law 374 = .ok (.iload 13, 2) := by decide +kernel
theorem dL_law_376 : decode cL_law 376 = .ok (.bipush (-103), 2) := by decide +kernel
theorem dL_law_378 : decode cL_law 378 = .ok (.if_icmp .ne 7, 3) := by decide +kernel
theorem dL_law_381 : decode cL_law 381 = .ok (.iconst 1, 1) := by decide +kernel
theorem dL_law_382 : decode cL_law 382 = .ok (.goto 4, 3) := by decide +kernel
theorem dL_law_385 : decode cL_law 385 = .ok (.iconst 0, 1) := by decide +kernel
theorem dL_law_386 : decode cL_law 386 = .ok (.istore 4, 2) := by decide +kernel
theorem dL_law_388 : decode cL_law 388 = .ok (.iload 13, 2) := by decide +kernel
theorem dL_law_390 : decode cL_law 390 = .ok (.iconst 1, 1) := by decide +kernel
theorem dL_law_391 : decode cL_law 391 = .ok (.if_icmp .ne 63, 3) := by decide +kernel
theorem dL_law_394 : decode cL_law 394 = .ok (.aload_n 1, 1) := by decide +kernel
theorem dL_law_395 : decode cL_law 395 = .ok (.invokevirtual 65, 3) := by decide +kernel
theorem dL_law_398 : decode cL_law 398 = .ok (.aload_n 1, 1) := by decide +kernel
theorem dL_law_399 : decode cL_law 399 = .ok (.invokevirtual 68, 3) := by decide +kernel
theorem dL_law_402 : decode cL_law 402 = .ok (.if_icmp .ne 25, 3) := by decide +kernel
theorem dL_law_405 : decode cL_law 405 = .ok (.iload 10, 2) := by decide +kernel
theorem dL_law_407 : decode cL_law 407 = .ok (.bipush 10, 2) := by decide +kernel
theorem dL_law_409 : decode cL_law 409 = .ok (.if_icmp .ne 14, 3) := by decide +kernel
theorem dL_law_412 : decode cL_law 412 = .ok (.aload_n 1, 1) := by decide +kernel
theorem dL_law_413 : decode cL_law 413 = .ok (.invokevirtual 116, 3) := by decide +kernel
theorem dL_law_416 : decode cL_law 416 = .ok (.aload_n 1, 1) := by decide +kernel
theorem dL_law_417 : decode cL_law 417 = .ok (.invokevirtual 68, 3) := by decide +kernel
theorem dL_law_420 : decode cL_law 420 = .ok (.if_icmp .ne 7, 3) := by decide +kernel
theorem dL_law_423 : decode cL_law 423 = .ok (.iconst 1, 1) := by decide +kernel
theorem dL_law_424 : decode cL_law 424 = .ok (.goto 4, 3) := by decide +kernel
theorem dL_law_427 : decode cL_law 427 = .ok (.iconst 0, 1) := by decide +kernel
theorem dL_law_428 : decode cL_law 428 = .ok (.istore 4, 2) := by decide +kernel
theorem dL_law_430 : decode cL_law 430 = .ok (.iconst 0, 1) := by decide +kernel
theorem dL_law_431 : decode cL_law 431 = .ok (.istore 14, 2) := by decide +kernel
theorem dL_law_433 : decode cL_law 433 = .ok (.iload 14, 2) := by decide +kernel
theorem dL_law_435 : decode cL_law 435 = .ok (.bipush 64, 2) := by decide +kernel
theorem dL_law_437 : decode cL_law 437 = .ok (.if_icmp .ge 17, 3) := by decide +kernel
theorem dL_law_440 : decode cL_law 440 = .ok (.aload_n 3, 1) := by decide +kernel
theorem dL_law_441 : decode cL_law 441 = .ok (.iload 14, 2) := by decide +kernel
theorem dL_law_443 : decode cL_law 443 = .ok (.aload_n 2, 1) := by decide +kernel
theorem dL_law_444 : decode cL_law 444 = .ok (.iload 14, 2) := by decide +kernel
theorem dL_law_446 : decode cL_law 446 = .ok (.iaload, 1) := by decide +kernel
theorem dL_law_447 : decode cL_law 447 = .ok (.iastore, 1) := by decide +kernel
theorem dL_law_448 : decode cL_law 448 = .ok (.iinc 14 1, 3) := by decide +kernel
theorem dL_law_451 : decode cL_law 451 = .ok (.goto (-18), 3) := by decide +kernel
theorem dL_law_454 : decode cL_law 454 = .ok (.goto 142, 3) := by decide +kernel
theorem dL_law_457 : decode cL_law 457 = .ok (.iconst 0, 1) := by decide +kernel
theorem dL_law_458 : decode cL_law 458 = .ok (.istore 12, 2) := by decide +kernel
theorem dL_law_460 : decode cL_law 460 = .ok (.iconst 0, 1) := by decide +kernel
theorem dL_law_461 : decode cL_law 461 = .ok (.istore 13, 2) := by decide +kernel
theorem dL_law_463 : decode cL_law 463 = .ok (.iload 13, 2) := by decide +kernel
theorem dL_law_465 : decode cL_law 465 = .ok (.bipush 64, 2) := by decide +kernel
theorem dL_law_467 : decode cL_law 467 = .ok (.if_icmp .ge 26, 3) := by decide +kernel
theorem dL_law_470 : decode cL_law 470 = .ok (.iload 12, 2) := by decide +kernel
theorem dL_law_472 : decode cL_law 472 = .ok (.aload_n 3, 1) := by decide +kernel
theorem dL_law_473 : decode cL_law 473 = .ok (.iload 13, 2) := by decide +kernel
theorem dL_law_475 : decode cL_law 475 = .ok (.iaload, 1) := by decide +kernel
theorem dL_law_476 : decode cL_law 476 = .ok (.ifCond .lt 7, 3) := by decide +kernel
theorem dL_law_479 : decode cL_law 479 = .ok (.iconst 1, 1) := by decide +kernel
theorem dL_law_480 : decode cL_law 480 = .ok (.goto 4, 3) := by decide +kernel
theorem dL_law_483 : decode cL_law 483 = .ok (.iconst 0, 1) := by decide +kernel
theorem dL_law_484 : decode cL_law 484 = .ok (.iadd, 1) := by decide +kernel
theorem dL_law_485 : decode cL_law 485 = .ok (.istore 12, 2) := by decide +kernel
theorem dL_law_487 : decode cL_law 487 = .ok (.iinc 13 1, 3) := by decide +kernel
theorem dL_law_490 : decode cL_law 490 = .ok (.goto (-27), 3) := by decide +kernel
theorem dL_law_493 : decode cL_law 493 = .ok (.aload_n 1, 1) := by decide +kernel
theorem dL_law_494 : decode cL_law 494 = .ok (.invokevirtual 65, 3) := by decide +kernel
theorem dL_law_497 : decode cL_law 497 = .ok (.istore 13, 2) := by decide +kernel
theorem dL_law_499 : decode cL_law 499 = .ok (.aload_n 1, 1) := by decide +kernel
theorem dL_law_500 : decode cL_law 500 = .ok (.invokevirtual 119, 3) := by decide +kernel
theorem dL_law_503 : decode cL_law 503 = .ok (.iload 12, 2) := by decide +kernel
theorem dL_law_505 : decode cL_law 505 = .ok (.if_icmp .ne 64, 3) := by decide +kernel
theorem dL_law_508 : decode cL_law 508 = .ok (.aload_n 1, 1) := by decide +kernel
theorem dL_law_509 : decode cL_law 509 = .ok (.invokestatic 122, 3) := by decide +kernel
theorem dL_law_512 : decode cL_law 512 = .ok (.iload 11, 2) := by decide +kernel
theorem dL_law_514 : decode cL_law 514 = .ok (.iload 13, 2) := by decide +kernel
theorem dL_law_516 : decode cL_law 516 = .ok (.isub, 1) := by decide +kernel
theorem dL_law_517 : decode cL_law 517 = .ok (.if_icmp .ne 52, 3) := by decide +kernel
theorem dL_law_520 : decode cL_law 520 = .ok (.aload_n 1, 1) := by decide +kernel
theorem dL_law_521 : decode cL_law 521 = .ok (.invokevirtual 59, 3) := by decide +kernel
theorem dL_law_524 : decode cL_law 524 = .ok (.ifCond .ne 45, 3) := by decide +kernel
theorem dL_law_527 : decode cL_law 527 = .ok (.aload_n 1, 1) := by decide +kernel
theorem dL_law_528 : decode cL_law 528 = .ok (.invokevirtual 119, 3) := by decide +kernel
theorem dL_law_531 : decode cL_law 531 = .ok (.iload 12, 2) := by decide +kernel
theorem dL_law_533 : decode cL_law 533 = .ok (.if_icmp .ne 36, 3) := by decide +kernel
theorem dL_law_536 : decode cL_law 536 = .ok (.aload_n 1, 1) := by decide +kernel
theorem dL_law_537 : decode cL_law 537 = .ok (.iload 8, 2) := by decide +kernel
theorem dL_law_539 : decode cL_law 539 = .ok (.invokestatic 77, 3) := by decide +kernel
theorem dL_law_542 : decode cL_law 542 = .ok (.bipush (-103), 2) := by decide +kernel
theorem dL_law_544 : decode cL_law 544 = .ok (.if_icmp .ne 25, 3) := by decide +kernel
theorem dL_law_547 : decode cL_law 547 = .ok (.aload_n 1, 1) := by decide +kernel
theorem dL_law_548 : decode cL_law 548 = .ok (.invokestatic 124, 3) := by decide +kernel
theorem dL_law_551 : decode cL_law 551 = .ok (.iload 12, 2) := by decide +kernel
theorem dL_law_553 : decode cL_law 553 = .ok (.if_icmp .ne 16, 3) := by decide +kernel
theorem dL_law_556 : decode cL_law 556 = .ok (.aload_n 1, 1) := by decide +kernel
theorem dL_law_557 : decode cL_law 557 = .ok (.invokevirtual 68, 3) := by decide +kernel
theorem dL_law_560 : decode cL_law 560 = .ok (.iload 13, 2) := by decide +kernel
theorem dL_law_562 : decode cL_law 562 = .ok (.if_icmp .ne 7, 3) := by decide +kernel
theorem dL_law_565 : decode cL_law 565 = .ok (.iconst 1, 1) := by decide +kernel
theorem dL_law_566 : decode cL_law 566 = .ok (.goto 4, 3) := by decide +kernel
theorem dL_law_569 : decode cL_law 569 = .ok (.iconst 0, 1) := by decide +kernel
theorem dL_law_570 : decode cL_law 570 = .ok (.istore 4, 2) := by decide +kernel
theorem dL_law_572 : decode cL_law 572 = .ok (.iconst 0, 1) := by decide +kernel
theorem dL_law_573 : decode cL_law 573 = .ok (.istore 14, 2) := by decide +kernel
theorem dL_law_575 : decode cL_law 575 = .ok (.iload 14, 2) := by decide +kernel
theorem dL_law_577 : decode cL_law 577 = .ok (.bipush 64, 2) := by decide +kernel
theorem dL_law_579 : decode cL_law 579 = .ok (.if_icmp .ge 17, 3) := by decide +kernel
theorem dL_law_582 : decode cL_law 582 = .ok (.aload_n 2, 1) := by decide +kernel
theorem dL_law_583 : decode cL_law 583 = .ok (.iload 14, 2) := by decide +kernel
theorem dL_law_585 : decode cL_law 585 = .ok (.aload_n 3, 1) := by decide +kernel
theorem dL_law_586 : decode cL_law 586 = .ok (.iload 14, 2) := by decide +kernel
theorem dL_law_588 : decode cL_law 588 = .ok (.iaload, 1) := by decide +kernel
theorem dL_law_589 : decode cL_law 589 = .ok (.iastore, 1) := by decide +kernel
theorem dL_law_590 : decode cL_law 590 = .ok (.iinc 14 1, 3) := by decide +kernel
theorem dL_law_593 : decode cL_law 593 = .ok (.goto (-18), 3) := by decide +kernel
theorem dL_law_596 : decode cL_law 596 = .ok (.iload 4, 2) := by decide +kernel
theorem dL_law_598 : decode cL_law 598 = .ok (.ifCond .eq 15, 3) := by decide +kernel
theorem dL_law_601 : decode cL_law 601 = .ok (.aload_n 1, 1) := by decide +kernel
theorem dL_law_602 : decode cL_law 602 = .ok (.aload_n 2, 1) := by decide +kernel
theorem dL_law_603 : decode cL_law 603 = .ok (.invokestatic 96, 3) := by decide +kernel
theorem dL_law_606 : decode cL_law 606 = .ok (.ifCond .eq 7, 3) := by decide +kernel
theorem dL_law_609 : decode cL_law 609 = .ok (.iconst 1, 1) := by decide +kernel
theorem dL_law_610 : decode cL_law 610 = .ok (.goto 4, 3) := by decide +kernel
theorem dL_law_613 : decode cL_law 613 = .ok (.iconst 0, 1) := by decide +kernel
theorem dL_law_614 : decode cL_law 614 = .ok (.istore 4, 2) := by decide +kernel
theorem dL_law_616 : decode cL_law 616 = .ok (.iinc 5 1, 3) := by decide +kernel
theorem dL_law_619 : decode cL_law 619 = .ok (.goto (-565), 3) := by decide +kernel
theorem dL_law_622 : decode cL_law 622 = .ok (.iload 4, 2) := by decide +kernel
theorem dL_law_624 : decode cL_law 624 = .ok (.ireturn, 1) := by decide +kernel
