theorem dJ6_bitCount_0f7a4_25 : decode cJ6_bitCount_0f7a4 25 = .ok (.iload_n 0, 1) := by decide +kernel
theorem dJ6_bitCount_0f7a4_26 : decode cJ6_bitCount_0f7a4 26 = .ok (.iconst 4, 1) := by decide +kernel
theorem dJ6_bitCount_0f7a4_27 : decode cJ6_bitCount_0f7a4 27 = .ok (.iushr, 1) := by decide +kernel
theorem dJ6_bitCount_0f7a4_28 : decode cJ6_bitCount_0f7a4 28 = .ok (.iadd, 1) := by decide +kernel
theorem dJ6_bitCount_0f7a4_29 : decode cJ6_bitCount_0f7a4 29 = .ok (.ldc_w 267, 3) := by decide +kernel
theorem dJ6_bitCount_0f7a4_32 : decode cJ6_bitCount_0f7a4 32 = .ok (.iand, 1) := by decide +kernel
theorem dJ6_bitCount_0f7a4_33 : decode cJ6_bitCount_0f7a4 33 = .ok (.istore_n 0, 1) := by decide +kernel
theorem dJ6_bitCount_0f7a4_34 : decode cJ6_bitCount_0f7a4 34 = .ok (.iload_n 0, 1) := by decide +kernel
theorem dJ6_bitCount_0f7a4_35 : decode cJ6_bitCount_0f7a4 35 = .ok (.iload_n 0, 1) := by decide +kernel
theorem dJ6_bitCount_0f7a4_36 : decode cJ6_bitCount_0f7a4 36 = .ok (.bipush 8, 2) := by decide +kernel
theorem dJ6_bitCount_0f7a4_38 : decode cJ6_bitCount_0f7a4 38 = .ok (.iushr, 1) := by decide +kernel
theorem dJ6_bitCount_0f7a4_39 : decode cJ6_bitCount_0f7a4 39 = .ok (.iadd, 1) := by decide +kernel
theorem dJ6_bitCount_0f7a4_40 : decode cJ6_bitCount_0f7a4 40 = .ok (.istore_n 0, 1) := by decide +kernel
theorem dJ6_bitCount_0f7a4_41 : decode cJ6_bitCount_0f7a4 41 = .ok (.iload_n 0, 1) := by decide +kernel
theorem dJ6_bitCount_0f7a4_42 : decode cJ6_bitCount_0f7a4 42 = .ok (.iload_n 0, 1) := by decide +kernel
theorem dJ6_bitCount_0f7a4_43 : decode cJ6_bitCount_0f7a4 43 = .ok (.bipush 16, 2) := by decide +kernel
theorem dJ6_bitCount_0f7a4_45 : decode cJ6_bitCount_0f7a4 45 = .ok (.iushr, 1) := by decide +kernel
theorem dJ6_bitCount_0f7a4_46 : decode cJ6_bitCount_0f7a4 46 = .ok (.iadd, 1) := by decide +kernel
theorem dJ6_bitCount_0f7a4_47 : decode cJ6_bitCount_0f7a4 47 = .ok (.istore_n 0, 1) := by decide +kernel
theorem dJ6_bitCount_0f7a4_48 : decode cJ6_bitCount_0f7a4 48 = .ok (.iload_n 0, 1) := by decide +kernel
theorem dJ6_bitCount_0f7a4_49 : decode cJ6_bitCount_0f7a4 49 = .ok (.bipush 63, 2) := by decide +kernel
theorem dJ6_bitCount_0f7a4_51 : decode cJ6_bitCount_0f7a4 51 = .ok (.iand, 1) := by decide +kernel
theorem dJ6_bitCount_0f7a4_52 : decode cJ6_bitCount_0f7a4 52 = .ok (.ireturn, 1) := by decide +kernel
theorem dJ13_bitCount_95d88_0 : decode cJ13_bitCount_95d88 0 = .ok (.lload_n 0, 1) := by decide +kernel
theorem dJ13_bitCount_95d88_1 : decode cJ13_bitCount_95d88 1 = .ok (.lload_n 0, 1) := by decide +kernel
theorem dJ13_bitCount_95d88_2 : decode cJ13_bitCount_95d88 2 = .ok (.iconst 1, 1) := by decide +kernel
theorem dJ13_bitCount_95d88_3 : decode cJ13_bitCount_95d88 3 = .ok (.lushr, 1) := by decide +kernel
theorem dJ13_bitCount_95d88_4 : decode cJ13_bitCount_95d88 4 = .ok (.ldc2_w 314, 3) := by decide +kernel
theorem dJ13_bitCount_95d88_7 : decode cJ13_bitCount_95d88 7 = .ok (.land, 1) := by decide +kernel
theorem dJ13_bitCount_95d88_8 : decode cJ13_bitCount_95d88 8 = .ok (.lsub, 1) := by decide +kernel
theorem dJ13_bitCount_95d88_9 : decode cJ13_bitCount_95d88 9 = .ok (.lstore_n 0, 1) := by decide +kernel
theorem dJ13_bitCount_95d88_10 : decode cJ13_bitCount_95d88 10 = .ok (.lload_n 0, 1) := by decide +kernel
theorem dJ13_bitCount_95d88_11 : decode cJ13_bitCount_95d88 11 = .ok (.ldc2_w 316, 3) := by decide +kernel
theorem dJ13_bitCount_95d88_14 : decode cJ13_bitCount_95d88 14 = .ok (.land, 1) := by decide +kernel
theorem dJ13_bitCount_95d88_15 : decode cJ13_bitCount_95d88 15 = .ok (.lload_n 0, 1) := by decide +kernel
theorem dJ13_bitCount_95d88_16 : decode cJ13_bitCount_95d88 16 = .ok (.iconst 2, 1) := by decide +kernel
theorem dJ13_bitCount_95d88_17 : decode cJ13_bitCount_95d88 17 = .ok (.lushr, 1) := by decide +kernel
theorem dJ13_bitCount_95d88_18 : decode cJ13_bitCount_95d88 18 = .ok (.ldc2_w 316, 3) := by decide +kernel
theorem dJ13_bitCount_95d88_21 : decode cJ13_bitCount_95d88 21 = .ok (.land, 1) := by decide +kernel
theorem dJ13_bitCount_95d88_22 : decode cJ13_bitCount_95d88 22 = .ok (.ladd, 1) := by decide +kernel
theorem dJ13_bitCount_95d88_23 : decode cJ13_bitCount_95d88 23 = .ok (.lstore_n 0, 1) := by decide +kernel
theorem dJ13_bitCount_95d88_24 : decode cJ13_bitCount_95d88 24 = .ok (.lload_n 0, 1) := by decide +kernel
theorem dJ13_bitCount_95d88_25 : decode cJ13_bitCount_95d88 25 = .ok (.lload_n 0, 1) := by decide +kernel
theorem dJ13_bitCount_95d88_26 : decode cJ13_bitCount_95d88 26 = .ok (.iconst 4, 1) := by decide +kernel
theorem dJ13_bitCount_95d88_27 : decode cJ13_bitCount_95d88 27 = .ok (.lushr, 1) := by decide +kernel
theorem dJ13_bitCount_95d88_28 : decode cJ13_bitCount_95d88 28 = .ok (.ladd, 1) := by decide +kernel
theorem dJ13_bitCount_95d88_29 : decode cJ13_bitCount_95d88 29 = .ok (.ldc2_w 318, 3) := by decide +kernel
theorem dJ13_bitCount_95d88_32 : decode cJ13_bitCount_95d88 32 = .ok (.land, 1) := by decide +kernel
theorem dJ13_bitCount_95d88_33 : decode cJ13_bitCount_95d88 33 = .ok (.lstore_n 0, 1) := by decide +kernel
theorem dJ13_bitCount_95d88_34 : decode cJ13_bitCount_95d88 34 = .ok (.lload_n 0, 1) := by decide +kernel
theorem dJ13_bitCount_95d88_35 : decode cJ13_bitCount_95d88 35 = .ok (.lload_n 0, 1) := by decide +kernel
theorem dJ13_bitCount_95d88_36 : decode cJ13_bitCount_95d88 36 = .ok (.bipush 8, 2) := by decide +kernel
theorem dJ13_bitCount_95d88_38 : decode cJ13_bitCount_95d88 38 = .ok (.lushr, 1) := by decide +kernel
theorem dJ13_bitCount_95d88_39 : decode cJ13_bitCount_95d88 39 = .ok (.ladd, 1) := by decide +kernel
theorem dJ13_bitCount_95d88_40 : decode cJ13_bitCount_95d88 40 = .ok (.lstore_n 0, 1) := by decide +kernel
theorem dJ13_bitCount_95d88_41 : decode cJ13_bitCount_95d88 41 = .ok (.lload_n 0, 1) := by decide +kernel
theorem dJ13_bitCount_95d88_42 : decode cJ13_bitCount_95d88 42 = .ok (.lload_n 0, 1) := by decide +kernel
theorem dJ13_bitCount_95d88_43 : decode cJ13_bitCount_95d88 43 = .ok (.bipush 16, 2) := by decide +kernel
theorem dJ13_bitCount_95d88_45 : decode cJ13_bitCount_95d88 45 = .ok (.lushr, 1) := by decide +kernel
theorem dJ13_bitCount_95d88_46 : decode cJ13_bitCount_95d88 46 = .ok (.ladd, 1) := by decide +kernel
theorem dJ13_bitCount_95d88_47 : decode cJ13_bitCount_95d88 47 = .ok (.lstore_n 0, 1) := by decide +kernel
theorem dJ13_bitCount_95d88_48 : decode cJ13_bitCount_95d88 48 = .ok (.lload_n 0, 1) := by decide +kernel
theorem dJ13_bitCount_95d88_49 : decode cJ13_bitCount_95d88 49 = .ok (.lload_n 0, 1) := by decide +kernel
theorem dJ13_bitCount_95d88_50 : decode cJ13_bitCount_95d88 50 = .ok (.bipush 32, 2) := by decide +kernel
theorem dJ13_bitCount_95d88_52 : decode cJ13_bitCount_95d88 52 = .ok (.lushr, 1) := by decide +kernel
theorem dJ13_bitCount_95d88_53 : decode cJ13_bitCount_95d88 53 = .ok (.ladd, 1) := by decide +kernel
theorem dJ13_bitCount_95d88_54 : decode cJ13_bitCount_95d88 54 = .ok (.lstore_n 0, 1) := by decide +kernel
theorem dJ13_bitCount_95d88_55 : decode cJ13_bitCount_95d88 55 = .ok (.lload_n 0, 1) := by decide +kernel
theorem dJ13_bitCount_95d88_56 : decode cJ13_bitCount_95d88 56 = .ok (.l2i, 1) := by decide +kernel
theorem dJ13_bitCount_95d88_57 : decode cJ13_bitCount_95d88 57 = .ok (.bipush 127, 2) := by decide +kernel
theorem dJ13_bitCount_95d88_59 : decode cJ13_bitCount_95d88 59 = .ok (.iand, 1) := by decide +kernel
theorem dJ13_bitCount_95d88_60 : decode cJ13_bitCount_95d88 60 = .ok (.ireturn, 1) := by decide +kernel
theorem dJ9_abs_0f7a4_0 : decode cJ9_abs_0f7a4 0 = .ok (.iload_n 0, 1) := by decide +kernel
theorem dJ9_abs_0f7a4_1 : decode cJ9_abs_0f7a4 1 = .ok (.ifCond .ge 8, 3) := by decide +kernel
theorem dJ9_abs_0f7a4_4 : decode cJ9_abs_0f7a4 4 = .ok (.iload_n 0, 1) := by decide +kernel
theorem dJ9_abs_0f7a4_5 : decode cJ9_abs_0f7a4 5 = .ok (.ineg, 1) := by decide +kernel
theorem dJ9_abs_0f7a4_6 : decode cJ9_abs_0f7a4 6 = .ok (.goto 4, 3) := by decide +kernel
theorem dJ9_abs_0f7a4_9 : decode cJ9_abs_0f7a4 9 = .ok (.iload_n 0, 1) := by decide +kernel
theorem dJ9_abs_0f7a4_10 : decode cJ9_abs_0f7a4 10 = .ok (.ireturn, 1) := by decide +kernel
theorem dJ9_max_7cf53_0 : decode cJ9_max_7cf53 0 = .ok (.iload_n 0, 1) := by decide +kernel
theorem dJ9_max_7cf53_1 : decode cJ9_max_7cf53 1 = .ok (.iload_n 1, 1) := by decide +kernel
theorem dJ9_max_7cf53_2 : decode cJ9_max_7cf53 2 = .ok (.if_icmp .lt 7, 3) := by decide +kernel
theorem dJ9_max_7cf53_5 : decode cJ9_max_7cf53 5 = .ok (.iload_n 0, 1) := by decide +kernel
theorem dJ9_max_7cf53_6 : decode cJ9_max_7cf53 6 = .ok (.goto 4, 3) := by decide +kernel
theorem dJ9_max_7cf53_9 : decode cJ9_max_7cf53 9 = .ok (.iload_n 1, 1) := by decide +kernel
theorem dJ9_max_7cf53_10 : decode cJ9_max_7cf53 10 = .ok (.ireturn, 1) := by decide +kernel
theorem dJ9_min_7cf53_0 : decode cJ9_min_7cf53 0 = .ok (.iload_n 0, 1) := by decide +kernel
theorem dJ9_min_7cf53_1 : decode cJ9_min_7cf53 1 = .ok (.iload_n 1, 1) := by decide +kernel
theorem dJ9_min_7cf53_2 : decode cJ9_min_7cf53 2 = .ok (.if_icmp .gt 7, 3) := by decide +kernel
theorem dJ9_min_7cf53_5 : decode cJ9_min_7cf53 5 = .ok (.iload_n 0, 1) := by decide +kernel
theorem dJ9_min_7cf53_6 : decode cJ9_min_7cf53 6 = .ok (.goto 4, 3) := by decide +kernel
theorem dJ9_min_7cf53_9 : decode cJ9_min_7cf53 9 = .ok (.iload_n 1, 1) := by decide +kernel
theorem dJ9_min_7cf53_10 : decode cJ9_min_7cf53 10 = .ok (.ireturn, 1) := by decide +kernel
theorem dL_cell_0 : decode cL_cell 0 = .ok (.iload_n 1, 1) := by decide +kernel
theorem dL_cell_1 : decode cL_cell 1 = .ok (.aload_n 0, 1) := by decide +kernel
theorem dL_cell_2 : decode cL_cell 2 = .ok (.arraylength, 1) := by decide +kernel
theorem dL_cell_3 : decode cL_cell 3 = .ok (.if_icmp .ge 9, 3) := by decide +kernel
theorem dL_cell_6 : decode cL_cell 6 = .ok (.aload_n 0, 1) := by decide +kernel
theorem dL_cell_7 : decode cL_cell 7 = .ok (.iload_n 1, 1) := by decide +kernel
theorem dL_cell_8 : decode cL_cell 8 = .ok (.iaload, 1) := by decide +kernel
theorem dL_cell_9 : decode cL_cell 9 = .ok (.goto 10, 3) := by decide +kernel
theorem dL_cell_12 : decode cL_cell 12 = .ok (.ldc 7, 2) := by decide +kernel
theorem dL_cell_14 : decode cL_cell 14 = .ok (.iload_n 1, 1) := by decide +kernel
theorem dL_cell_15 : decode cL_cell 15 = .ok (.bipush 11, 2) := by decide +kernel
theorem dL_cell_17 : decode cL_cell 17 = .ok (.iadd, 1) := by decide +kernel
theorem dL_cell_18 : decode cL_cell 18 = .ok (.imul, 1) := by decide +kernel
theorem dL_cell_19 : decode cL_cell 19 = .ok (.ireturn, 1) := by decide +kernel
theorem dL_low_0 : decode cL_low 0 = .ok (.iload_n 0, 1) := by decide +kernel
theorem dL_low_1 : decode cL_low 1 = .ok (.iconst 1, 1) := by decide +kernel
theorem dL_low_2 : decode cL_low 2 = .ok (.iushr, 1) := by decide +kernel
theorem dL_low_3 : decode cL_low 3 = .ok (.iload_n 1, 1) := by decide +kernel
theorem dL_low_4 : decode cL_low 4 = .ok (.irem, 1) := by decide +kernel
theorem dL_low_5 : decode cL_low 5 = .ok (.ireturn, 1) := by decide +kernel
set_option maxRecDepth 20000 in
theorem ggL_block_X6_block : GoodIn wsL_block wsX6_block := goodIn_ca (goodIn_r _ [6, 7, 8, 9, 5, 10, 11, 12, 13, 14, 15, 16, 17, 18, 19, 20, 21, 22, 23, 24, 25, 26, 27, 28, 29, 30, 31, 32, 33] (by decide +kernel) (by decide +kernel)) (goodIn_sub (fun _ h => List.mem_cons_of_mem _ (List.mem_append_right _ h)) (by decide +kernel))
set_option maxRecDepth 20000 in
theorem gL_block_X6_block : GoodIn wsL_block (wsV RL 8 RX6 yX6_block wsX6_block) := goodIn_app (goodIn_of _ (by decide +kernel)) ggL_block_X6_block
theorem dL_block_0 : decode cL_block 0 = .ok (.aload_n 0, 1) := by decide +kernel
theorem dL_block_1 : decode cL_block 1 = .ok (.iload_n 1, 1) := by decide +kernel
theorem dL_block_2 : decode cL_block 2 = .ok (.iload_n 2, 1) := by decide +kernel
theorem dL_block_3 : decode cL_block 3 = .ok (.iload_n 3, 1) := by decide +kernel
theorem dL_block_4 : decode cL_block 4 = .ok (.invokevirtual 8, 3) := by decide +kernel
theorem dL_block_7 : decode cL_block 7 = .ok (.istore 4, 2) := by decide +kernel
theorem dL_block_9 : decode cL_block 9 = .ok (.goto 9, 3) := by decide +kernel
theorem dL_block_12 : decode cL_block 12 = .ok (.astore 5, 2) := by decide +kernel
theorem dL_block_14 : decode cL_block 14 = .ok (.sipush (-7100), 3) := by decide +kernel
theorem dL_block_17 : decode cL_block 17 = .ok (.ireturn, 1) := by decide +kernel
theorem dL_block_18 : decode cL_block 18 = .ok (.iload 4, 2) := by decide +kernel
theorem dL_block_20 : decode cL_block 20 = .ok (.ifCond .eq 7, 3) := by decide +kernel
theorem dL_block_23 : decode cL_block 23 = .ok (.iconst 1, 1) := by decide +kernel
theorem dL_block_24 : decode cL_block 24 = .ok (.goto 4, 3) := by decide +kernel
theorem dL_block_27 : decode cL_block 27 = .ok (.iconst 0, 1) := by decide +kernel
theorem dL_block_28 : decode cL_block 28 = .ok (.ireturn, 1) := by decide +kernel
set_option maxRecDepth 20000 in
theorem ggL_period_X6_period : GoodIn wsL_period wsX6_period := goodIn_ca (goodIn_ca (goodIn_ca (goodIn_r _ [8, 9, 10, 11, 12, 7, 13, 14, 15, 16, 17, 18, 19, 20, 21, 22, 23, 24, 25, 26, 27, 28, 29, 30, 31, 32, 33, 34, 35, 36, 37, 38, 39, 40, 41, 42, 43, 44, 45, 46, 47, 48, 49, 50, 51, 52, 53, 54, 55, 56, 57, 58, 59, 60, 61, 62, 63, 64, 65, 66, 67, 68, 69, 70, 71, 72, 73, 74, 75, 76, 77, 78, 79, 80, 81, 82, 83, 84, 85, 86, 87, 88] (by decide +kernel) (by decide +kernel)) (goodIn_sub (fun _ h => List.mem_cons_of_mem _ (List.mem_append_left _ (List.mem_append_left _ (List.mem_append_right _ h)))) (by decide +kernel))) (goodIn_sub (fun _ h => List.mem_cons_of_mem _ (List.mem_append_left _ (List.mem_append_right _ h))) (by decide +kernel))) (goodIn_sub (fun _ h => List.mem_cons_of_mem _ (List.mem_append_right _ h)) (by decide +kernel))
set_option maxRecDepth 20000 in
theorem gL_period_X6_period : GoodIn wsL_period (wsV RL 16 RX6 yX6_period wsX6_period) := goodIn_app (goodIn_of _ (by decide +kernel)) ggL_period_X6_period
theorem dL_period_0 : decode cL_period 0 = .ok (.aload_n 0, 1) := by decide +kernel
theorem dL_period_1 : decode cL_period 1 = .ok (.iload_n 1, 1) := by decide +kernel
theorem dL_period_2 : decode cL_period 2 = .ok (.iload_n 2, 1) := by decide +kernel
theorem dL_period_3 : decode cL_period 3 = .ok (.iload_n 3, 1) := by decide +kernel
theorem dL_period_4 : decode cL_period 4 = .ok (.iload 4, 2) := by decide +kernel
theorem dL_period_6 : decode cL_period 6 = .ok (.invokevirtual 16, 3) := by decide +kernel
theorem dL_period_9 : decode cL_period 9 = .ok (.istore 5, 2) := by decide +kernel
theorem dL_period_11 : decode cL_period 11 = .ok (.goto 21, 3) := by decide +kernel
theorem dL_period_14 : decode cL_period 14 = .ok (.astore 6, 2) := by decide +kernel
theorem dL_period_16 : decode cL_period 16 = .ok (.sipush (-7100), 3) := by decide +kernel
theorem dL_period_19 : decode cL_period 19 = .ok (.ireturn, 1) := by decide +kernel
theorem dL_period_20 : decode cL_period 20 = .ok (.astore 6, 2) := by decide +kernel
theorem dL_period_22 : decode cL_period 22 = .ok (.sipush (-7200), 3) := by decide +kernel
theorem dL_period_25 : decode cL_period 25 = .ok (.ireturn, 1) := by decide +kernel
theorem dL_period_26 : decode cL_period 26 = .ok (.astore 6, 2) := by decide +kernel
theorem dL_period_28 : decode cL_period 28 = .ok (.sipush (-7300), 3) := by decide +kernel
theorem dL_period_31 : decode cL_period 31 = .ok (.ireturn, 1) := by decide +kernel
theorem dL_period_32 : decode cL_period 32 = .ok (.iload 5, 2) := by decide +kernel
theorem dL_period_34 : decode cL_period 34 = .ok (.ireturn, 1) := by decide +kernel
set_option maxRecDepth 20000 in
theorem ggL_periodAnew_X6_periodAnew : GoodIn wsL_periodAnew wsX6_periodAnew := goodIn_ca (goodIn_ca (goodIn_ca (goodIn_r _ [8, 9, 10, 11, 12, 7, 13, 14, 15, 16, 17, 18, 19, 20, 21, 22, 23, 24, 25, 26, 27, 28, 29, 30, 31, 32, 33, 34, 35, 36, 37, 38, 39, 40, 41, 42, 43, 44, 45, 46, 47, 48, 49, 50, 51, 52, 53, 54, 55, 56, 57, 58, 59, 60, 61, 62, 63, 64, 65, 66, 67, 68, 69, 70, 71, 72, 73, 74, 75, 76, 77, 78, 79, 80, 81, 82, 83, 84, 85] (by decide +kernel) (by decide +kernel)) (goodIn_sub (fun _ h => List.mem_cons_of_mem _ (List.mem_append_left _ (List.mem_append_left _ (List.mem_append_right _ h)))) (by decide +kernel))) (goodIn_sub (fun _ h => List.mem_cons_of_mem _ (List.mem_append_left _ (List.mem_append_right _ h))) (by decide +kernel))) (goodIn_sub (fun _ h => List.mem_cons_of_mem _ (List.mem_append_right _ h)) (by decide +kernel))
set_option maxRecDepth 20000 in
theorem gL_periodAnew_X6_periodAnew : GoodIn wsL_periodAnew (wsV RL 24 RX6 yX6_periodAnew wsX6_periodAnew) := goodIn_app (goodIn_of _ (by decide +kernel)) ggL_periodAnew_X6_periodAnew
theorem dL_periodAnew_0 : decode cL_periodAnew 0 = .ok (.aload_n 0, 1) := by decide +kernel
theorem dL_periodAnew_1 : decode cL_periodAnew 1 = .ok (.iload_n 1, 1) := by decide +kernel
theorem dL_periodAnew_2 : decode cL_periodAnew 2 = .ok (.iload_n 2, 1) := by decide +kernel
theorem dL_periodAnew_3 : decode cL_periodAnew 3 = .ok (.iload_n 3, 1) := by decide +kernel
theorem dL_periodAnew_4 : decode cL_periodAnew 4 = .ok (.iload 4, 2) := by decide +kernel
theorem dL_periodAnew_6 : decode cL_periodAnew 6 = .ok (.invokevirtual 24, 3) := by decide +kernel
theorem dL_periodAnew_9 : decode cL_periodAnew 9 = .ok (.istore 5, 2) := by decide +kernel
theorem dL_periodAnew_11 : decode cL_periodAnew 11 = .ok (.goto 21, 3) := by decide +kernel
theorem dL_periodAnew_14 : decode cL_periodAnew 14 = .ok (.astore 6, 2) := by decide +kernel
theorem dL_periodAnew_16 : decode cL_periodAnew 16 = .ok (.sipush (-7100), 3) := by decide +kernel
theorem dL_periodAnew_19 : decode cL_periodAnew 19 = .ok (.ireturn, 1) := by decide +kernel
theorem dL_periodAnew_20 : decode cL_periodAnew 20 = .ok (.astore 6, 2) := by decide +kernel
theorem dL_periodAnew_22 : decode cL_periodAnew 22 = .ok (.sipush (-7200), 3) := by decide +kernel
theorem dL_periodAnew_25 : decode cL_periodAnew 25 = .ok (.ireturn, 1) := by decide +kernel
theorem dL_periodAnew_26 : decode cL_periodAnew 26 = .ok (.astore 6, 2) := by decide +kernel
theorem dL_periodAnew_28 : decode cL_periodAnew 28 = .ok (.sipush (-7300), 3) := by decide +kernel
theorem dL_periodAnew_31 : decode cL_periodAnew 31 = .ok (.ireturn, 1) := by decide +kernel
theorem dL_periodAnew_32 : decode cL_periodAnew 32 = .ok (.iload 5, 2) := by decide +kernel
theorem dL_periodAnew_34 : decode cL_periodAnew 34 = .ok (.ireturn, 1) := by decide +kernel
set_option maxRecDepth 20000 in
theorem ggL_bounces_X6_bounces : GoodIn wsL_bounces wsX6_bounces := goodIn_ca (goodIn_ca (goodIn_ca (goodIn_r _ [8, 9, 10, 11, 12, 7, 13, 14, 15, 16, 17, 18, 19, 20, 21, 22, 23, 24, 25, 26, 27, 28, 29, 30, 31, 32, 33, 34, 35, 36, 37, 38, 39, 40, 41, 42, 43, 44, 45, 46, 47, 48, 49, 50, 51, 52, 53, 54, 55, 56, 57, 58, 59, 60, 61, 62, 63, 64, 65, 66, 67, 68, 69, 70, 71, 72, 73, 74, 75, 76, 77, 78, 79, 80, 81, 82, 83, 84, 85, 86, 87, 88, 89, 90, 91, 92] (by decide +kernel) (by decide +kernel)) (goodIn_sub (fun _ h => List.mem_cons_of_mem _ (List.mem_append_left _ (List.mem_append_left _ (List.mem_append_right _ h)))) (by decide +kernel))) (goodIn_sub (fun _ h => List.mem_cons_of_mem _ (List.mem_append_left _ (List.mem_append_right _ h))) (by decide +kernel))) (goodIn_sub (fun _ h => List.mem_cons_of_mem _ (List.mem_append_right _ h)) (by decide +kernel))
set_option maxRecDepth 20000 in
theorem gL_bounces_X6_bounces : GoodIn wsL_bounces (wsV RL 27 RX6 yX6_bounces wsX6_bounces) := goodIn_app (goodIn_of _ (by decide +kernel)) ggL_bounces_X6_bounces
theorem dL_bounces_0 : decode cL_bounces 0 = .ok (.aload_n 0, 1) := by decide +kernel
theorem dL_bounces_1 : decode cL_bounces 1 = .ok (.iload_n 1, 1) := by decide +kernel
theorem dL_bounces_2 : decode cL_bounces 2 = .ok (.iload_n 2, 1) := by decide +kernel
theorem dL_bounces_3 : decode cL_bounces 3 = .ok (.iload_n 3, 1) := by decide +kernel
theorem dL_bounces_4 : decode cL_bounces 4 = .ok (.iload 4, 2) := by decide +kernel
theorem dL_bounces_6 : decode cL_bounces 6 = .ok (.invokevirtual 27, 3) := by decide +kernel
theorem dL_bounces_9 : decode cL_bounces 9 = .ok (.istore 5, 2) := by decide +kernel
theorem dL_bounces_11 : decode cL_bounces 11 = .ok (.goto 21, 3) := by decide +kernel
theorem dL_bounces_14 : decode cL_bounces 14 = .ok (.astore 6, 2) := by decide +kernel
theorem dL_bounces_16 : decode cL_bounces 16 = .ok (.sipush (-7100), 3) := by decide +kernel
theorem dL_bounces_19 : decode cL_bounces 19 = .ok (.ireturn, 1) := by decide +kernel
theorem dL_bounces_20 : decode cL_bounces 20 = .ok (.astore 6, 2) := by decide +kernel
theorem dL_bounces_22 : decode cL_bounces 22 = .ok (.sipush (-7200), 3) := by decide +kernel
theorem dL_bounces_25 : decode cL_bounces 25 = .ok (.ireturn, 1) := by decide +kernel
theorem dL_bounces_26 : decode cL_bounces 26 = .ok (.astore 6, 2) := by decide +kernel
theorem dL_bounces_28 : decode cL_bounces 28 = .ok (.sipush (-7300), 3) := by decide +kernel
theorem dL_bounces_31 : decode cL_bounces 31 = .ok (.ireturn, 1) := by decide +kernel
theorem dL_bounces_32 : decode cL_bounces 32 = .ok (.iload 5, 2) := by decide +kernel
theorem dL_bounces_34 : decode cL_bounces 34 = .ok (.ireturn, 1) := by decide +kernel
set_option maxRecDepth 20000 in
theorem ggL_touched_X6_touched : GoodIn wsL_touched wsX6_touched := goodIn_ca (goodIn_ca (goodIn_ca (goodIn_r _ [8, 9, 10, 11, 12, 7, 13, 14, 15, 16, 17, 18, 19, 20, 21, 22, 23, 24, 25, 26, 27, 28, 29, 30, 31, 32, 33, 34, 35, 36, 37, 38, 39, 40, 41, 42, 43, 44, 45, 46, 47, 48, 49, 50, 51, 52, 53, 54, 55, 56, 57, 58, 59, 60, 61, 62, 63, 64, 65, 66, 67, 68, 69, 70, 71, 72, 73, 74, 75, 76, 77, 78, 79, 80, 81, 82, 83, 84, 85, 86, 87, 88, 89, 90, 91, 92, 93, 94, 95] (by decide +kernel) (by decide +kernel)) (goodIn_sub (fun _ h => List.mem_cons_of_mem _ (List.mem_append_left _ (List.mem_append_left _ (List.mem_append_right _ h)))) (by decide +kernel))) (goodIn_sub (fun _ h => List.mem_cons_of_mem _ (List.mem_append_left _ (List.mem_append_right _ h))) (by decide +kernel))) (goodIn_sub (fun _ h => List.mem_cons_of_mem _ (List.mem_append_right _ h)) (by decide +kernel))
set_option maxRecDepth 20000 in
theorem gL_touched_X6_touched : GoodIn wsL_touched (wsV RL 30 RX6 yX6_touched wsX6_touched) := goodIn_app (goodIn_of _ (by decide +kernel)) ggL_touched_X6_touched
theorem dL_touched_0 : decode cL_touched 0 = .ok (.aload_n 0, 1) := by decide +kernel
theorem dL_touched_1 : decode cL_touched 1 = .ok (.iload_n 1, 1) := by decide +kernel
theorem dL_touched_2 : decode cL_touched 2 = .ok (.iload_n 2, 1) := by decide +kernel
theorem dL_touched_3 : decode cL_touched 3 = .ok (.iload_n 3, 1) := by decide +kernel
theorem dL_touched_4 : decode cL_touched 4 = .ok (.iload 4, 2) := by decide +kernel
theorem dL_touched_6 : decode cL_touched 6 = .ok (.invokevirtual 30, 3) := by decide +kernel
theorem dL_touched_9 : decode cL_touched 9 = .ok (.istore 5, 2) := by decide +kernel
theorem dL_touched_11 : decode cL_touched 11 = .ok (.goto 21, 3) := by decide +kernel
theorem dL_touched_14 : decode cL_touched 14 = .ok (.astore 6, 2) := by decide +kernel
theorem dL_touched_16 : decode cL_touched 16 = .ok (.sipush (-7100), 3) := by decide +kernel
theorem dL_touched_19 : decode cL_touched 19 = .ok (.ireturn, 1) := by decide +kernel
theorem dL_touched_20 : decode cL_touched 20 = .ok (.astore 6, 2) := by decide +kernel
theorem dL_touched_22 : decode cL_touched 22 = .ok (.sipush (-7200), 3) := by decide +kernel
theorem dL_touched_25 : decode cL_touched 25 = .ok (.ireturn, 1) := by decide +kernel
theorem dL_touched_26 : decode cL_touched 26 = .ok (.astore 6, 2) := by decide +kernel
theorem dL_touched_28 : decode cL_touched 28 = .ok (.sipush (-7300), 3) := by decide +kernel
theorem dL_touched_31 : decode cL_touched 31 = .ok (.ireturn, 1) := by decide +kernel
theorem dL_touched_32 : decode cL_touched 32 = .ok (.iload 5, 2) := by decide +kernel
theorem dL_touched_34 : decode cL_touched 34 = .ok (.ireturn, 1) := by decide +kernel
set_option maxRecDepth 20000 in
theorem ggL_bounce_X6_bounce : GoodIn wsL_bounce wsX6_bounce := goodIn_ca (goodIn_ca (goodIn_ca (goodIn_r _ [8, 9, 10, 11, 12, 13, 7, 14, 15, 16, 17, 18, 19, 20, 21, 22, 23, 24, 25, 26, 27, 28, 29, 30, 31, 32, 33, 34, 35, 36, 37, 38, 39, 40, 41, 42, 43, 44, 45, 46, 47, 48, 49, 50, 51, 52, 53, 54, 55, 56, 57, 58, 59, 60, 61, 62, 63, 64, 65, 66, 67, 68, 69, 70, 71, 72, 73, 74, 75, 76, 77, 78, 79, 80, 81, 82, 83, 84, 85, 86, 87, 88, 89, 90, 91, 92, 93, 94, 95, 96, 97] (by decide +kernel) (by decide +kernel)) (goodIn_sub (fun _ h => List.mem_cons_of_mem _ (List.mem_append_left _ (List.mem_append_left _ (List.mem_append_right _ h)))) (by decide +kernel))) (goodIn_sub (fun _ h => List.mem_cons_of_mem _ (List.mem_append_left _ (List.mem_append_right _ h))) (by decide +kernel))) (goodIn_sub (fun _ h => List.mem_cons_of_mem _ (List.mem_append_right _ h)) (by decide +kernel))
set_option maxRecDepth 20000 in
theorem gL_bounce_X6_bounce : GoodIn wsL_bounce (wsV RL 33 RX6 yX6_bounce wsX6_bounce) := goodIn_app (goodIn_of _ (by decide +kernel)) ggL_bounce_X6_bounce
theorem dL_bounce_0 : decode cL_bounce 0 = .ok (.aload_n 0, 1) := by decide +kernel
theorem dL_bounce_1 : decode cL_bounce 1 = .ok (.iload_n 1, 1) := by decide +kernel
theorem dL_bounce_2 : decode cL_bounce 2 = .ok (.iload_n 2, 1) := by decide +kernel
theorem dL_bounce_3 : decode cL_bounce 3 = .ok (.iload_n 3, 1) := by decide +kernel
theorem dL_bounce_4 : decode cL_bounce 4 = .ok (.iload 4, 2) := by decide +kernel
theorem dL_bounce_6 : decode cL_bounce 6 = .ok (.iload 5, 2) := by decide +kernel
theorem dL_bounce_8 : decode cL_bounce 8 = .ok (.invokevirtual 33, 3) := by decide +kernel
theorem dL_bounce_11 : decode cL_bounce 11 = .ok (.istore 6, 2) := by decide +kernel
theorem dL_bounce_13 : decode cL_bounce 13 = .ok (.goto 21, 3) := by decide +kernel
theorem dL_bounce_16 : decode cL_bounce 16 = .ok (.astore 7, 2) := by decide +kernel
theorem dL_bounce_18 : decode cL_bounce 18 = .ok (.sipush (-7100), 3) := by decide +kernel
theorem dL_bounce_21 : decode cL_bounce 21 = .ok (.ireturn, 1) := by decide +kernel
theorem dL_bounce_22 : decode cL_bounce 22 = .ok (.astore 7, 2) := by decide +kernel
theorem dL_bounce_24 : decode cL_bounce 24 = .ok (.sipush (-7200), 3) := by decide +kernel
theorem dL_bounce_27 : decode cL_bounce 27 = .ok (.ireturn, 1) := by decide +kernel
theorem dL_bounce_28 : decode cL_bounce 28 = .ok (.astore 7, 2) := by decide +kernel
theorem dL_bounce_30 : decode cL_bounce 30 = .ok (.sipush (-7300), 3) := by decide +kernel
theorem dL_bounce_33 : decode cL_bounce 33 = .ok (.ireturn, 1) := by decide +kernel
theorem dL_bounce_34 : decode cL_bounce 34 = .ok (.iload 6, 2) := by decide +kernel
theorem dL_bounce_36 : decode cL_bounce 36 = .ok (.ireturn, 1) := by decide +kernel
set_option maxRecDepth 20000 in
theorem ggL_state_X6_state : GoodIn wsL_state wsX6_state := goodIn_ca (goodIn_ca (goodIn_ca (goodIn_r _ [8, 9, 10, 11, 12, 13, 7, 14, 15, 16, 17, 18, 19, 20, 21, 22, 23, 24, 25, 26, 27, 28, 29, 30, 31, 32, 33, 34, 35, 36, 37, 38, 39, 40, 41, 42, 43, 44, 45, 46, 47, 48, 49, 50, 51, 52, 53, 54, 55, 56, 57, 58, 59, 60, 61, 62, 63, 64, 65, 66, 67, 68, 69, 70, 71, 72, 73, 74, 75, 76, 77, 78, 79, 80, 81, 82, 83, 84, 85, 86, 87, 88, 89, 90, 91, 92, 93] (by decide +kernel) (by decide +kernel)) (goodIn_sub (fun _ h => List.mem_cons_of_mem _ (List.mem_append_left _ (List.mem_append_left _ (List.mem_append_right _ h)))) (by decide +kernel))) (goodIn_sub (fun _ h => List.mem_cons_of_mem _ (List.mem_append_left _ (List.mem_append_right _ h))) (by decide +kernel))) (goodIn_sub (fun _ h => List.mem_cons_of_mem _ (List.mem_append_right _ h)) (by decide +kernel))
set_option maxRecDepth 20000 in
theorem gL_state_X6_state : GoodIn wsL_state (wsV RL 37 RX6 yX6_state wsX6_state) := goodIn_app (goodIn_of _ (by decide +kernel)) ggL_state_X6_state
theorem dL_state_0 : decode cL_state 0 = .ok (.aload_n 0, 1) := by decide +kernel
theorem dL_state_1 : decode cL_state 1 = .ok (.iload_n 1, 1) := by decide +kernel
theorem dL_state_2 : decode cL_state 2 = .ok (.iload_n 2, 1) := by decide +kernel
theorem dL_state_3 : decode cL_state 3 = .ok (.iload_n 3, 1) := by decide +kernel
theorem dL_state_4 : decode cL_state 4 = .ok (.iload 4, 2) := by decide +kernel
theorem dL_state_6 : decode cL_state 6 = .ok (.iload 5, 2) := by decide +kernel
theorem dL_state_8 : decode cL_state 8 = .ok (.invokevirtual 37, 3) := by decide +kernel
theorem dL_state_11 : decode cL_state 11 = .ok (.istore 6, 2) := by decide +kernel
theorem dL_state_13 : decode cL_state 13 = .ok (.goto 21, 3) := by decide +kernel
theorem dL_state_16 : decode cL_state 16 = .ok (.astore 7, 2) := by decide +kernel
theorem dL_state_18 : decode cL_state 18 = .ok (.sipush (-7100), 3) := by decide +kernel
theorem dL_state_21 : decode cL_state 21 = .ok (.ireturn, 1) := by decide +kernel
theorem dL_state_22 : decode cL_state 22 = .ok (.astore 7, 2) := by decide +kernel
theorem dL_state_24 : decode cL_state 24 = .ok (.sipush (-7200), 3) := by decide +kernel
theorem dL_state_27 : decode cL_state 27 = .ok (.ireturn, 1) := by decide +kernel
theorem dL_state_28 : decode cL_state 28 = .ok (.astore 7, 2) := by decide +kernel
theorem dL_state_30 : decode cL_state 30 = .ok (.sipush (-7300), 3) := by decide +kernel
theorem dL_state_33 : decode cL_state 33 = .ok (.ireturn, 1) := by decide +kernel
theorem dL_state_34 : decode cL_state 34 = .ok (.iload 6, 2) := by decide +kernel
theorem dL_state_36 : decode cL_state 36 = .ok (.ireturn, 1) := by decide +kernel
set_option maxRecDepth 20000 in
theorem ggL_lamp_X6_lamp : GoodIn wsL_lamp wsX6_lamp := goodIn_ca (goodIn_ca (goodIn_r _ [7, 8, 9, 10, 11, 12, 6, 13, 14, 15, 16, 17, 18, 19, 20, 21, 22, 23, 24, 25, 26, 27, 28, 29, 30, 31, 32, 33, 34, 35, 36, 37, 38] (by decide +kernel) (by decide +kernel)) (goodIn_sub (fun _ h => List.mem_cons_of_mem _ (List.mem_append_left _ (List.mem_append_right _ h))) (by decide +kernel))) (goodIn_sub (fun _ h => List.mem_cons_of_mem _ (List.mem_append_right _ h)) (by decide +kernel))
set_option maxRecDepth 20000 in
theorem gL_lamp_X6_lamp : GoodIn wsL_lamp (wsV RL 40 RX6 yX6_lamp wsX6_lamp) := goodIn_app (goodIn_of _ (by decide +kernel)) ggL_lamp_X6_lamp
theorem dL_lamp_0 : decode cL_lamp 0 = .ok (.aload_n 0, 1) := by decide +kernel
theorem dL_lamp_1 : decode cL_lamp 1 = .ok (.iload_n 1, 1) := by decide +kernel
theorem dL_lamp_2 : decode cL_lamp 2 = .ok (.iload_n 2, 1) := by decide +kernel
theorem dL_lamp_3 : decode cL_lamp 3 = .ok (.invokevirtual 40, 3) := by decide +kernel
theorem dL_lamp_6 : decode cL_lamp 6 = .ok (.istore_n 3, 1) := by decide +kernel
theorem dL_lamp_7 : decode cL_lamp 7 = .ok (.goto 15, 3) := by decide +kernel
theorem dL_lamp_10 : decode cL_lamp 10 = .ok (.astore 4, 2) := by decide +kernel
theorem dL_lamp_12 : decode cL_lamp 12 = .ok (.sipush (-7100), 3) := by decide +kernel
theorem dL_lamp_15 : decode cL_lamp 15 = .ok (.ireturn, 1) := by decide +kernel
theorem dL_lamp_16 : decode cL_lamp 16 = .ok (.astore 4, 2) := by decide +kernel
theorem dL_lamp_18 : decode cL_lamp 18 = .ok (.sipush (-7300), 3) := by decide +kernel
theorem dL_lamp_21 : decode cL_lamp 21 = .ok (.ireturn, 1) := by decide +kernel
theorem dL_lamp_22 : decode cL_lamp 22 = .ok (.iload_n 3, 1) := by decide +kernel
theorem dL_lamp_23 : decode cL_lamp 23 = .ok (.ireturn, 1) := by decide +kernel
set_option maxRecDepth 20000 in
theorem ggL_sees_X6_sees : GoodIn wsL_sees wsX6_sees := goodIn_ca (goodIn_r _ [6, 7, 8, 9, 5, 10, 11, 12, 13, 14, 15, 16, 17, 18, 19, 20, 21, 22, 23, 24, 25, 26, 27, 28, 29, 30, 31, 32, 33, 34, 35, 36, 37, 38, 39, 40, 41, 42, 43, 44, 45] (by decide +kernel) (by decide +kernel)) (goodIn_sub (fun _ h => List.mem_cons_of_mem _ (List.mem_append_right _ h)) (by decide +kernel))
set_option maxRecDepth 20000 in
theorem gL_sees_X6_sees : GoodIn wsL_sees (wsV RL 44 RX6 yX6_sees wsX6_sees) := goodIn_app (goodIn_of _ (by decide +kernel)) ggL_sees_X6_sees
theorem dL_sees_0 : decode cL_sees 0 = .ok (.aload_n 0, 1) := by decide +kernel
theorem dL_sees_1 : decode cL_sees 1 = .ok (.iload_n 1, 1) := by decide +kernel
theorem dL_sees_2 : decode cL_sees 2 = .ok (.iload_n 2, 1) := by decide +kernel
theorem dL_sees_3 : decode cL_sees 3 = .ok (.iload_n 3, 1) := by decide +kernel
theorem dL_sees_4 : decode cL_sees 4 = .ok (.iload 4, 2) := by decide +kernel
theorem dL_sees_6 : decode cL_sees 6 = .ok (.invokevirtual 44, 3) := by decide +kernel
theorem dL_sees_9 : decode cL_sees 9 = .ok (.istore 5, 2) := by decide +kernel
theorem dL_sees_11 : decode cL_sees 11 = .ok (.goto 9, 3) := by decide +kernel
theorem dL_sees_14 : decode cL_sees 14 = .ok (.astore 6, 2) := by decide +kernel
theorem dL_sees_16 : decode cL_sees 16 = .ok (.sipush (-7100), 3) := by decide +kernel
theorem dL_sees_19 : decode cL_sees 19 = .ok (.ireturn, 1) := by decide +kernel
theorem dL_sees_20 : decode cL_sees 20 = .ok (.iload 5, 2) := by decide +kernel
theorem dL_sees_22 : decode cL_sees 22 = .ok (.ifCond .eq 7, 3) := by decide +kernel
theorem dL_sees_25 : decode cL_sees 25 = .ok (.iconst 1, 1) := by decide +kernel
theorem dL_sees_26 : decode cL_sees 26 = .ok (.goto 4, 3) := by decide +kernel
theorem dL_sees_29 : decode cL_sees 29 = .ok (.iconst 0, 1) := by decide +kernel
theorem dL_sees_30 : decode cL_sees 30 = .ok (.ireturn, 1) := by decide +kernel
set_option maxRecDepth 20000 in
theorem ggL_seesAnew_X6_seesAnew : GoodIn wsL_seesAnew wsX6_seesAnew := goodIn_ca (goodIn_r _ [6, 7, 8, 9, 5, 10, 11, 12, 13, 14, 15, 16, 17, 18, 19, 20, 21, 22, 23, 24, 25, 26, 27, 28, 29, 30, 31, 32, 33, 34, 35, 36, 37, 38, 39, 40] (by decide +kernel) (by decide +kernel)) (goodIn_sub (fun _ h => List.mem_cons_of_mem _ (List.mem_append_right _ h)) (by decide +kernel))
set_option maxRecDepth 20000 in
theorem gL_seesAnew_X6_seesAnew : GoodIn wsL_seesAnew (wsV RL 48 RX6 yX6_seesAnew wsX6_seesAnew) := goodIn_app (goodIn_of _ (by decide +kernel)) ggL_seesAnew_X6_seesAnew
theorem dL_seesAnew_0 : decode cL_seesAnew 0 = .ok (.aload_n 0, 1) := by decide +kernel
theorem dL_seesAnew_1 : decode cL_seesAnew 1 = .ok (.iload_n 1, 1) := by decide +kernel
theorem dL_seesAnew_2 : decode cL_seesAnew 2 = .ok (.iload_n 2, 1) := by decide +kernel
theorem dL_seesAnew_3 : decode cL_seesAnew 3 = .ok (.iload_n 3, 1) := by decide +kernel
theorem dL_seesAnew_4 : decode cL_seesAnew 4 = .ok (.iload 4, 2) := by decide +kernel
theorem dL_seesAnew_6 : decode cL_seesAnew 6 = .ok (.invokevirtual 48, 3) := by decide +kernel
theorem dL_seesAnew_9 : decode cL_seesAnew 9 = .ok (.istore 5, 2) := by decide +kernel
theorem dL_seesAnew_11 : decode cL_seesAnew 11 = .ok (.goto 9, 3) := by decide +kernel
theorem dL_seesAnew_14 : decode cL_seesAnew 14 = .ok (.astore 6, 2) := by decide +kernel
theorem dL_seesAnew_16 : decode cL_seesAnew 16 = .ok (.sipush (-7100), 3) := by decide +kernel
theorem dL_seesAnew_19 : decode cL_seesAnew 19 = .ok (.ireturn, 1) := by decide +kernel
theorem dL_seesAnew_20 : decode cL_seesAnew 20 = .ok (.iload 5, 2) := by decide +kernel
theorem dL_seesAnew_22 : decode cL_seesAnew 22 = .ok (.ifCond .eq 7, 3) := by decide +kernel
theorem dL_seesAnew_25 : decode cL_seesAnew 25 = .ok (.iconst 1, 1) := by decide +kernel
theorem dL_seesAnew_26 : decode cL_seesAnew 26 = .ok (.goto 4, 3) := by decide +kernel
theorem dL_seesAnew_29 : decode cL_seesAnew 29 = .ok (.iconst 0, 1) := by decide +kernel
theorem dL_seesAnew_30 : decode cL_seesAnew 30 = .ok (.ireturn, 1) := by decide +kernel
set_option maxRecDepth 20000 in
theorem ggL_surface_X6_surface : GoodIn wsL_surface wsX6_surface := goodIn_ca (goodIn_r _ [6, 7, 8, 9, 5, 10, 11, 12, 13, 14, 15, 16, 17, 18, 19, 20, 21, 22, 23, 24, 25, 26, 27, 28, 29, 30, 31, 32, 33, 34, 35, 36, 37, 38, 39, 40, 41, 42, 43, 44, 45, 46, 47, 48, 49, 50, 51, 52, 53, 54, 55, 56] (by decide +kernel) (by decide +kernel)) (goodIn_sub (fun _ h => List.mem_cons_of_mem _ (List.mem_append_right _ h)) (by decide +kernel))
set_option maxRecDepth 20000 in
theorem gL_surface_X6_surface : GoodIn wsL_surface (wsV RL 51 RX6 yX6_surface wsX6_surface) := goodIn_app (goodIn_of _ (by decide +kernel)) ggL_surface_X6_surface
theorem dL_surface_0 : decode cL_surface 0 = .ok (.aload_n 0, 1) := by decide +kernel
theorem dL_surface_1 : decode cL_surface 1 = .ok (.iload_n 1, 1) := by decide +kernel
theorem dL_surface_2 : decode cL_surface 2 = .ok (.invokevirtual 51, 3) := by decide +kernel
theorem dL_surface_5 : decode cL_surface 5 = .ok (.istore_n 2, 1) := by decide +kernel
theorem dL_surface_6 : decode cL_surface 6 = .ok (.goto 8, 3) := by decide +kernel
theorem dL_surface_9 : decode cL_surface 9 = .ok (.astore_n 3, 1) := by decide +kernel
theorem dL_surface_10 : decode cL_surface 10 = .ok (.sipush (-7200), 3) := by decide +kernel
theorem dL_surface_13 : decode cL_surface 13 = .ok (.ireturn, 1) := by decide +kernel
theorem dL_surface_14 : decode cL_surface 14 = .ok (.iload_n 2, 1) := by decide +kernel
theorem dL_surface_15 : decode cL_surface 15 = .ok (.ireturn, 1) := by decide +kernel
set_option maxRecDepth 20000 in
theorem ggL_glue_X6_glue : GoodIn wsL_glue wsX6_glue := goodIn_ca (goodIn_r _ [6, 7, 8, 9, 10, 11, 12, 13, 14, 15, 5, 16, 17, 18, 19, 20, 21, 22, 23, 24, 25, 26, 27, 28, 29, 30, 31, 32, 33, 34, 35, 36, 37, 38, 39, 40, 41, 42, 43, 44, 45, 46, 47, 48, 49, 50, 51, 52, 53, 54, 55, 56, 57, 58, 59, 60] (by decide +kernel) (by decide +kernel)) (goodIn_sub (fun _ h => List.mem_cons_of_mem _ (List.mem_append_right _ h)) (by decide +kernel))
set_option maxRecDepth 20000 in
theorem gL_glue_X6_glue : GoodIn wsL_glue (wsV RL 55 RX6 yX6_glue wsX6_glue) := goodIn_app (goodIn_of _ (by decide +kernel)) ggL_glue_X6_glue
theorem dL_glue_0 : decode cL_glue 0 = .ok (.aload_n 0, 1) := by decide +kernel
theorem dL_glue_1 : decode cL_glue 1 = .ok (.iload_n 1, 1) := by decide +kernel
theorem dL_glue_2 : decode cL_glue 2 = .ok (.iload_n 2, 1) := by decide +kernel
theorem dL_glue_3 : decode cL_glue 3 = .ok (.iload_n 3, 1) := by decide +kernel
theorem dL_glue_4 : decode cL_glue 4 = .ok (.invokevirtual 55, 3) := by decide +kernel
theorem dL_glue_7 : decode cL_glue 7 = .ok (.istore 4, 2) := by decide +kernel
theorem dL_glue_9 : decode cL_glue 9 = .ok (.goto 9, 3) := by decide +kernel
theorem dL_glue_12 : decode cL_glue 12 = .ok (.astore 5, 2) := by decide +kernel
theorem dL_glue_14 : decode cL_glue 14 = .ok (.sipush (-7100), 3) := by decide +kernel
theorem dL_glue_17 : decode cL_glue 17 = .ok (.ireturn, 1) := by decide +kernel
theorem dL_glue_18 : decode cL_glue 18 = .ok (.iload 4, 2) := by decide +kernel
theorem dL_glue_20 : decode cL_glue 20 = .ok (.ireturn, 1) := by decide +kernel
set_option maxRecDepth 20000 in
theorem ggL_square_X6_square : GoodIn wsL_square wsX6_square := goodIn_ca (goodIn_ca (goodIn_r _ [7, 8, 9, 10, 11, 12, 13, 14, 15, 16, 6, 17, 18, 19, 20, 21, 22, 23, 24, 25, 26, 27, 28, 29, 30, 31, 32, 33, 34, 35, 36, 37, 38, 39, 40, 41, 42, 43, 44, 45, 46, 47, 48, 49, 50, 51, 52, 53, 54, 55, 56, 57, 58, 59, 60, 61, 62, 63, 64, 65, 66, 67, 68, 69, 70, 71, 72, 73, 74, 75, 76, 77, 78, 79, 80, 81, 82, 83, 84, 85, 86, 87, 88, 89, 90, 91, 92] (by decide +kernel) (by decide +kernel)) (goodIn_sub (fun _ h => List.mem_cons_of_mem _ (List.mem_append_left _ (List.mem_append_right _ h))) (by decide +kernel))) (goodIn_sub (fun _ h => List.mem_cons_of_mem _ (List.mem_append_right _ h)) (by decide +kernel))
set_option maxRecDepth 20000 in
theorem gL_square_X6_square : GoodIn wsL_square (wsV RL 59 RX6 yX6_square wsX6_square) := goodIn_app (goodIn_of _ (by decide +kernel)) ggL_square_X6_square
theorem dL_square_0 : decode cL_square 0 = .ok (.aload_n 0, 1) := by decide +kernel
theorem dL_square_1 : decode cL_square 1 = .ok (.iload_n 1, 1) := by decide +kernel
theorem dL_square_2 : decode cL_square 2 = .ok (.iload_n 2, 1) := by decide +kernel
theorem dL_square_3 : decode cL_square 3 = .ok (.invokevirtual 59, 3) := by decide +kernel
theorem dL_square_6 : decode cL_square 6 = .ok (.istore_n 3, 1) := by decide +kernel
theorem dL_square_7 : decode cL_square 7 = .ok (.goto 15, 3) := by decide +kernel
theorem dL_square_10 : decode cL_square 10 = .ok (.astore 4, 2) := by decide +kernel
theorem dL_square_12 : decode cL_square 12 = .ok (.sipush (-7100), 3) := by decide +kernel
theorem dL_square_15 : decode cL_square 15 = .ok (.ireturn, 1) := by decide +kernel
theorem dL_square_16 : decode cL_square 16 = .ok (.astore 4, 2) := by decide +kernel
theorem dL_square_18 : decode cL_square 18 = .ok (.sipush (-7200), 3) := by decide +kernel
theorem dL_square_21 : decode cL_square 21 = .ok (.ireturn, 1) := by decide +kernel
theorem dL_square_22 : decode cL_square 22 = .ok (.iload_n 3, 1) := by decide +kernel
theorem dL_square_23 : decode cL_square 23 = .ok (.ireturn, 1) := by decide +kernel
set_option maxRecDepth 20000 in
theorem ggL_count_X6_count : GoodIn wsL_count wsX6_count := goodIn_ca (goodIn_r _ [6, 7, 8, 9, 5, 10, 11, 12, 13, 14, 15, 16, 17, 18, 19, 20, 21, 22, 23, 24, 25, 26, 27, 28, 29, 30, 31, 32, 33, 34, 35, 36, 37, 38, 39, 40, 41, 42, 43, 44, 45, 46, 47, 48, 49, 50, 51, 52, 53, 54, 55, 56, 57, 58, 59, 60, 61, 62, 63, 64, 65, 66, 67, 68, 69] (by decide +kernel) (by decide +kernel)) (goodIn_sub (fun _ h => List.mem_cons_of_mem _ (List.mem_append_right _ h)) (by decide +kernel))
set_option maxRecDepth 20000 in
theorem gL_count_X6_count : GoodIn wsL_count (wsV RL 62 RX6 yX6_count wsX6_count) := goodIn_app (goodIn_of _ (by decide +kernel)) ggL_count_X6_count
theorem dL_count_0 : decode cL_count 0 = .ok (.aload_n 0, 1) := by decide +kernel
theorem dL_count_1 : decode cL_count 1 = .ok (.iload_n 1, 1) := by decide +kernel
theorem dL_count_2 : decode cL_count 2 = .ok (.invokevirtual 62, 3) := by decide +kernel
theorem dL_count_5 : decode cL_count 5 = .ok (.istore_n 2, 1) := by decide +kernel
theorem dL_count_6 : decode cL_count 6 = .ok (.goto 8, 3) := by decide +kernel
theorem dL_count_9 : decode cL_count 9 = .ok (.astore_n 3, 1) := by decide +kernel
theorem dL_count_10 : decode cL_count 10 = .ok (.sipush (-7200), 3) := by decide +kernel
theorem dL_count_13 : decode cL_count 13 = .ok (.ireturn, 1) := by decide +kernel
theorem dL_count_14 : decode cL_count 14 = .ok (.iload_n 2, 1) := by decide +kernel
theorem dL_count_15 : decode cL_count 15 = .ok (.ireturn, 1) := by decide +kernel
set_option maxRecDepth 20000 in
theorem ggL_genus_X6_genus : GoodIn wsL_genus wsX6_genus := goodIn_ca (goodIn_r _ [6, 7, 8, 9, 10, 11, 12, 13, 14, 15, 16, 17, 18, 19, 20, 21, 22, 23, 24, 25, 26, 27, 28, 29, 30, 31, 32, 5, 33, 34, 35, 36, 37, 38, 39, 40, 41, 42, 43, 44, 45, 46, 47, 48, 49, 50, 51, 52, 53, 54, 55, 56, 57, 58, 59, 60, 61, 62, 63, 64, 65, 66] (by decide +kernel) (by decide +kernel)) (goodIn_sub (fun _ h => List.mem_cons_of_mem _ (List.mem_append_right _ h)) (by decide +kernel))
set_option maxRecDepth 20000 in
theorem gL_genus_X6_genus : GoodIn wsL_genus (wsV RL 65 RX6 yX6_genus wsX6_genus) := goodIn_app (goodIn_of _ (by decide +kernel)) ggL_genus_X6_genus
theorem dL_genus_0 : decode cL_genus 0 = .ok (.aload_n 0, 1) := by decide +kernel
theorem dL_genus_1 : decode cL_genus 1 = .ok (.invokevirtual 65, 3) := by decide +kernel
theorem dL_genus_4 : decode cL_genus 4 = .ok (.istore_n 1, 1) := by decide +kernel
theorem dL_genus_5 : decode cL_genus 5 = .ok (.goto 8, 3) := by decide +kernel
theorem dL_genus_8 : decode cL_genus 8 = .ok (.astore_n 2, 1) := by decide +kernel
theorem dL_genus_9 : decode cL_genus 9 = .ok (.sipush (-7300), 3) := by decide +kernel
theorem dL_genus_12 : decode cL_genus 12 = .ok (.ireturn, 1) := by decide +kernel
theorem dL_genus_13 : decode cL_genus 13 = .ok (.iload_n 1, 1) := by decide +kernel
theorem dL_genus_14 : decode cL_genus 14 = .ok (.ireturn, 1) := by decide +kernel
set_option maxRecDepth 20000 in
theorem ggL_interval_X6_interval : GoodIn wsL_interval wsX6_interval := goodIn_ca (goodIn_ca (goodIn_r _ [7, 8, 9, 10, 11, 12, 6, 13, 14, 15, 16, 17, 18, 19, 20, 21, 22, 23, 24, 25, 26, 27, 28, 29, 30, 31, 32, 33, 34, 35, 36, 37, 38, 39, 40] (by decide +kernel) (by decide +kernel)) (goodIn_sub (fun _ h => List.mem_cons_of_mem _ (List.mem_append_left _ (List.mem_append_right _ h))) (by decide +kernel))) (goodIn_sub (fun _ h => List.mem_cons_of_mem _ (List.mem_append_right _ h)) (by decide +kernel))
set_option maxRecDepth 20000 in
theorem gL_interval_X6_interval : GoodIn wsL_interval (wsV RL 69 RX6 yX6_interval wsX6_interval) := goodIn_app (goodIn_of _ (by decide +kernel)) ggL_interval_X6_interval
theorem dL_interval_0 : decode cL_interval 0 = .ok (.aload_n 0, 1) := by decide +kernel
theorem dL_interval_1 : decode cL_interval 1 = .ok (.iload_n 1, 1) := by decide +kernel
theorem dL_interval_2 : decode cL_interval 2 = .ok (.invokevirtual 69, 3) := by decide +kernel
theorem dL_interval_5 : decode cL_interval 5 = .ok (.istore_n 2, 1) := by decide +kernel
theorem dL_interval_6 : decode cL_interval 6 = .ok (.goto 13, 3) := by decide +kernel
theorem dL_interval_9 : decode cL_interval 9 = .ok (.astore_n 3, 1) := by decide +kernel
theorem dL_interval_10 : decode cL_interval 10 = .ok (.sipush (-7200), 3) := by decide +kernel
theorem dL_interval_13 : decode cL_interval 13 = .ok (.ireturn, 1) := by decide +kernel
theorem dL_interval_14 : decode cL_interval 14 = .ok (.astore_n 3, 1) := by decide +kernel
theorem dL_interval_15 : decode cL_interval 15 = .ok (.sipush (-7300), 3) := by decide +kernel
theorem dL_interval_18 : decode cL_interval 18 = .ok (.ireturn, 1) := by decide +kernel
theorem dL_interval_19 : decode cL_interval 19 = .ok (.iload_n 2, 1) := by decide +kernel
theorem dL_interval_20 : decode cL_interval 20 = .ok (.ireturn, 1) := by decide +kernel
set_option maxRecDepth 20000 in
theorem ggL_swap_X6_swap : GoodIn wsL_swap wsX6_swap := goodIn_ca (goodIn_r _ [6, 7, 8, 9, 10, 11, 12, 13, 14, 15, 5, 16, 17, 18, 19, 20, 21, 22, 23, 24, 25, 26, 27, 28, 29, 30, 31, 32, 33, 34, 35, 36, 37, 38, 39, 40, 41] (by decide +kernel) (by decide +kernel)) (goodIn_sub (fun _ h => List.mem_cons_of_mem _ (List.mem_append_right _ h)) (by decide +kernel))
set_option maxRecDepth 20000 in
theorem gL_swap_X6_swap : GoodIn wsL_swap (wsV RL 72 RX6 yX6_swap wsX6_swap) := goodIn_app (goodIn_of _ (by decide +kernel)) ggL_swap_X6_swap
theorem dL_swap_0 : decode cL_swap 0 = .ok (.aload_n 0, 1) := by decide +kernel
theorem dL_swap_1 : decode cL_swap 1 = .ok (.iload_n 1, 1) := by decide +kernel
theorem dL_swap_2 : decode cL_swap 2 = .ok (.iload_n 2, 1) := by decide +kernel
theorem dL_swap_3 : decode cL_swap 3 = .ok (.invokevirtual 72, 3) := by decide +kernel
theorem dL_swap_6 : decode cL_swap 6 = .ok (.istore_n 3, 1) := by decide +kernel
theorem dL_swap_7 : decode cL_swap 7 = .ok (.goto 9, 3) := by decide +kernel
theorem dL_swap_10 : decode cL_swap 10 = .ok (.astore 4, 2) := by decide +kernel
theorem dL_swap_12 : decode cL_swap 12 = .ok (.sipush (-7100), 3) := by decide +kernel
theorem dL_swap_15 : decode cL_swap 15 = .ok (.ireturn, 1) := by decide +kernel
theorem dL_swap_16 : decode cL_swap 16 = .ok (.iload_n 3, 1) := by decide +kernel
theorem dL_swap_17 : decode cL_swap 17 = .ok (.ireturn, 1) := by decide +kernel
set_option maxRecDepth 20000 in
theorem ggL_induce_X6_induce : GoodIn wsL_induce wsX6_induce := goodIn_ca (goodIn_r _ [6, 7, 8, 9, 10, 11, 12, 13, 14, 15, 16, 17, 18, 19, 5, 20, 21, 22, 23, 24, 25, 26, 27, 28, 29, 30, 31, 32, 33, 34, 35, 36, 37, 38, 39, 40, 41, 42, 43, 44, 45, 46, 47] (by decide +kernel) (by decide +kernel)) (goodIn_sub (fun _ h => List.mem_cons_of_mem _ (List.mem_append_right _ h)) (by decide +kernel))
set_option maxRecDepth 20000 in
theorem gL_induce_X6_induce : GoodIn wsL_induce (wsV RL 75 RX6 yX6_induce wsX6_induce) := goodIn_app (goodIn_of _ (by decide +kernel)) ggL_induce_X6_induce
theorem dL_induce_0 : decode cL_induce 0 = .ok (.aload_n 0, 1) := by decide +kernel
theorem dL_induce_1 : decode cL_induce 1 = .ok (.invokevirtual 75, 3) := by decide +kernel
theorem dL_induce_4 : decode cL_induce 4 = .ok (.istore_n 1, 1) := by decide +kernel
theorem dL_induce_5 : decode cL_induce 5 = .ok (.goto 8, 3) := by decide +kernel
theorem dL_induce_8 : decode cL_induce 8 = .ok (.astore_n 2, 1) := by decide +kernel
theorem dL_induce_9 : decode cL_induce 9 = .ok (.sipush (-7300), 3) := by decide +kernel
theorem dL_induce_12 : decode cL_induce 12 = .ok (.ireturn, 1) := by decide +kernel
theorem dL_induce_13 : decode cL_induce 13 = .ok (.iload_n 1, 1) := by decide +kernel
theorem dL_induce_14 : decode cL_induce 14 = .ok (.ireturn, 1) := by decide +kernel
set_option maxRecDepth 20000 in
theorem ggL_told_X6_told : GoodIn wsL_told wsX6_told := goodIn_ca (goodIn_ca (goodIn_r _ [7, 8, 9, 10, 11, 12, 13, 14, 15, 16, 6, 17, 18, 19, 20, 21, 22, 23, 24, 25, 26, 27, 28, 29, 30, 31, 32, 33, 34, 35, 36, 37, 38, 39, 40, 41, 42, 43, 44, 45, 46, 47, 48, 49, 50, 51] (by decide +kernel) (by decide +kernel)) (goodIn_sub (fun _ h => List.mem_cons_of_mem _ (List.mem_append_left _ (List.mem_append_right _ h))) (by decide +kernel))) (goodIn_sub (fun _ h => List.mem_cons_of_mem _ (List.mem_append_right _ h)) (by decide +kernel))
set_option maxRecDepth 20000 in
theorem gL_told_X6_told : GoodIn wsL_told (wsV RL 78 RX6 yX6_told wsX6_told) := goodIn_app (goodIn_of _ (by decide +kernel)) ggL_told_X6_told
theorem dL_told_0 : decode cL_told 0 = .ok (.aload_n 0, 1) := by decide +kernel
theorem dL_told_1 : decode cL_told 1 = .ok (.iload_n 1, 1) := by decide +kernel
theorem dL_told_2 : decode cL_told 2 = .ok (.iload_n 2, 1) := by decide +kernel
theorem dL_told_3 : decode cL_told 3 = .ok (.invokevirtual 78, 3) := by decide +kernel
theorem dL_told_6 : decode cL_told 6 = .ok (.istore_n 3, 1) := by decide +kernel
theorem dL_told_7 : decode cL_told 7 = .ok (.goto 15, 3) := by decide +kernel
theorem dL_told_10 : decode cL_told 10 = .ok (.astore 4, 2) := by decide +kernel
theorem dL_told_12 : decode cL_told 12 = .ok (.sipush (-7100), 3) := by decide +kernel
theorem dL_told_15 : decode cL_told 15 = .ok (.ireturn, 1) := by decide +kernel
theorem dL_told_16 : decode cL_told 16 = .ok (.astore 4, 2) := by decide +kernel
theorem dL_told_18 : decode cL_told 18 = .ok (.sipush (-7200), 3) := by decide +kernel
theorem dL_told_21 : decode cL_told 21 = .ok (.ireturn, 1) := by decide +kernel
theorem dL_told_22 : decode cL_told 22 = .ok (.iload_n 3, 1) := by decide +kernel
theorem dL_told_23 : decode cL_told 23 = .ok (.ireturn, 1) := by decide +kernel
set_option maxRecDepth 20000 in
theorem ggL_image_X6_image : GoodIn wsL_image wsX6_image := goodIn_ca (goodIn_r _ [6, 7, 8, 9, 10, 11, 12, 13, 14, 15, 5, 16, 17, 18, 19, 20, 21, 22, 23, 24, 25, 26, 27, 28, 29, 30, 31, 32, 33, 34, 35, 36, 37, 38, 39, 40, 41, 42, 43, 44, 45] (by decide +kernel) (by decide +kernel)) (goodIn_sub (fun _ h => List.mem_cons_of_mem _ (List.mem_append_right _ h)) (by decide +kernel))
set_option maxRecDepth 20000 in
theorem gL_image_X6_image : GoodIn wsL_image (wsV RL 81 RX6 yX6_image wsX6_image) := goodIn_app (goodIn_of _ (by decide +kernel)) ggL_image_X6_image
theorem dL_image_0 : decode cL_image 0 = .ok (.aload_n 0, 1) := by decide +kernel
theorem dL_image_1 : decode cL_image 1 = .ok (.iload_n 1, 1) := by decide +kernel
theorem dL_image_2 : decode cL_image 2 = .ok (.invokevirtual 81, 3) := by decide +kernel
theorem dL_image_5 : decode cL_image 5 = .ok (.istore_n 2, 1) := by decide +kernel
theorem dL_image_6 : decode cL_image 6 = .ok (.goto 8, 3) := by decide +kernel
theorem dL_image_9 : decode cL_image 9 = .ok (.astore_n 3, 1) := by decide +kernel
theorem dL_image_10 : decode cL_image 10 = .ok (.sipush (-7100), 3) := by decide +kernel
theorem dL_image_13 : decode cL_image 13 = .ok (.ireturn, 1) := by decide +kernel
theorem dL_image_14 : decode cL_image 14 = .ok (.iload_n 2, 1) := by decide +kernel
theorem dL_image_15 : decode cL_image 15 = .ok (.ireturn, 1) := by decide +kernel
set_option maxRecDepth 20000 in
theorem ggL_back_X6_back : GoodIn wsL_back wsX6_back := goodIn_ca (goodIn_r _ [6, 7, 8, 9, 10, 11, 12, 13, 14, 15, 5, 16, 17, 18, 19, 20, 21, 22, 23, 24, 25, 26, 27, 28, 29, 30, 31, 32, 33, 34, 35, 36, 37, 38, 39, 40, 41, 42, 43, 44, 45] (by decide +kernel) (by decide +kernel)) (goodIn_sub (fun _ h => List.mem_cons_of_mem _ (List.mem_append_right _ h)) (by decide +kernel))
set_option maxRecDepth 20000 in
theorem gL_back_X6_back : GoodIn wsL_back (wsV RL 84 RX6 yX6_back wsX6_back) := goodIn_app (goodIn_of _ (by decide +kernel)) ggL_back_X6_back
theorem dL_back_0 : decode cL_back 0 = .ok (.aload_n 0, 1) := by decide +kernel
theorem dL_back_1 : decode cL_back 1 = .ok (.iload_n 1, 1) := by decide +kernel
theorem dL_back_2 : decode cL_back 2 = .ok (.invokevirtual 84, 3) := by decide +kernel
theorem dL_back_5 : decode cL_back 5 = .ok (.istore_n 2, 1) := by decide +kernel
theorem dL_back_6 : decode cL_back 6 = .ok (.goto 8, 3) := by decide +kernel
theorem dL_back_9 : decode cL_back 9 = .ok (.astore_n 3, 1) := by decide +kernel
theorem dL_back_10 : decode cL_back 10 = .ok (.sipush (-7100), 3) := by decide +kernel
theorem dL_back_13 : decode cL_back 13 = .ok (.ireturn, 1) := by decide +kernel
theorem dL_back_14 : decode cL_back 14 = .ok (.iload_n 2, 1) := by decide +kernel
theorem dL_back_15 : decode cL_back 15 = .ok (.ireturn, 1) := by decide +kernel
set_option maxRecDepth 20000 in
theorem ggL_cycle_X6_cycle : GoodIn wsL_cycle wsX6_cycle := goodIn_ca (goodIn_r _ [6, 7, 8, 9, 10, 11, 12, 13, 14, 15, 5, 16, 17, 18, 19, 20, 21, 22, 23, 24, 25, 26, 27, 28, 29, 30, 31, 32, 33, 34, 35, 36, 37, 38, 39, 40, 41, 42, 43, 44, 45, 46, 47, 48, 49] (by decide +kernel) (by decide +kernel)) (goodIn_sub (fun _ h => List.mem_cons_of_mem _ (List.mem_append_right _ h)) (by decide +kernel))
set_option maxRecDepth 20000 in
theorem gL_cycle_X6_cycle : GoodIn wsL_cycle (wsV RL 87 RX6 yX6_cycle wsX6_cycle) := goodIn_app (goodIn_of _ (by decide +kernel)) ggL_cycle_X6_cycle
theorem dL_cycle_0 : decode cL_cycle 0 = .ok (.aload_n 0, 1) := by decide +kernel
theorem dL_cycle_1 : decode cL_cycle 1 = .ok (.iload_n 1, 1) := by decide +kernel
theorem dL_cycle_2 : decode cL_cycle 2 = .ok (.invokevirtual 87, 3) := by decide +kernel
theorem dL_cycle_5 : decode cL_cycle 5 = .ok (.istore_n 2, 1) := by decide +kernel
theorem dL_cycle_6 : decode cL_cycle 6 = .ok (.goto 8, 3) := by decide +kernel
theorem dL_cycle_9 : decode cL_cycle 9 = .ok (.astore_n 3, 1) := by decide +kernel
theorem dL_cycle_10 : decode cL_cycle 10 = .ok (.sipush (-7100), 3) := by decide +kernel
theorem dL_cycle_13 : decode cL_cycle 13 = .ok (.ireturn, 1) := by decide +kernel
theorem dL_cycle_14 : decode cL_cycle 14 = .ok (.iload_n 2, 1) := by decide +kernel
theorem dL_cycle_15 : decode cL_cycle 15 = .ok (.ireturn, 1) := by decide +kernel
theorem dL_isFloor_0 : decode cL_isFloor 0 = .ok (.iload_n 0, 1) := by decide +kernel
theorem dL_isFloor_1 : decode cL_isFloor 1 = .ok (.ifCond .lt 38, 3) := by decide +kernel
theorem dL_isFloor_4 : decode cL_isFloor 4 = .ok (.iload_n 1, 1) := by decide +kernel
theorem dL_isFloor_5 : decode cL_isFloor 5 = .ok (.ifCond .lt 34, 3) := by decide +kernel
theorem dL_isFloor_8 : decode cL_isFloor 8 = .ok (.iload_n 0, 1) := by decide +kernel
theorem dL_isFloor_9 : decode cL_isFloor 9 = .ok (.bipush 8, 2) := by decide +kernel
theorem dL_isFloor_11 : decode cL_isFloor 11 = .ok (.if_icmp .ge 28, 3) := by decide +kernel
theorem dL_isFloor_14 : decode cL_isFloor 14 = .ok (.iload_n 1, 1) := by decide +kernel
theorem dL_isFloor_15 : decode cL_isFloor 15 = .ok (.bipush 8, 2) := by decide +kernel
theorem dL_isFloor_17 : decode cL_isFloor 17 = .ok (.if_icmp .ge 22, 3) := by decide +kernel
theorem dL_isFloor_20 : decode cL_isFloor 20 = .ok (.lload_n 2, 1) := by decide +kernel
theorem dL_isFloor_21 : decode cL_isFloor 21 = .ok (.bipush 8, 2) := by decide +kernel
theorem dL_isFloor_23 : decode cL_isFloor 23 = .ok (.iload_n 1, 1) := by decide +kernel
theorem dL_isFloor_24 : decode cL_isFloor 24 = .ok (.imul, 1) := by decide +kernel
theorem dL_isFloor_25 : decode cL_isFloor 25 = .ok (.iload_n 0, 1) := by decide +kernel
theorem dL_isFloor_26 : decode cL_isFloor 26 = .ok (.iadd, 1) := by decide +kernel
theorem dL_isFloor_27 : decode cL_isFloor 27 = .ok (.lshr, 1) := by decide +kernel
theorem dL_isFloor_28 : decode cL_isFloor 28 = .ok (.lconst 1, 1) := by decide +kernel
theorem dL_isFloor_29 : decode cL_isFloor 29 = .ok (.land, 1) := by decide +kernel
theorem dL_isFloor_30 : decode cL_isFloor 30 = .ok (.lconst 0, 1) := by decide +kernel
theorem dL_isFloor_31 : decode cL_isFloor 31 = .ok (.lcmp, 1) := by decide +kernel
theorem dL_isFloor_32 : decode cL_isFloor 32 = .ok (.ifCond .ne 7, 3) := by decide +kernel
theorem dL_isFloor_35 : decode cL_isFloor 35 = .ok (.iconst 1, 1) := by decide +kernel
theorem dL_isFloor_36 : decode cL_isFloor 36 = .ok (.goto 4, 3) := by decide +kernel
theorem dL_isFloor_39 : decode cL_isFloor 39 = .ok (.iconst 0, 1) := by decide +kernel
theorem dL_isFloor_40 : decode cL_isFloor 40 = .ok (.ireturn, 1) := by decide +kernel
theorem dL_begins_0 : decode cL_begins 0 = .ok (.iload_n 0, 1) := by decide +kernel
theorem dL_begins_1 : decode cL_begins 1 = .ok (.bipush 6, 2) := by decide +kernel
theorem dL_begins_3 : decode cL_begins 3 = .ok (.ishr, 1) := by decide +kernel
theorem dL_begins_4 : decode cL_begins 4 = .ok (.iconst 3, 1) := by decide +kernel
theorem dL_begins_5 : decode cL_begins 5 = .ok (.iand, 1) := by decide +kernel
theorem dL_begins_6 : decode cL_begins 6 = .ok (.istore_n 2, 1) := by decide +kernel
theorem dL_begins_7 : decode cL_begins 7 = .ok (.iload_n 0, 1) := by decide +kernel
theorem dL_begins_8 : decode cL_begins 8 = .ok (.sipush 255, 3) := by decide +kernel
theorem dL_begins_11 : decode cL_begins 11 = .ok (.if_icmp .le 7, 3) := by decide +kernel
theorem dL_begins_14 : decode cL_begins 14 = .ok (.iconst 1, 1) := by decide +kernel
theorem dL_begins_15 : decode cL_begins 15 = .ok (.goto 4, 3) := by decide +kernel
theorem dL_begins_18 : decode cL_begins 18 = .ok (.iconst (-1), 1) := by decide +kernel
theorem dL_begins_19 : decode cL_begins 19 = .ok (.istore_n 3, 1) := by decide +kernel
theorem dL_begins_20 : decode cL_begins 20 = .ok (.iload_n 2, 1) := by decide +kernel
theorem dL_begins_21 : decode cL_begins 21 = .ok (.ifCond .eq 8, 3) := by decide +kernel
theorem dL_begins_24 : decode cL_begins 24 = .ok (.iload_n 2, 1) := by decide +kernel
theorem dL_begins_25 : decode cL_begins 25 = .ok (.iconst 2, 1) := by decide +kernel
theorem dL_begins_26 : decode cL_begins 26 = .ok (.if_icmp .ne 7, 3) := by decide +kernel
theorem dL_begins_29 : decode cL_begins 29 = .ok (.iconst 1, 1) := by decide +kernel
theorem dL_begins_30 : decode cL_begins 30 = .ok (.goto 4, 3) := by decide +kernel
theorem dL_begins_33 : decode cL_begins 33 = .ok (.iconst 0, 1) := by decide +kernel
theorem dL_begins_34 : decode cL_begins 34 = .ok (.istore 4, 2) := by decide +kernel
theorem dL_begins_36 : decode cL_begins 36 = .ok (.aload_n 1, 1) := by decide +kernel
theorem dL_begins_37 : decode cL_begins 37 = .ok (.iconst 0, 1) := by decide +kernel
theorem dL_begins_38 : decode cL_begins 38 = .ok (.iconst 2, 1) := by decide +kernel
theorem dL_begins_39 : decode cL_begins 39 = .ok (.iload_n 0, 1) := by decide +kernel
theorem dL_begins_40 : decode cL_begins 40 = .ok (.bipush 7, 2) := by decide +kernel
theorem dL_begins_42 : decode cL_begins 42 = .ok (.iand, 1) := by decide +kernel
theorem dL_begins_43 : decode cL_begins 43 = .ok (.imul, 1) := by decide +kernel
theorem dL_begins_44 : decode cL_begins 44 = .ok (.iload_n 2, 1) := by decide +kernel
theorem dL_begins_45 : decode cL_begins 45 = .ok (.ifCond .ne 7, 3) := by decide +kernel
theorem dL_begins_48 : decode cL_begins 48 = .ok (.iconst 0, 1) := by decide +kernel
theorem dL_begins_49 : decode cL_begins 49 = .ok (.goto 13, 3) := by decide +kernel
theorem dL_begins_52 : decode cL_begins 52 = .ok (.iload_n 2, 1) := by decide +kernel
theorem dL_begins_53 : decode cL_begins 53 = .ok (.iconst 2, 1) := by decide +kernel
theorem dL_begins_54 : decode cL_begins 54 = .ok (.if_icmp .ne 7, 3) := by decide +kernel
theorem dL_begins_57 : decode cL_begins 57 = .ok (.iconst 2, 1) := by decide +kernel
theorem dL_begins_58 : decode cL_begins 58 = .ok (.goto 4, 3) := by decide +kernel
theorem dL_begins_61 : decode cL_begins 61 = .ok (.iconst 1, 1) := by decide +kernel
theorem dL_begins_62 : decode cL_begins 62 = .ok (.iadd, 1) := by decide +kernel
theorem dL_begins_63 : decode cL_begins 63 = .ok (.iastore, 1) := by decide +kernel
theorem dL_begins_64 : decode cL_begins 64 = .ok (.aload_n 1, 1) := by decide +kernel
theorem dL_begins_65 : decode cL_begins 65 = .ok (.iconst 1, 1) := by decide +kernel
theorem dL_begins_66 : decode cL_begins 66 = .ok (.iconst 2, 1) := by decide +kernel
theorem dL_begins_67 : decode cL_begins 67 = .ok (.iload_n 0, 1) := by decide +kernel
theorem dL_begins_68 : decode cL_begins 68 = .ok (.iconst 3, 1) := by decide +kernel
theorem dL_begins_69 : decode cL_begins 69 = .ok (.ishr, 1) := by decide +kernel
theorem dL_begins_70 : decode cL_begins 70 = .ok (.bipush 7, 2) := by decide +kernel
theorem dL_begins_72 : decode cL_begins 72 = .ok (.iand, 1) := by decide +kernel
theorem dL_begins_73 : decode cL_begins 73 = .ok (.imul, 1) := by decide +kernel
theorem dL_begins_74 : decode cL_begins 74 = .ok (.iload_n 2, 1) := by decide +kernel
theorem dL_begins_75 : decode cL_begins 75 = .ok (.iconst 1, 1) := by decide +kernel
theorem dL_begins_76 : decode cL_begins 76 = .ok (.if_icmp .ne 7, 3) := by decide +kernel
theorem dL_begins_79 : decode cL_begins 79 = .ok (.iconst 0, 1) := by decide +kernel
theorem dL_begins_80 : decode cL_begins 80 = .ok (.goto 13, 3) := by decide +kernel
theorem dL_begins_83 : decode cL_begins 83 = .ok (.iload_n 2, 1) := by decide +kernel
theorem dL_begins_84 : decode cL_begins 84 = .ok (.iconst 3, 1) := by decide +kernel
theorem dL_begins_85 : decode cL_begins 85 = .ok (.if_icmp .ne 7, 3) := by decide +kernel
theorem dL_begins_88 : decode cL_begins 88 = .ok (.iconst 2, 1) := by decide +kernel
theorem dL_begins_89 : decode cL_begins 89 = .ok (.goto 4, 3) := by decide +kernel
theorem dL_begins_92 : decode cL_begins 92 = .ok (.iconst 1, 1) := by decide +kernel
theorem dL_begins_93 : decode cL_begins 93 = .ok (.iadd, 1) := by decide +kernel
theorem dL_begins_94 : decode cL_begins 94 = .ok (.iastore, 1) := by decide +kernel
theorem dL_begins_95 : decode cL_begins 95 = .ok (.aload_n 1, 1) := by decide +kernel
theorem dL_begins_96 : decode cL_begins 96 = .ok (.iconst 2, 1) := by decide +kernel
theorem dL_begins_97 : decode cL_begins 97 = .ok (.iload 4, 2) := by decide +kernel
theorem dL_begins_99 : decode cL_begins 99 = .ok (.ifCond .eq 15, 3) := by decide +kernel
theorem dL_begins_102 : decode cL_begins 102 = .ok (.iload_n 2, 1) := by decide +kernel
theorem dL_begins_103 : decode cL_begins 103 = .ok (.ifCond .ne 7, 3) := by decide +kernel
theorem dL_begins_106 : decode cL_begins 106 = .ok (.iconst 1, 1) := by decide +kernel
theorem dL_begins_107 : decode cL_begins 107 = .ok (.goto 8, 3) := by decide +kernel
theorem dL_begins_110 : decode cL_begins 110 = .ok (.iconst (-1), 1) := by decide +kernel
theorem dL_begins_111 : decode cL_begins 111 = .ok (.goto 4, 3) := by decide +kernel
theorem dL_begins_114 : decode cL_begins 114 = .ok (.iload_n 3, 1) := by decide +kernel
theorem dL_begins_115 : decode cL_begins 115 = .ok (.iastore, 1) := by decide +kernel
theorem dL_begins_116 : decode cL_begins 116 = .ok (.aload_n 1, 1) := by decide +kernel
theorem dL_begins_117 : decode cL_begins 117 = .ok (.iconst 3, 1) := by decide +kernel
theorem dL_begins_118 : decode cL_begins 118 = .ok (.iload 4, 2) := by decide +kernel
theorem dL_begins_120 : decode cL_begins 120 = .ok (.ifCond .eq 7, 3) := by decide +kernel
theorem dL_begins_123 : decode cL_begins 123 = .ok (.iload_n 3, 1) := by decide +kernel
theorem dL_begins_124 : decode cL_begins 124 = .ok (.goto 13, 3) := by decide +kernel
theorem dL_begins_127 : decode cL_begins 127 = .ok (.iload_n 2, 1) := by decide +kernel
theorem dL_begins_128 : decode cL_begins 128 = .ok (.iconst 1, 1) := by decide +kernel
theorem dL_begins_129 : decode cL_begins 129 = .ok (.if_icmp .ne 7, 3) := by decide +kernel
theorem dL_begins_132 : decode cL_begins 132 = .ok (.iconst 1, 1) := by decide +kernel
theorem dL_begins_133 : decode cL_begins 133 = .ok (.goto 4, 3) := by decide +kernel
theorem dL_begins_136 : decode cL_begins 136 = .ok (.iconst (-1), 1) := by decide +kernel
theorem dL_begins_137 : decode cL_begins 137 = .ok (.iastore, 1) := by decide +kernel
theorem dL_begins_138 : decode cL_begins 138 = .ok (.aload_n 1, 1) := by decide +kernel
theorem dL_begins_139 : decode cL_begins 139 = .ok (.iconst 4, 1) := by decide +kernel
theorem dL_begins_140 : decode cL_begins 140 = .ok (.iconst 0, 1) := by decide +kernel
theorem dL_begins_141 : decode cL_begins 141 = .ok (.iastore, 1) := by decide +kernel
theorem dL_begins_142 : decode cL_begins 142 = .ok (.aload_n 1, 1) := by decide +kernel
theorem dL_begins_143 : decode cL_begins 143 = .ok (.iconst 5, 1) := by decide +kernel
theorem dL_begins_144 : decode cL_begins 144 = .ok (.iconst 0, 1) := by decide +kernel
theorem dL_begins_145 : decode cL_begins 145 = .ok (.iastore, 1) := by decide +kernel
theorem dL_begins_146 : decode cL_begins 146 = .ok (.return_, 1) := by decide +kernel
set_option maxRecDepth 20000 in
theorem ggL_goes_L_isFloor : GoodIn wsL_goes wsL_isFloor := goodIn_r _ [4] (by decide +kernel) (by decide +kernel)
set_option maxRecDepth 20000 in
theorem gL_goes_L_isFloor : GoodIn wsL_goes (va_wsS RL 92 yL_isFloor wsL_isFloor) := goodIn_app (goodIn_of _ (by decide +kernel)) ggL_goes_L_isFloor
theorem dL_goes_0 : decode cL_goes 0 = .ok (.aload_n 0, 1) := by decide +kernel
theorem dL_goes_1 : decode cL_goes 1 = .ok (.iconst 0, 1) := by decide +kernel
theorem dL_goes_2 : decode cL_goes 2 = .ok (.dup2, 1) := by decide +kernel
theorem dL_goes_3 : decode cL_goes 3 = .ok (.iaload, 1) := by decide +kernel
theorem dL_goes_4 : decode cL_goes 4 = .ok (.aload_n 0, 1) := by decide +kernel
theorem dL_goes_5 : decode cL_goes 5 = .ok (.iconst 2, 1) := by decide +kernel
theorem dL_goes_6 : decode cL_goes 6 = .ok (.iaload, 1) := by decide +kernel
theorem dL_goes_7 : decode cL_goes 7 = .ok (.iadd, 1) := by decide +kernel
theorem dL_goes_8 : decode cL_goes 8 = .ok (.iastore, 1) := by decide +kernel
theorem dL_goes_9 : decode cL_goes 9 = .ok (.aload_n 0, 1) := by decide +kernel
theorem dL_goes_10 : decode cL_goes 10 = .ok (.iconst 1, 1) := by decide +kernel
theorem dL_goes_11 : decode cL_goes 11 = .ok (.dup2, 1) := by decide +kernel
theorem dL_goes_12 : decode cL_goes 12 = .ok (.iaload, 1) := by decide +kernel
theorem dL_goes_13 : decode cL_goes 13 = .ok (.aload_n 0, 1) := by decide +kernel
theorem dL_goes_14 : decode cL_goes 14 = .ok (.iconst 3, 1) := by decide +kernel
theorem dL_goes_15 : decode cL_goes 15 = .ok (.iaload, 1) := by decide +kernel
theorem dL_goes_16 : decode cL_goes 16 = .ok (.iadd, 1) := by decide +kernel
theorem dL_goes_17 : decode cL_goes 17 = .ok (.iastore, 1) := by decide +kernel
theorem dL_goes_18 : decode cL_goes 18 = .ok (.aload_n 0, 1) := by decide +kernel
theorem dL_goes_19 : decode cL_goes 19 = .ok (.iconst 5, 1) := by decide +kernel
theorem dL_goes_20 : decode cL_goes 20 = .ok (.dup2, 1) := by decide +kernel
theorem dL_goes_21 : decode cL_goes 21 = .ok (.iaload, 1) := by decide +kernel
theorem dL_goes_22 : decode cL_goes 22 = .ok (.iconst 1, 1) := by decide +kernel
theorem dL_goes_23 : decode cL_goes 23 = .ok (.iadd, 1) := by decide +kernel
theorem dL_goes_24 : decode cL_goes 24 = .ok (.iastore, 1) := by decide +kernel
theorem dL_goes_25 : decode cL_goes 25 = .ok (.aload_n 0, 1) := by decide +kernel
theorem dL_goes_26 : decode cL_goes 26 = .ok (.iconst 0, 1) := by decide +kernel
theorem dL_goes_27 : decode cL_goes 27 = .ok (.iaload, 1) := by decide +kernel
theorem dL_goes_28 : decode cL_goes 28 = .ok (.aload_n 0, 1) := by decide +kernel
theorem dL_goes_29 : decode cL_goes 29 = .ok (.iconst 0, 1) := by decide +kernel
theorem dL_goes_30 : decode cL_goes 30 = .ok (.iaload, 1) := by decide +kernel
theorem dL_goes_31 : decode cL_goes 31 = .ok (.iconst 2, 1) := by decide +kernel
theorem dL_goes_32 : decode cL_goes 32 = .ok (.irem, 1) := by decide +kernel
theorem dL_goes_33 : decode cL_goes 33 = .ok (.ifCond .ne 14, 3) := by decide +kernel
theorem dL_goes_36 : decode cL_goes 36 = .ok (.aload_n 0, 1) := by decide +kernel
theorem dL_goes_37 : decode cL_goes 37 = .ok (.iconst 2, 1) := by decide +kernel
theorem dL_goes_38 : decode cL_goes 38 = .ok (.iaload, 1) := by decide +kernel
theorem dL_goes_39 : decode cL_goes 39 = .ok (.ifCond .ge 8, 3) := by decide +kernel
theorem dL_goes_42 : decode cL_goes 42 = .ok (.bipush (-2), 2) := by decide +kernel
theorem dL_goes_44 : decode cL_goes 44 = .ok (.goto 4, 3) := by decide +kernel
theorem dL_goes_47 : decode cL_goes 47 = .ok (.iconst 0, 1) := by decide +kernel
theorem dL_goes_48 : decode cL_goes 48 = .ok (.iadd, 1) := by decide +kernel
theorem dL_goes_49 : decode cL_goes 49 = .ok (.iconst 1, 1) := by decide +kernel
theorem dL_goes_50 : decode cL_goes 50 = .ok (.ishr, 1) := by decide +kernel
theorem dL_goes_51 : decode cL_goes 51 = .ok (.aload_n 0, 1) := by decide +kernel
theorem dL_goes_52 : decode cL_goes 52 = .ok (.iconst 1, 1) := by decide +kernel
theorem dL_goes_53 : decode cL_goes 53 = .ok (.iaload, 1) := by decide +kernel
theorem dL_goes_54 : decode cL_goes 54 = .ok (.aload_n 0, 1) := by decide +kernel
theorem dL_goes_55 : decode cL_goes 55 = .ok (.iconst 1, 1) := by decide +kernel
theorem dL_goes_56 : decode cL_goes 56 = .ok (.iaload, 1) := by decide +kernel
theorem dL_goes_57 : decode cL_goes 57 = .ok (.iconst 2, 1) := by decide +kernel
theorem dL_goes_58 : decode cL_goes 58 = .ok (.irem, 1) := by decide +kernel
theorem dL_goes_59 : decode cL_goes 59 = .ok (.ifCond .ne 14, 3) := by decide +kernel
theorem dL_goes_62 : decode cL_goes 62 = .ok (.aload_n 0, 1) := by decide +kernel
theorem dL_goes_63 : decode cL_goes 63 = .ok (.iconst 3, 1) := by decide +kernel
theorem dL_goes_64 : decode cL_goes 64 = .ok (.iaload, 1) := by decide +kernel
theorem dL_goes_65 : decode cL_goes 65 = .ok (.ifCond .ge 8, 3) := by decide +kernel
theorem dL_goes_68 : decode cL_goes 68 = .ok (.bipush (-2), 2) := by decide +kernel
theorem dL_goes_70 : decode cL_goes 70 = .ok (.goto 4, 3) := by decide +kernel
theorem dL_goes_73 : decode cL_goes 73 = .ok (.iconst 0, 1) := by decide +kernel
theorem dL_goes_74 : decode cL_goes 74 = .ok (.iadd, 1) := by decide +kernel
theorem dL_goes_75 : decode cL_goes 75 = .ok (.iconst 1, 1) := by decide +kernel
theorem dL_goes_76 : decode cL_goes 76 = .ok (.ishr, 1) := by decide +kernel
theorem dL_goes_77 : decode cL_goes 77 = .ok (.lload_n 1, 1) := by decide +kernel
theorem dL_goes_78 : decode cL_goes 78 = .ok (.invokestatic 92, 3) := by decide +kernel
theorem dL_goes_81 : decode cL_goes 81 = .ok (.istore_n 3, 1) := by decide +kernel
theorem dL_goes_82 : decode cL_goes 82 = .ok (.iload_n 3, 1) := by decide +kernel
theorem dL_goes_83 : decode cL_goes 83 = .ok (.ifCond .eq 5, 3) := by decide +kernel
theorem dL_goes_86 : decode cL_goes 86 = .ok (.iconst 0, 1) := by decide +kernel
theorem dL_goes_87 : decode cL_goes 87 = .ok (.ireturn, 1) := by decide +kernel
theorem dL_goes_88 : decode cL_goes 88 = .ok (.aload_n 0, 1) := by decide +kernel
theorem dL_goes_89 : decode cL_goes 89 = .ok (.iconst 0, 1) := by decide +kernel
theorem dL_goes_90 : decode cL_goes 90 = .ok (.iaload, 1) := by decide +kernel
theorem dL_goes_91 : decode cL_goes 91 = .ok (.iconst 2, 1) := by decide +kernel
theorem dL_goes_92 : decode cL_goes 92 = .ok (.irem, 1) := by decide +kernel
theorem dL_goes_93 : decode cL_goes 93 = .ok (.ifCond .ne 13, 3) := by decide +kernel
theorem dL_goes_96 : decode cL_goes 96 = .ok (.aload_n 0, 1) := by decide +kernel
theorem dL_goes_97 : decode cL_goes 97 = .ok (.iconst 2, 1) := by decide +kernel
theorem dL_goes_98 : decode cL_goes 98 = .ok (.aload_n 0, 1) := by decide +kernel
theorem dL_goes_99 : decode cL_goes 99 = .ok (.iconst 2, 1) := by decide +kernel
theorem dL_goes_100 : decode cL_goes 100 = .ok (.iaload, 1) := by decide +kernel
theorem dL_goes_101 : decode cL_goes 101 = .ok (.ineg, 1) := by decide +kernel
theorem dL_goes_102 : decode cL_goes 102 = .ok (.iastore, 1) := by decide +kernel
theorem dL_goes_103 : decode cL_goes 103 = .ok (.goto 10, 3) := by decide +kernel
theorem dL_goes_106 : decode cL_goes 106 = .ok (.aload_n 0, 1) := by decide +kernel
theorem dL_goes_107 : decode cL_goes 107 = .ok (.iconst 3, 1) := by decide +kernel
theorem dL_goes_108 : decode cL_goes 108 = .ok (.aload_n 0, 1) := by decide +kernel
theorem dL_goes_109 : decode cL_goes 109 = .ok (.iconst 3, 1) := by decide +kernel
theorem dL_goes_110 : decode cL_goes 110 = .ok (.iaload, 1) := by decide +kernel
theorem dL_goes_111 : decode cL_goes 111 = .ok (.ineg, 1) := by decide +kernel
theorem dL_goes_112 : decode cL_goes 112 = .ok (.iastore, 1) := by decide +kernel
theorem dL_goes_113 : decode cL_goes 113 = .ok (.aload_n 0, 1) := by decide +kernel
theorem dL_goes_114 : decode cL_goes 114 = .ok (.iconst 4, 1) := by decide +kernel
theorem dL_goes_115 : decode cL_goes 115 = .ok (.dup2, 1) := by decide +kernel
theorem dL_goes_116 : decode cL_goes 116 = .ok (.iaload, 1) := by decide +kernel
theorem dL_goes_117 : decode cL_goes 117 = .ok (.iconst 1, 1) := by decide +kernel
theorem dL_goes_118 : decode cL_goes 118 = .ok (.iadd, 1) := by decide +kernel
theorem dL_goes_119 : decode cL_goes 119 = .ok (.iastore, 1) := by decide +kernel
theorem dL_goes_120 : decode cL_goes 120 = .ok (.iconst 1, 1) := by decide +kernel
theorem dL_goes_121 : decode cL_goes 121 = .ok (.ireturn, 1) := by decide +kernel
theorem dL_stateAt_0 : decode cL_stateAt 0 = .ok (.aload_n 0, 1) := by decide +kernel
theorem dL_stateAt_1 : decode cL_stateAt 1 = .ok (.iconst 0, 1) := by decide +kernel
theorem dL_stateAt_2 : decode cL_stateAt 2 = .ok (.iaload, 1) := by decide +kernel
theorem dL_stateAt_3 : decode cL_stateAt 3 = .ok (.iconst 2, 1) := by decide +kernel
theorem dL_stateAt_4 : decode cL_stateAt 4 = .ok (.irem, 1) := by decide +kernel
theorem dL_stateAt_5 : decode cL_stateAt 5 = .ok (.ifCond .ne 7, 3) := by decide +kernel
theorem dL_stateAt_8 : decode cL_stateAt 8 = .ok (.iconst 1, 1) := by decide +kernel
theorem dL_stateAt_9 : decode cL_stateAt 9 = .ok (.goto 4, 3) := by decide +kernel
theorem dL_stateAt_12 : decode cL_stateAt 12 = .ok (.iconst 0, 1) := by decide +kernel
theorem dL_stateAt_13 : decode cL_stateAt 13 = .ok (.istore_n 1, 1) := by decide +kernel
theorem dL_stateAt_14 : decode cL_stateAt 14 = .ok (.iload_n 1, 1) := by decide +kernel
theorem dL_stateAt_15 : decode cL_stateAt 15 = .ok (.ifCond .eq 19, 3) := by decide +kernel
theorem dL_stateAt_18 : decode cL_stateAt 18 = .ok (.aload_n 0, 1) := by decide +kernel
theorem dL_stateAt_19 : decode cL_stateAt 19 = .ok (.iconst 2, 1) := by decide +kernel
theorem dL_stateAt_20 : decode cL_stateAt 20 = .ok (.iaload, 1) := by decide +kernel
theorem dL_stateAt_21 : decode cL_stateAt 21 = .ok (.ifCond .ge 13, 3) := by decide +kernel
theorem dL_stateAt_24 : decode cL_stateAt 24 = .ok (.aload_n 0, 1) := by decide +kernel
theorem dL_stateAt_25 : decode cL_stateAt 25 = .ok (.iconst 0, 1) := by decide +kernel
theorem dL_stateAt_26 : decode cL_stateAt 26 = .ok (.iaload, 1) := by decide +kernel
theorem dL_stateAt_27 : decode cL_stateAt 27 = .ok (.iconst 2, 1) := by decide +kernel
theorem dL_stateAt_28 : decode cL_stateAt 28 = .ok (.idiv, 1) := by decide +kernel
theorem dL_stateAt_29 : decode cL_stateAt 29 = .ok (.iconst 1, 1) := by decide +kernel
theorem dL_stateAt_30 : decode cL_stateAt 30 = .ok (.isub, 1) := by decide +kernel
theorem dL_stateAt_31 : decode cL_stateAt 31 = .ok (.goto 8, 3) := by decide +kernel
theorem dL_stateAt_34 : decode cL_stateAt 34 = .ok (.aload_n 0, 1) := by decide +kernel
theorem dL_stateAt_35 : decode cL_stateAt 35 = .ok (.iconst 0, 1) := by decide +kernel
theorem dL_stateAt_36 : decode cL_stateAt 36 = .ok (.iaload, 1) := by decide +kernel
theorem dL_stateAt_37 : decode cL_stateAt 37 = .ok (.iconst 2, 1) := by decide +kernel
theorem dL_stateAt_38 : decode cL_stateAt 38 = .ok (.idiv, 1) := by decide +kernel
theorem dL_stateAt_39 : decode cL_stateAt 39 = .ok (.istore_n 2, 1) := by decide +kernel
theorem dL_stateAt_40 : decode cL_stateAt 40 = .ok (.iload_n 1, 1) := by decide +kernel
theorem dL_stateAt_41 : decode cL_stateAt 41 = .ok (.ifCond .ne 19, 3) := by decide +kernel
theorem dL_stateAt_44 : decode cL_stateAt 44 = .ok (.aload_n 0, 1) := by decide +kernel
theorem dL_stateAt_45 : decode cL_stateAt 45 = .ok (.iconst 3, 1) := by decide +kernel
theorem dL_stateAt_46 : decode cL_stateAt 46 = .ok (.iaload, 1) := by decide +kernel
theorem dL_stateAt_47 : decode cL_stateAt 47 = .ok (.ifCond .ge 13, 3) := by decide +kernel
theorem dL_stateAt_50 : decode cL_stateAt 50 = .ok (.aload_n 0, 1) := by decide +kernel
theorem dL_stateAt_51 : decode cL_stateAt 51 = .ok (.iconst 1, 1) := by decide +kernel
theorem dL_stateAt_52 : decode cL_stateAt 52 = .ok (.iaload, 1) := by decide +kernel
theorem dL_stateAt_53 : decode cL_stateAt 53 = .ok (.iconst 2, 1) := by decide +kernel
theorem dL_stateAt_54 : decode cL_stateAt 54 = .ok (.idiv, 1) := by decide +kernel
theorem dL_stateAt_55 : decode cL_stateAt 55 = .ok (.iconst 1, 1) := by decide +kernel
theorem dL_stateAt_56 : decode cL_stateAt 56 = .ok (.isub, 1) := by decide +kernel
theorem dL_stateAt_57 : decode cL_stateAt 57 = .ok (.goto 8, 3) := by decide +kernel
theorem dL_stateAt_60 : decode cL_stateAt 60 = .ok (.aload_n 0, 1) := by decide +kernel
theorem dL_stateAt_61 : decode cL_stateAt 61 = .ok (.iconst 1, 1) := by decide +kernel
theorem dL_stateAt_62 : decode cL_stateAt 62 = .ok (.iaload, 1) := by decide +kernel
theorem dL_stateAt_63 : decode cL_stateAt 63 = .ok (.iconst 2, 1) := by decide +kernel
theorem dL_stateAt_64 : decode cL_stateAt 64 = .ok (.idiv, 1) := by decide +kernel
theorem dL_stateAt_65 : decode cL_stateAt 65 = .ok (.istore_n 3, 1) := by decide +kernel
theorem dL_stateAt_66 : decode cL_stateAt 66 = .ok (.iload_n 1, 1) := by decide +kernel
theorem dL_stateAt_67 : decode cL_stateAt 67 = .ok (.ifCond .eq 17, 3) := by decide +kernel
theorem dL_stateAt_70 : decode cL_stateAt 70 = .ok (.aload_n 0, 1) := by decide +kernel
theorem dL_stateAt_71 : decode cL_stateAt 71 = .ok (.iconst 2, 1) := by decide +kernel
theorem dL_stateAt_72 : decode cL_stateAt 72 = .ok (.iaload, 1) := by decide +kernel
theorem dL_stateAt_73 : decode cL_stateAt 73 = .ok (.ifCond .le 7, 3) := by decide +kernel
theorem dL_stateAt_76 : decode cL_stateAt 76 = .ok (.iconst 0, 1) := by decide +kernel
theorem dL_stateAt_77 : decode cL_stateAt 77 = .ok (.goto 18, 3) := by decide +kernel
theorem dL_stateAt_80 : decode cL_stateAt 80 = .ok (.iconst 2, 1) := by decide +kernel
theorem dL_stateAt_81 : decode cL_stateAt 81 = .ok (.goto 14, 3) := by decide +kernel
theorem dL_stateAt_84 : decode cL_stateAt 84 = .ok (.aload_n 0, 1) := by decide +kernel
theorem dL_stateAt_85 : decode cL_stateAt 85 = .ok (.iconst 3, 1) := by decide +kernel
theorem dL_stateAt_86 : decode cL_stateAt 86 = .ok (.iaload, 1) := by decide +kernel
theorem dL_stateAt_87 : decode cL_stateAt 87 = .ok (.ifCond .le 7, 3) := by decide +kernel
theorem dL_stateAt_90 : decode cL_stateAt 90 = .ok (.iconst 1, 1) := by decide +kernel
theorem dL_stateAt_91 : decode cL_stateAt 91 = .ok (.goto 4, 3) := by decide +kernel
theorem dL_stateAt_94 : decode cL_stateAt 94 = .ok (.iconst 3, 1) := by decide +kernel
theorem dL_stateAt_95 : decode cL_stateAt 95 = .ok (.istore 4, 2) := by decide +kernel
theorem dL_stateAt_97 : decode cL_stateAt 97 = .ok (.iload_n 2, 1) := by decide +kernel
theorem dL_stateAt_98 : decode cL_stateAt 98 = .ok (.bipush 8, 2) := by decide +kernel
theorem dL_stateAt_100 : decode cL_stateAt 100 = .ok (.iload_n 3, 1) := by decide +kernel
theorem dL_stateAt_101 : decode cL_stateAt 101 = .ok (.imul, 1) := by decide +kernel
theorem dL_stateAt_102 : decode cL_stateAt 102 = .ok (.iadd, 1) := by decide +kernel
theorem dL_stateAt_103 : decode cL_stateAt 103 = .ok (.bipush 64, 2) := by decide +kernel
theorem dL_stateAt_105 : decode cL_stateAt 105 = .ok (.iload 4, 2) := by decide +kernel
theorem dL_stateAt_107 : decode cL_stateAt 107 = .ok (.imul, 1) := by decide +kernel
theorem dL_stateAt_108 : decode cL_stateAt 108 = .ok (.iadd, 1) := by decide +kernel
theorem dL_stateAt_109 : decode cL_stateAt 109 = .ok (.iload_n 1, 1) := by decide +kernel
theorem dL_stateAt_110 : decode cL_stateAt 110 = .ok (.ifCond .eq 9, 3) := by decide +kernel
theorem dL_stateAt_113 : decode cL_stateAt 113 = .ok (.aload_n 0, 1) := by decide +kernel
theorem dL_stateAt_114 : decode cL_stateAt 114 = .ok (.iconst 3, 1) := by decide +kernel
theorem dL_stateAt_115 : decode cL_stateAt 115 = .ok (.iaload, 1) := by decide +kernel
theorem dL_stateAt_116 : decode cL_stateAt 116 = .ok (.goto 6, 3) := by decide +kernel
theorem dL_stateAt_119 : decode cL_stateAt 119 = .ok (.aload_n 0, 1) := by decide +kernel
theorem dL_stateAt_120 : decode cL_stateAt 120 = .ok (.iconst 2, 1) := by decide +kernel
theorem dL_stateAt_121 : decode cL_stateAt 121 = .ok (.iaload, 1) := by decide +kernel
theorem dL_stateAt_122 : decode cL_stateAt 122 = .ok (.ifCond .le 9, 3) := by decide +kernel
theorem dL_stateAt_125 : decode cL_stateAt 125 = .ok (.sipush 256, 3) := by decide +kernel
theorem dL_stateAt_128 : decode cL_stateAt 128 = .ok (.goto 4, 3) := by decide +kernel
theorem dL_stateAt_131 : decode cL_stateAt 131 = .ok (.iconst 0, 1) := by decide +kernel
theorem dL_stateAt_132 : decode cL_stateAt 132 = .ok (.iadd, 1) := by decide +kernel
theorem dL_stateAt_133 : decode cL_stateAt 133 = .ok (.ireturn, 1) := by decide +kernel
set_option maxRecDepth 20000 in
theorem ggL_isShot_L_isFloor : GoodIn wsL_isShot wsL_isFloor := goodIn_r _ [5] (by decide +kernel) (by decide +kernel)
set_option maxRecDepth 20000 in
theorem gL_isShot_L_isFloor : GoodIn wsL_isShot (va_wsS RL 92 yL_isFloor wsL_isFloor) := goodIn_app (goodIn_of _ (by decide +kernel)) ggL_isShot_L_isFloor
set_option maxRecDepth 20000 in
theorem ggL_isShot_L_period : GoodIn wsL_isShot wsL_period := goodIn_ca (goodIn_ca (goodIn_ca (goodIn_r _ [8, 9, 10, 11, 12, 13, 14, 15, 16, 17, 18, 19, 20, 21, 22, 23, 24, 25, 26, 27, 28, 29, 30, 31, 32, 33, 34, 35, 36, 37, 38, 39, 40, 41, 42, 43, 44, 45, 46, 47, 48, 49, 50, 51, 52, 53, 54, 55, 56, 57, 58, 59, 60, 61, 62, 63, 64, 65, 66, 67, 68, 69, 70, 71, 72, 73, 74, 75, 76, 77, 78, 79, 80, 81, 82, 83, 84, 85, 86, 87, 88, 89, 173, 174, 175, 176, 177, 178, 179] (by decide +kernel) (by decide +kernel)) (goodIn_sub (fun _ h => List.mem_cons_of_mem _ (List.mem_append_left _ (List.mem_append_left _ (List.mem_append_right _ h)))) (by decide +kernel))) (goodIn_sub (fun _ h => List.mem_cons_of_mem _ (List.mem_append_left _ (List.mem_append_right _ h))) (by decide +kernel))) (goodIn_sub (fun _ h => List.mem_cons_of_mem _ (List.mem_append_right _ h)) (by decide +kernel))
set_option maxRecDepth 20000 in
theorem gL_isShot_L_period : GoodIn wsL_isShot (va_wsS RL 96 yL_period wsL_period) := goodIn_app (goodIn_of _ (by decide +kernel)) ggL_isShot_L_period
set_option maxRecDepth 20000 in
theorem ggL_isShot_L_touched : GoodIn wsL_isShot wsL_touched := goodIn_ca (goodIn_ca (goodIn_ca (goodIn_r _ [92, 9, 10, 11, 93, 94, 95, 15, 96, 17, 18, 19, 20, 21, 22, 23, 24, 25, 26, 27, 28, 29, 30, 31, 32, 33, 34, 35, 36, 37, 38, 39, 40, 41, 42, 43, 44, 45, 97, 98, 99, 100, 76, 77, 78, 82, 83, 84, 50, 51, 52, 53, 54, 55, 56, 57, 58, 59, 60, 61, 62, 63, 64, 65, 66, 67, 68, 69, 70, 71, 72, 73, 74, 75, 79, 80, 81, 85, 86, 87, 88, 89, 101, 102, 103, 104, 105, 106, 107, 173, 174, 175, 176, 177, 178, 179] (by decide +kernel) (by decide +kernel)) (goodIn_sub (fun _ h => List.mem_cons_of_mem _ (List.mem_append_left _ (List.mem_append_left _ (List.mem_append_right _ h)))) (by decide +kernel))) (goodIn_sub (fun _ h => List.mem_cons_of_mem _ (List.mem_append_left _ (List.mem_append_right _ h))) (by decide +kernel))) (goodIn_sub (fun _ h => List.mem_cons_of_mem _ (List.mem_append_right _ h)) (by decide +kernel))
set_option maxRecDepth 20000 in
theorem gL_isShot_L_touched : GoodIn wsL_isShot (va_wsS RL 99 yL_touched wsL_touched) := goodIn_app (goodIn_of _ (by decide +kernel)) ggL_isShot_L_touched
set_option maxRecDepth 20000 in
theorem ggL_isShot_L_state : GoodIn wsL_isShot wsL_state := goodIn_ca (goodIn_ca (goodIn_ca (goodIn_r _ [110, 9, 10, 11, 111, 112, 113, 15, 114, 115, 17, 18, 19, 20, 21, 22, 23, 24, 25, 26, 27, 28, 29, 30, 31, 32, 33, 34, 35, 36, 37, 38, 39, 40, 41, 42, 43, 44, 45, 116, 117, 118, 119, 120, 47, 48, 49, 50, 51, 52, 53, 54, 55, 56, 57, 58, 59, 60, 61, 62, 63, 64, 65, 66, 67, 68, 69, 70, 71, 72, 73, 74, 75, 76, 77, 78, 79, 80, 81, 82, 83, 84, 85, 86, 87, 88, 89, 173, 174, 175, 176, 177, 178, 179] (by decide +kernel) (by decide +kernel)) (goodIn_sub (fun _ h => List.mem_cons_of_mem _ (List.mem_append_left _ (List.mem_append_left _ (List.mem_append_right _ h)))) (by decide +kernel))) (goodIn_sub (fun _ h => List.mem_cons_of_mem _ (List.mem_append_left _ (List.mem_append_right _ h))) (by decide +kernel))) (goodIn_sub (fun _ h => List.mem_cons_of_mem _ (List.mem_append_right _ h)) (by decide +kernel))
set_option maxRecDepth 20000 in
theorem gL_isShot_L_state : GoodIn wsL_isShot (va_wsS RL 101 yL_state wsL_state) := goodIn_app (goodIn_of _ (by decide +kernel)) ggL_isShot_L_state
set_option maxRecDepth 20000 in
theorem ggL_isShot_L_begins : GoodIn wsL_isShot wsL_begins := goodIn_r _ [123] (by decide +kernel) (by decide +kernel)
set_option maxRecDepth 20000 in
theorem gL_isShot_L_begins : GoodIn wsL_isShot (va_wsS RL 104 yL_begins wsL_begins) := goodIn_app (goodIn_of _ (by decide +kernel)) ggL_isShot_L_begins
set_option maxRecDepth 20000 in
theorem ggL_isShot_L_stateAt : GoodIn wsL_isShot wsL_stateAt := goodIn_r _ [126] (by decide +kernel) (by decide +kernel)
set_option maxRecDepth 20000 in
theorem gL_isShot_L_stateAt : GoodIn wsL_isShot (va_wsS RL 108 yL_stateAt wsL_stateAt) := goodIn_app (goodIn_of _ (by decide +kernel)) ggL_isShot_L_stateAt
set_option maxRecDepth 20000 in
theorem ggL_isShot_L_goes : GoodIn wsL_isShot wsL_goes := goodIn_r _ [129, 2, 3, 4, 5] (by decide +kernel) (by decide +kernel)
set_option maxRecDepth 20000 in
theorem gL_isShot_L_goes : GoodIn wsL_isShot (va_wsS RL 112 yL_goes wsL_goes) := goodIn_app (goodIn_of _ (by decide +kernel)) ggL_isShot_L_goes
set_option maxRecDepth 20000 in
theorem ggL_isShot_L_bounce : GoodIn wsL_isShot wsL_bounce := goodIn_ca (goodIn_ca (goodIn_ca (goodIn_r _ [132, 9, 10, 11, 133, 134, 135, 15, 136, 137, 17, 18, 19, 20, 21, 22, 23, 24, 25, 26, 27, 28, 29, 30, 31, 32, 33, 34, 35, 36, 37, 38, 39, 40, 41, 42, 43, 44, 45, 138, 139, 140, 141, 142, 143, 144, 145, 146, 147, 148, 149, 54, 55, 56, 57, 58, 59, 60, 61, 62, 63, 64, 65, 69, 70, 71, 72, 73, 74, 75, 76, 77, 78, 79, 80, 81, 82, 83, 84, 85, 50, 51, 52, 53, 66, 67, 68, 86, 87, 88, 89, 173, 174, 175, 176, 177, 178, 179] (by decide +kernel) (by decide +kernel)) (goodIn_sub (fun _ h => List.mem_cons_of_mem _ (List.mem_append_left _ (List.mem_append_left _ (List.mem_append_right _ h)))) (by decide +kernel))) (goodIn_sub (fun _ h => List.mem_cons_of_mem _ (List.mem_append_left _ (List.mem_append_right _ h))) (by decide +kernel))) (goodIn_sub (fun _ h => List.mem_cons_of_mem _ (List.mem_append_right _ h)) (by decide +kernel))
set_option maxRecDepth 20000 in
theorem gL_isShot_L_bounce : GoodIn wsL_isShot (va_wsS RL 116 yL_bounce wsL_bounce) := goodIn_app (goodIn_of _ (by decide +kernel)) ggL_isShot_L_bounce
set_option maxRecDepth 20000 in
theorem ggL_isShot_L_periodAnew : GoodIn wsL_isShot wsL_periodAnew := goodIn_ca (goodIn_ca (goodIn_ca (goodIn_r _ [152, 9, 10, 11, 153, 154, 155, 15, 156, 17, 18, 19, 20, 21, 22, 23, 24, 25, 26, 27, 28, 29, 30, 31, 32, 33, 34, 35, 36, 37, 38, 39, 40, 41, 42, 43, 44, 45, 157, 158, 159, 160, 161, 162, 163, 164, 57, 58, 59, 60, 61, 62, 63, 64, 65, 87, 88, 89, 69, 70, 71, 72, 73, 74, 75, 76, 77, 78, 79, 80, 81, 82, 83, 84, 85, 66, 67, 68, 86, 173, 174, 175, 176, 177, 178, 179] (by decide +kernel) (by decide +kernel)) (goodIn_sub (fun _ h => List.mem_cons_of_mem _ (List.mem_append_left _ (List.mem_append_left _ (List.mem_append_right _ h)))) (by decide +kernel))) (goodIn_sub (fun _ h => List.mem_cons_of_mem _ (List.mem_append_left _ (List.mem_append_right _ h))) (by decide +kernel))) (goodIn_sub (fun _ h => List.mem_cons_of_mem _ (List.mem_append_right _ h)) (by decide +kernel))
set_option maxRecDepth 20000 in
theorem gL_isShot_L_periodAnew : GoodIn wsL_isShot (va_wsS RL 118 yL_periodAnew wsL_periodAnew) := goodIn_app (goodIn_of _ (by decide +kernel)) ggL_isShot_L_periodAnew
set_option maxRecDepth 20000 in
theorem ggL_isShot_L_bounces : GoodIn wsL_isShot wsL_bounces := goodIn_ca (goodIn_ca (goodIn_ca (goodIn_r _ [167, 9, 10, 11, 168, 169, 170, 15, 171, 17, 18, 19, 20, 21, 22, 23, 24, 25, 26, 27, 28, 29, 30, 31, 32, 33, 34, 35, 36, 37, 38, 39, 40, 41, 42, 43, 44, 45, 172, 143, 144, 145, 146, 147, 148, 149, 54, 55, 56, 57, 58, 59, 60, 61, 62, 63, 64, 65, 69, 70, 71, 72, 73, 74, 75, 76, 77, 78, 79, 80, 81, 82, 83, 84, 85, 50, 51, 52, 53, 66, 67, 68, 86, 87, 88, 89, 173, 174, 175, 176, 177, 178, 179] (by decide +kernel) (by decide +kernel)) (goodIn_sub (fun _ h => List.mem_cons_of_mem _ (List.mem_append_left _ (List.mem_append_left _ (List.mem_append_right _ h)))) (by decide +kernel))) (goodIn_sub (fun _ h => List.mem_cons_of_mem _ (List.mem_append_left _ (List.mem_append_right _ h))) (by decide +kernel))) (goodIn_sub (fun _ h => List.mem_cons_of_mem _ (List.mem_append_right _ h)) (by decide +kernel))
set_option maxRecDepth 20000 in
theorem gL_isShot_L_bounces : GoodIn wsL_isShot (va_wsS RL 120 yL_bounces wsL_bounces) := goodIn_app (goodIn_of _ (by decide +kernel)) ggL_isShot_L_bounces
theorem dL_isShot_0 : decode cL_isShot 0 = .ok (.iload_n 1, 1) := by decide +kernel
theorem dL_isShot_1 : decode cL_isShot 1 = .ok (.bipush 7, 2) := by decide +kernel
theorem dL_isShot_3 : decode cL_isShot 3 = .ok (.iand, 1) := by decide +kernel
theorem dL_isShot_4 : decode cL_isShot 4 = .ok (.istore 5, 2) := by decide +kernel
theorem dL_isShot_6 : decode cL_isShot 6 = .ok (.iload_n 1, 1) := by decide +kernel
theorem dL_isShot_7 : decode cL_isShot 7 = .ok (.iconst 3, 1) := by decide +kernel
theorem dL_isShot_8 : decode cL_isShot 8 = .ok (.ishr, 1) := by decide +kernel
theorem dL_isShot_9 : decode cL_isShot 9 = .ok (.bipush 7, 2) := by decide +kernel
theorem dL_isShot_11 : decode cL_isShot 11 = .ok (.iand, 1) := by decide +kernel
theorem dL_isShot_12 : decode cL_isShot 12 = .ok (.istore 6, 2) := by decide +kernel
theorem dL_isShot_14 : decode cL_isShot 14 = .ok (.iload_n 1, 1) := by decide +kernel
theorem dL_isShot_15 : decode cL_isShot 15 = .ok (.bipush 6, 2) := by decide +kernel
theorem dL_isShot_17 : decode cL_isShot 17 = .ok (.ishr, 1) := by decide +kernel
theorem dL_isShot_18 : decode cL_isShot 18 = .ok (.iconst 3, 1) := by decide +kernel
theorem dL_isShot_19 : decode cL_isShot 19 = .ok (.iand, 1) := by decide +kernel
theorem dL_isShot_20 : decode cL_isShot 20 = .ok (.istore 7, 2) := by decide +kernel
theorem dL_isShot_22 : decode cL_isShot 22 = .ok (.iload_n 1, 1) := by decide +kernel
theorem dL_isShot_23 : decode cL_isShot 23 = .ok (.sipush 255, 3) := by decide +kernel
theorem dL_isShot_26 : decode cL_isShot 26 = .ok (.if_icmp .le 7, 3) := by decide +kernel
theorem dL_isShot_29 : decode cL_isShot 29 = .ok (.iconst 1, 1) := by decide +kernel
theorem dL_isShot_30 : decode cL_isShot 30 = .ok (.goto 4, 3) := by decide +kernel
theorem dL_isShot_33 : decode cL_isShot 33 = .ok (.iconst 0, 1) := by decide +kernel
theorem dL_isShot_34 : decode cL_isShot 34 = .ok (.istore 8, 2) := by decide +kernel
theorem dL_isShot_36 : decode cL_isShot 36 = .ok (.iload 5, 2) := by decide +kernel
theorem dL_isShot_38 : decode cL_isShot 38 = .ok (.iload 6, 2) := by decide +kernel
theorem dL_isShot_40 : decode cL_isShot 40 = .ok (.lload_n 3, 1) := by decide +kernel
theorem dL_isShot_41 : decode cL_isShot 41 = .ok (.invokestatic 92, 3) := by decide +kernel
theorem dL_isShot_44 : decode cL_isShot 44 = .ok (.ifCond .ne 64, 3) := by decide +kernel
theorem dL_isShot_47 : decode cL_isShot 47 = .ok (.aload_n 0, 1) := by decide +kernel
theorem dL_isShot_48 : decode cL_isShot 48 = .ok (.iload 5, 2) := by decide +kernel
theorem dL_isShot_50 : decode cL_isShot 50 = .ok (.iload 6, 2) := by decide +kernel
theorem dL_isShot_52 : decode cL_isShot 52 = .ok (.iload 7, 2) := by decide +kernel
theorem dL_isShot_54 : decode cL_isShot 54 = .ok (.iload 8, 2) := by decide +kernel
theorem dL_isShot_56 : decode cL_isShot 56 = .ok (.invokestatic 96, 3) := by decide +kernel
theorem dL_isShot_59 : decode cL_isShot 59 = .ok (.sipush (-7300), 3) := by decide +kernel
theorem dL_isShot_62 : decode cL_isShot 62 = .ok (.if_icmp .ne 44, 3) := by decide +kernel
theorem dL_isShot_65 : decode cL_isShot 65 = .ok (.aload_n 0, 1) := by decide +kernel
theorem dL_isShot_66 : decode cL_isShot 66 = .ok (.iload 5, 2) := by decide +kernel
theorem dL_isShot_68 : decode cL_isShot 68 = .ok (.iload 6, 2) := by decide +kernel
theorem dL_isShot_70 : decode cL_isShot 70 = .ok (.iload 7, 2) := by decide +kernel
theorem dL_isShot_72 : decode cL_isShot 72 = .ok (.iload 8, 2) := by decide +kernel
theorem dL_isShot_74 : decode cL_isShot 74 = .ok (.invokestatic 99, 3) := by decide +kernel
theorem dL_isShot_77 : decode cL_isShot 77 = .ok (.sipush (-7300), 3) := by decide +kernel
theorem dL_isShot_80 : decode cL_isShot 80 = .ok (.if_icmp .ne 26, 3) := by decide +kernel
theorem dL_isShot_83 : decode cL_isShot 83 = .ok (.aload_n 0, 1) := by decide +kernel
theorem dL_isShot_84 : decode cL_isShot 84 = .ok (.iload 5, 2) := by decide +kernel
theorem dL_isShot_86 : decode cL_isShot 86 = .ok (.iload 6, 2) := by decide +kernel
theorem dL_isShot_88 : decode cL_isShot 88 = .ok (.iload 7, 2) := by decide +kernel
theorem dL_isShot_90 : decode cL_isShot 90 = .ok (.iload 8, 2) := by decide +kernel
theorem dL_isShot_92 : decode cL_isShot 92 = .ok (.iload_n 2, 1) := by decide +kernel
theorem dL_isShot_93 : decode cL_isShot 93 = .ok (.invokestatic 101, 3) := by decide +kernel
theorem dL_isShot_96 : decode cL_isShot 96 = .ok (.sipush (-7300), 3) := by decide +kernel
theorem dL_isShot_99 : decode cL_isShot 99 = .ok (.if_icmp .ne 7, 3) := by decide +kernel
theorem dL_isShot_102 : decode cL_isShot 102 = .ok (.iconst 1, 1) := by decide +kernel
theorem dL_isShot_103 : decode cL_isShot 103 = .ok (.goto 4, 3) := by decide +kernel
theorem dL_isShot_106 : decode cL_isShot 106 = .ok (.iconst 0, 1) := by decide +kernel
theorem dL_isShot_107 : decode cL_isShot 107 = .ok (.ireturn, 1) := by decide +kernel
theorem dL_isShot_108 : decode cL_isShot 108 = .ok (.bipush 6, 2) := by decide +kernel
theorem dL_isShot_110 : decode cL_isShot 110 = .ok (.newarray .int, 2) := by decide +kernel
theorem dL_isShot_112 : decode cL_isShot 112 = .ok (.astore 9, 2) := by decide +kernel
theorem dL_isShot_114 : decode cL_isShot 114 = .ok (.iload_n 1, 1) := by decide +kernel
theorem dL_isShot_115 : decode cL_isShot 115 = .ok (.aload 9, 2) := by decide +kernel
theorem dL_isShot_117 : decode cL_isShot 117 = .ok (.invokestatic 104, 3) := by decide +kernel
theorem dL_isShot_120 : decode cL_isShot 120 = .ok (.lconst 0, 1) := by decide +kernel
theorem dL_isShot_121 : decode cL_isShot 121 = .ok (.lstore 10, 2) := by decide +kernel
theorem dL_isShot_123 : decode cL_isShot 123 = .ok (.iload_n 2, 1) := by decide +kernel
theorem dL_isShot_124 : decode cL_isShot 124 = .ok (.bipush 97, 2) := by decide +kernel
theorem dL_isShot_126 : decode cL_isShot 126 = .ok (.irem, 1) := by decide +kernel
theorem dL_isShot_127 : decode cL_isShot 127 = .ok (.istore 12, 2) := by decide +kernel
theorem dL_isShot_129 : decode cL_isShot 129 = .ok (.aload 9, 2) := by decide +kernel
theorem dL_isShot_131 : decode cL_isShot 131 = .ok (.invokestatic 108, 3) := by decide +kernel
theorem dL_isShot_134 : decode cL_isShot 134 = .ok (.istore 13, 2) := by decide +kernel
theorem dL_isShot_136 : decode cL_isShot 136 = .ok (.lload 10, 2) := by decide +kernel
theorem dL_isShot_138 : decode cL_isShot 138 = .ok (.lconst 1, 1) := by decide +kernel
theorem dL_isShot_139 : decode cL_isShot 139 = .ok (.iload 13, 2) := by decide +kernel
theorem dL_isShot_141 : decode cL_isShot 141 = .ok (.bipush 63, 2) := by decide +kernel
theorem dL_isShot_143 : decode cL_isShot 143 = .ok (.iand, 1) := by decide +kernel
theorem dL_isShot_144 : decode cL_isShot 144 = .ok (.lshl, 1) := by decide +kernel
theorem dL_isShot_145 : decode cL_isShot 145 = .ok (.lor, 1) := by decide +kernel
theorem dL_isShot_146 : decode cL_isShot 146 = .ok (.lstore 10, 2) := by decide +kernel
theorem dL_isShot_148 : decode cL_isShot 148 = .ok (.aload 9, 2) := by decide +kernel
theorem dL_isShot_150 : decode cL_isShot 150 = .ok (.iconst 5, 1) := by decide +kernel
theorem dL_isShot_151 : decode cL_isShot 151 = .ok (.iaload, 1) := by decide +kernel
theorem dL_isShot_152 : decode cL_isShot 152 = .ok (.iload 12, 2) := by decide +kernel
theorem dL_isShot_154 : decode cL_isShot 154 = .ok (.if_icmp .ne 24, 3) := by decide +kernel
theorem dL_isShot_157 : decode cL_isShot 157 = .ok (.aload_n 0, 1) := by decide +kernel
theorem dL_isShot_158 : decode cL_isShot 158 = .ok (.iload 5, 2) := by decide +kernel
theorem dL_isShot_160 : decode cL_isShot 160 = .ok (.iload 6, 2) := by decide +kernel
theorem dL_isShot_162 : decode cL_isShot 162 = .ok (.iload 7, 2) := by decide +kernel
theorem dL_isShot_164 : decode cL_isShot 164 = .ok (.iload 8, 2) := by decide +kernel
theorem dL_isShot_166 : decode cL_isShot 166 = .ok (.iload 12, 2) := by decide +kernel
theorem dL_isShot_168 : decode cL_isShot 168 = .ok (.invokestatic 101, 3) := by decide +kernel
theorem dL_isShot_171 : decode cL_isShot 171 = .ok (.iload 13, 2) := by decide +kernel
theorem dL_isShot_173 : decode cL_isShot 173 = .ok (.if_icmp .eq 5, 3) := by decide +kernel
theorem dL_isShot_176 : decode cL_isShot 176 = .ok (.iconst 0, 1) := by decide +kernel
theorem dL_isShot_177 : decode cL_isShot 177 = .ok (.ireturn, 1) := by decide +kernel
theorem dL_isShot_178 : decode cL_isShot 178 = .ok (.aload 9, 2) := by decide +kernel
theorem dL_isShot_180 : decode cL_isShot 180 = .ok (.lload_n 3, 1) := by decide +kernel
theorem dL_isShot_181 : decode cL_isShot 181 = .ok (.invokestatic 112, 3) := by decide +kernel
theorem dL_isShot_184 : decode cL_isShot 184 = .ok (.istore 14, 2) := by decide +kernel
theorem dL_isShot_186 : decode cL_isShot 186 = .ok (.iload 14, 2) := by decide +kernel
theorem dL_isShot_188 : decode cL_isShot 188 = .ok (.ifCond .eq 74, 3) := by decide +kernel
theorem dL_isShot_191 : decode cL_isShot 191 = .ok (.aload 9, 2) := by decide +kernel
theorem dL_isShot_193 : decode cL_isShot 193 = .ok (.iconst 4, 1) := by decide +kernel
theorem dL_isShot_194 : decode cL_isShot 194 = .ok (.iaload, 1) := by decide +kernel
theorem dL_isShot_195 : decode cL_isShot 195 = .ok (.iconst 3, 1) := by decide +kernel
theorem dL_isShot_196 : decode cL_isShot 196 = .ok (.if_icmp .gt 66, 3) := by decide +kernel
theorem dL_isShot_199 : decode cL_isShot 199 = .ok (.aload 9, 2) := by decide +kernel
theorem dL_isShot_201 : decode cL_isShot 201 = .ok (.iconst 0, 1) := by decide +kernel
theorem dL_isShot_202 : decode cL_isShot 202 = .ok (.iaload, 1) := by decide +kernel
theorem dL_isShot_203 : decode cL_isShot 203 = .ok (.iconst 2, 1) := by decide +kernel
theorem dL_isShot_204 : decode cL_isShot 204 = .ok (.irem, 1) := by decide +kernel
theorem dL_isShot_205 : decode cL_isShot 205 = .ok (.ifCond .ne 18, 3) := by decide +kernel
theorem dL_isShot_208 : decode cL_isShot 208 = .ok (.aload 9, 2) := by decide +kernel
theorem dL_isShot_210 : decode cL_isShot 210 = .ok (.iconst 2, 1) := by decide +kernel
theorem dL_isShot_211 : decode cL_isShot 211 = .ok (.iaload, 1) := by decide +kernel
theorem dL_isShot_212 : decode cL_isShot 212 = .ok (.ifCond .le 7, 3) := by decide +kernel
theorem dL_isShot_215 : decode cL_isShot 215 = .ok (.iconst 0, 1) := by decide +kernel
theorem dL_isShot_216 : decode cL_isShot 216 = .ok (.goto 19, 3) := by decide +kernel
theorem dL_isShot_219 : decode cL_isShot 219 = .ok (.iconst 2, 1) := by decide +kernel
theorem dL_isShot_220 : decode cL_isShot 220 = .ok (.goto 15, 3) := by decide +kernel
theorem dL_isShot_223 : decode cL_isShot 223 = .ok (.aload 9, 2) := by decide +kernel
theorem dL_isShot_225 : decode cL_isShot 225 = .ok (.iconst 3, 1) := by decide +kernel
theorem dL_isShot_226 : decode cL_isShot 226 = .ok (.iaload, 1) := by decide +kernel
theorem dL_isShot_227 : decode cL_isShot 227 = .ok (.ifCond .le 7, 3) := by decide +kernel
theorem dL_isShot_230 : decode cL_isShot 230 = .ok (.iconst 1, 1) := by decide +kernel
theorem dL_isShot_231 : decode cL_isShot 231 = .ok (.goto 4, 3) := by decide +kernel
theorem dL_isShot_234 : decode cL_isShot 234 = .ok (.iconst 3, 1) := by decide +kernel
theorem dL_isShot_235 : decode cL_isShot 235 = .ok (.istore 15, 2) := by decide +kernel
theorem dL_isShot_237 : decode cL_isShot 237 = .ok (.aload_n 0, 1) := by decide +kernel
theorem dL_isShot_238 : decode cL_isShot 238 = .ok (.iload 5, 2) := by decide +kernel
theorem dL_isShot_240 : decode cL_isShot 240 = .ok (.iload 6, 2) := by decide +kernel
theorem dL_isShot_242 : decode cL_isShot 242 = .ok (.iload 7, 2) := by decide +kernel
theorem dL_isShot_244 : decode cL_isShot 244 = .ok (.iload 8, 2) := by decide +kernel
theorem dL_isShot_246 : decode cL_isShot 246 = .ok (.aload 9, 2) := by decide +kernel
theorem dL_isShot_248 : decode cL_isShot 248 = .ok (.iconst 4, 1) := by decide +kernel
theorem dL_isShot_249 : decode cL_isShot 249 = .ok (.iaload, 1) := by decide +kernel
theorem dL_isShot_250 : decode cL_isShot 250 = .ok (.iconst 1, 1) := by decide +kernel
theorem dL_isShot_251 : decode cL_isShot 251 = .ok (.isub, 1) := by decide +kernel
theorem dL_isShot_252 : decode cL_isShot 252 = .ok (.invokestatic 116, 3) := by decide +kernel
theorem dL_isShot_255 : decode cL_isShot 255 = .ok (.iload 15, 2) := by decide +kernel
theorem dL_isShot_257 : decode cL_isShot 257 = .ok (.if_icmp .eq 5, 3) := by decide +kernel
theorem dL_isShot_260 : decode cL_isShot 260 = .ok (.iconst 0, 1) := by decide +kernel
theorem dL_isShot_261 : decode cL_isShot 261 = .ok (.ireturn, 1) := by decide +kernel
theorem dL_isShot_262 : decode cL_isShot 262 = .ok (.aload 9, 2) := by decide +kernel
theorem dL_isShot_264 : decode cL_isShot 264 = .ok (.invokestatic 108, 3) := by decide +kernel
theorem dL_isShot_267 : decode cL_isShot 267 = .ok (.iload_n 1, 1) := by decide +kernel
theorem dL_isShot_268 : decode cL_isShot 268 = .ok (.if_icmp .ne (-139), 3) := by decide +kernel
theorem dL_isShot_271 : decode cL_isShot 271 = .ok (.iconst 0, 1) := by decide +kernel
theorem dL_isShot_272 : decode cL_isShot 272 = .ok (.istore 13, 2) := by decide +kernel
theorem dL_isShot_274 : decode cL_isShot 274 = .ok (.iconst 0, 1) := by decide +kernel
theorem dL_isShot_275 : decode cL_isShot 275 = .ok (.istore 14, 2) := by decide +kernel
theorem dL_isShot_277 : decode cL_isShot 277 = .ok (.iload 14, 2) := by decide +kernel
theorem dL_isShot_279 : decode cL_isShot 279 = .ok (.bipush 64, 2) := by decide +kernel
theorem dL_isShot_281 : decode cL_isShot 281 = .ok (.if_icmp .ge 22, 3) := by decide +kernel
theorem dL_isShot_284 : decode cL_isShot 284 = .ok (.iload 13, 2) := by decide +kernel
theorem dL_isShot_286 : decode cL_isShot 286 = .ok (.lload 10, 2) := by decide +kernel
theorem dL_isShot_288 : decode cL_isShot 288 = .ok (.iload 14, 2) := by decide +kernel
theorem dL_isShot_290 : decode cL_isShot 290 = .ok (.lshr, 1) := by decide +kernel
theorem dL_isShot_291 : decode cL_isShot 291 = .ok (.lconst 1, 1) := by decide +kernel
theorem dL_isShot_292 : decode cL_isShot 292 = .ok (.land, 1) := by decide +kernel
theorem dL_isShot_293 : decode cL_isShot 293 = .ok (.l2i, 1) := by decide +kernel
theorem dL_isShot_294 : decode cL_isShot 294 = .ok (.iadd, 1) := by decide +kernel
theorem dL_isShot_295 : decode cL_isShot 295 = .ok (.istore 13, 2) := by decide +kernel
theorem dL_isShot_297 : decode cL_isShot 297 = .ok (.iinc 14 1, 3) := by decide +kernel
theorem dL_isShot_300 : decode cL_isShot 300 = .ok (.goto (-23), 3) := by decide +kernel
theorem dL_isShot_303 : decode cL_isShot 303 = .ok (.aload_n 0, 1) := by decide +kernel
theorem dL_isShot_304 : decode cL_isShot 304 = .ok (.iload 5, 2) := by decide +kernel
theorem dL_isShot_306 : decode cL_isShot 306 = .ok (.iload 6, 2) := by decide +kernel
theorem dL_isShot_308 : decode cL_isShot 308 = .ok (.iload 7, 2) := by decide +kernel
theorem dL_isShot_310 : decode cL_isShot 310 = .ok (.iload 8, 2) := by decide +kernel
theorem dL_isShot_312 : decode cL_isShot 312 = .ok (.invokestatic 96, 3) := by decide +kernel
theorem dL_isShot_315 : decode cL_isShot 315 = .ok (.aload 9, 2) := by decide +kernel
theorem dL_isShot_317 : decode cL_isShot 317 = .ok (.iconst 5, 1) := by decide +kernel
theorem dL_isShot_318 : decode cL_isShot 318 = .ok (.iaload, 1) := by decide +kernel
theorem dL_isShot_319 : decode cL_isShot 319 = .ok (.if_icmp .ne 86, 3) := by decide +kernel
theorem dL_isShot_322 : decode cL_isShot 322 = .ok (.aload_n 0, 1) := by decide +kernel
theorem dL_isShot_323 : decode cL_isShot 323 = .ok (.iload 5, 2) := by decide +kernel
theorem dL_isShot_325 : decode cL_isShot 325 = .ok (.iload 6, 2) := by decide +kernel
theorem dL_isShot_327 : decode cL_isShot 327 = .ok (.iload 7, 2) := by decide +kernel
theorem dL_isShot_329 : decode cL_isShot 329 = .ok (.iload 8, 2) := by decide +kernel
theorem dL_isShot_331 : decode cL_isShot 331 = .ok (.invokestatic 118, 3) := by decide +kernel
theorem dL_isShot_334 : decode cL_isShot 334 = .ok (.aload 9, 2) := by decide +kernel
theorem dL_isShot_336 : decode cL_isShot 336 = .ok (.iconst 5, 1) := by decide +kernel
theorem dL_isShot_337 : decode cL_isShot 337 = .ok (.iaload, 1) := by decide +kernel
theorem dL_isShot_338 : decode cL_isShot 338 = .ok (.if_icmp .ne 67, 3) := by decide +kernel
theorem dL_isShot_341 : decode cL_isShot 341 = .ok (.aload_n 0, 1) := by decide +kernel
theorem dL_isShot_342 : decode cL_isShot 342 = .ok (.iload 5, 2) := by decide +kernel
theorem dL_isShot_344 : decode cL_isShot 344 = .ok (.iload 6, 2) := by decide +kernel
theorem dL_isShot_346 : decode cL_isShot 346 = .ok (.iload 7, 2) := by decide +kernel
theorem dL_isShot_348 : decode cL_isShot 348 = .ok (.iload 8, 2) := by decide +kernel
theorem dL_isShot_350 : decode cL_isShot 350 = .ok (.invokestatic 120, 3) := by decide +kernel
theorem dL_isShot_353 : decode cL_isShot 353 = .ok (.aload 9, 2) := by decide +kernel
theorem dL_isShot_355 : decode cL_isShot 355 = .ok (.iconst 4, 1) := by decide +kernel
theorem dL_isShot_356 : decode cL_isShot 356 = .ok (.iaload, 1) := by decide +kernel
theorem dL_isShot_357 : decode cL_isShot 357 = .ok (.if_icmp .ne 48, 3) := by decide +kernel
theorem dL_isShot_360 : decode cL_isShot 360 = .ok (.aload_n 0, 1) := by decide +kernel
theorem dL_isShot_361 : decode cL_isShot 361 = .ok (.iload 5, 2) := by decide +kernel
theorem dL_isShot_363 : decode cL_isShot 363 = .ok (.iload 6, 2) := by decide +kernel
theorem dL_isShot_365 : decode cL_isShot 365 = .ok (.iload 7, 2) := by decide +kernel
theorem dL_isShot_367 : decode cL_isShot 367 = .ok (.iload 8, 2) := by decide +kernel
theorem dL_isShot_369 : decode cL_isShot 369 = .ok (.invokestatic 99, 3) := by decide +kernel
theorem dL_isShot_372 : decode cL_isShot 372 = .ok (.iload 13, 2) := by decide +kernel
theorem dL_isShot_374 : decode cL_isShot 374 = .ok (.if_icmp .ne 31, 3) := by decide +kernel
theorem dL_isShot_377 : decode cL_isShot 377 = .ok (.aload_n 0, 1) := by decide +kernel
theorem dL_isShot_378 : decode cL_isShot 378 = .ok (.iload 5, 2) := by decide +kernel
theorem dL_isShot_380 : decode cL_isShot 380 = .ok (.iload 6, 2) := by decide +kernel
theorem dL_isShot_382 : decode cL_isShot 382 = .ok (.iload 7, 2) := by decide +kernel
theorem dL_isShot_384 : decode cL_isShot 384 = .ok (.iload 8, 2) := by decide +kernel
theorem dL_isShot_386 : decode cL_isShot 386 = .ok (.sipush 1000, 3) := by decide +kernel
theorem dL_isShot_389 : decode cL_isShot 389 = .ok (.aload 9, 2) := by decide +kernel
theorem dL_isShot_391 : decode cL_isShot 391 = .ok (.iconst 5, 1) := by decide +kernel
theorem dL_isShot_392 : decode cL_isShot 392 = .ok (.iaload, 1) := by decide +kernel
theorem dL_isShot_393 : decode cL_isShot 393 = .ok (.imul, 1) := by decide +kernel
theorem dL_isShot_394 : decode cL_isShot 394 = .ok (.invokestatic 101, 3) := by decide +kernel
theorem dL_isShot_397 : decode cL_isShot 397 = .ok (.iload_n 1, 1) := by decide +kernel
theorem dL_isShot_398 : decode cL_isShot 398 = .ok (.if_icmp .ne 7, 3) := by decide +kernel
theorem dL_isShot_401 : decode cL_isShot 401 = .ok (.iconst 1, 1) := by decide +kernel
theorem dL_isShot_402 : decode cL_isShot 402 = .ok (.goto 4, 3) := by decide +kernel
theorem dL_isShot_405 : decode cL_isShot 405 = .ok (.iconst 0, 1) := by decide +kernel
theorem dL_isShot_406 : decode cL_isShot 406 = .ok (.ireturn, 1) := by decide +kernel
theorem dL_isHidden_0 : decode cL_isHidden 0 = .ok (.iload_n 0, 1) := by decide +kernel
theorem dL_isHidden_1 : decode cL_isHidden 1 = .ok (.iload_n 2, 1) := by decide +kernel
theorem dL_isHidden_2 : decode cL_isHidden 2 = .ok (.irem, 1) := by decide +kernel
theorem dL_isHidden_3 : decode cL_isHidden 3 = .ok (.ifCond .ne 11, 3) := by decide +kernel
theorem dL_isHidden_6 : decode cL_isHidden 6 = .ok (.iload_n 0, 1) := by decide +kernel
theorem dL_isHidden_7 : decode cL_isHidden 7 = .ok (.iload_n 2, 1) := by decide +kernel
theorem dL_isHidden_8 : decode cL_isHidden 8 = .ok (.idiv, 1) := by decide +kernel
theorem dL_isHidden_9 : decode cL_isHidden 9 = .ok (.iconst 1, 1) := by decide +kernel
theorem dL_isHidden_10 : decode cL_isHidden 10 = .ok (.isub, 1) := by decide +kernel
theorem dL_isHidden_11 : decode cL_isHidden 11 = .ok (.goto 6, 3) := by decide +kernel
theorem dL_isHidden_14 : decode cL_isHidden 14 = .ok (.iload_n 0, 1) := by decide +kernel
theorem dL_isHidden_15 : decode cL_isHidden 15 = .ok (.iload_n 2, 1) := by decide +kernel
theorem dL_isHidden_16 : decode cL_isHidden 16 = .ok (.idiv, 1) := by decide +kernel
theorem dL_isHidden_17 : decode cL_isHidden 17 = .ok (.istore 5, 2) := by decide +kernel
theorem dL_isHidden_19 : decode cL_isHidden 19 = .ok (.iload 5, 2) := by decide +kernel
theorem dL_isHidden_21 : decode cL_isHidden 21 = .ok (.iload_n 0, 1) := by decide +kernel
theorem dL_isHidden_22 : decode cL_isHidden 22 = .ok (.iload_n 2, 1) := by decide +kernel
theorem dL_isHidden_23 : decode cL_isHidden 23 = .ok (.idiv, 1) := by decide +kernel
theorem dL_isHidden_24 : decode cL_isHidden 24 = .ok (.if_icmp .gt 85, 3) := by decide +kernel
theorem dL_isHidden_27 : decode cL_isHidden 27 = .ok (.iload_n 1, 1) := by decide +kernel
theorem dL_isHidden_28 : decode cL_isHidden 28 = .ok (.iload_n 2, 1) := by decide +kernel
theorem dL_isHidden_29 : decode cL_isHidden 29 = .ok (.irem, 1) := by decide +kernel
theorem dL_isHidden_30 : decode cL_isHidden 30 = .ok (.ifCond .ne 11, 3) := by decide +kernel
theorem dL_isHidden_33 : decode cL_isHidden 33 = .ok (.iload_n 1, 1) := by decide +kernel
theorem dL_isHidden_34 : decode cL_isHidden 34 = .ok (.iload_n 2, 1) := by decide +kernel
theorem dL_isHidden_35 : decode cL_isHidden 35 = .ok (.idiv, 1) := by decide +kernel
theorem dL_isHidden_36 : decode cL_isHidden 36 = .ok (.iconst 1, 1) := by decide +kernel
theorem dL_isHidden_37 : decode cL_isHidden 37 = .ok (.isub, 1) := by decide +kernel
theorem dL_isHidden_38 : decode cL_isHidden 38 = .ok (.goto 6, 3) := by decide +kernel
theorem dL_isHidden_41 : decode cL_isHidden 41 = .ok (.iload_n 1, 1) := by decide +kernel
theorem dL_isHidden_42 : decode cL_isHidden 42 = .ok (.iload_n 2, 1) := by decide +kernel
theorem dL_isHidden_43 : decode cL_isHidden 43 = .ok (.idiv, 1) := by decide +kernel
theorem dL_isHidden_44 : decode cL_isHidden 44 = .ok (.istore 6, 2) := by decide +kernel
theorem dL_isHidden_46 : decode cL_isHidden 46 = .ok (.iload 6, 2) := by decide +kernel
theorem dL_isHidden_48 : decode cL_isHidden 48 = .ok (.iload_n 1, 1) := by decide +kernel
theorem dL_isHidden_49 : decode cL_isHidden 49 = .ok (.iload_n 2, 1) := by decide +kernel
theorem dL_isHidden_50 : decode cL_isHidden 50 = .ok (.idiv, 1) := by decide +kernel
theorem dL_isHidden_51 : decode cL_isHidden 51 = .ok (.if_icmp .gt 52, 3) := by decide +kernel
theorem dL_isHidden_54 : decode cL_isHidden 54 = .ok (.iload 5, 2) := by decide +kernel
theorem dL_isHidden_56 : decode cL_isHidden 56 = .ok (.ifCond .lt 41, 3) := by decide +kernel
theorem dL_isHidden_59 : decode cL_isHidden 59 = .ok (.iload 6, 2) := by decide +kernel
theorem dL_isHidden_61 : decode cL_isHidden 61 = .ok (.ifCond .lt 36, 3) := by decide +kernel
theorem dL_isHidden_64 : decode cL_isHidden 64 = .ok (.iload 5, 2) := by decide +kernel
theorem dL_isHidden_66 : decode cL_isHidden 66 = .ok (.bipush 8, 2) := by decide +kernel
theorem dL_isHidden_68 : decode cL_isHidden 68 = .ok (.if_icmp .ge 29, 3) := by decide +kernel
theorem dL_isHidden_71 : decode cL_isHidden 71 = .ok (.iload 6, 2) := by decide +kernel
theorem dL_isHidden_73 : decode cL_isHidden 73 = .ok (.bipush 8, 2) := by decide +kernel
theorem dL_isHidden_75 : decode cL_isHidden 75 = .ok (.if_icmp .ge 22, 3) := by decide +kernel
theorem dL_isHidden_78 : decode cL_isHidden 78 = .ok (.lload_n 3, 1) := by decide +kernel
theorem dL_isHidden_79 : decode cL_isHidden 79 = .ok (.bipush 8, 2) := by decide +kernel
theorem dL_isHidden_81 : decode cL_isHidden 81 = .ok (.iload 6, 2) := by decide +kernel
