theorem dL_isSurface_552 : decode cL_isSurface 552 = .ok (.ifCond .eq 16, 3) := by decide +kernel
theorem dL_isSurface_555 : decode cL_isSurface 555 = .ok (.aload_n 0, 1) := by decide +kernel
theorem dL_isSurface_556 : decode cL_isSurface 556 = .ok (.invokevirtual 180, 3) := by decide +kernel
theorem dL_isSurface_559 : decode cL_isSurface 559 = .ok (.iload_n 1, 1) := by decide +kernel
theorem dL_isSurface_560 : decode cL_isSurface 560 = .ok (.aload_n 2, 1) := by decide +kernel
theorem dL_isSurface_561 : decode cL_isSurface 561 = .ok (.aload_n 3, 1) := by decide +kernel
theorem dL_isSurface_562 : decode cL_isSurface 562 = .ok (.invokestatic 183, 3) := by decide +kernel
theorem dL_isSurface_565 : decode cL_isSurface 565 = .ok (.if_icmp .ne 7, 3) := by decide +kernel
theorem dL_isSurface_568 : decode cL_isSurface 568 = .ok (.iconst 1, 1) := by decide +kernel
theorem dL_isSurface_569 : decode cL_isSurface 569 = .ok (.goto 4, 3) := by decide +kernel
theorem dL_isSurface_572 : decode cL_isSurface 572 = .ok (.iconst 0, 1) := by decide +kernel
theorem dL_isSurface_573 : decode cL_isSurface 573 = .ok (.ireturn, 1) := by decide +kernel
theorem dL_goesTo_0 : decode cL_goesTo 0 = .ok (.iload_n 0, 1) := by decide +kernel
theorem dL_goesTo_1 : decode cL_goesTo 1 = .ok (.istore 4, 2) := by decide +kernel
theorem dL_goesTo_3 : decode cL_goesTo 3 = .ok (.iconst 0, 1) := by decide +kernel
theorem dL_goesTo_4 : decode cL_goesTo 4 = .ok (.istore 5, 2) := by decide +kernel
theorem dL_goesTo_6 : decode cL_goesTo 6 = .ok (.iload 4, 2) := by decide +kernel
theorem dL_goesTo_8 : decode cL_goesTo 8 = .ok (.aload_n 3, 1) := by decide +kernel
theorem dL_goesTo_9 : decode cL_goesTo 9 = .ok (.aload_n 3, 1) := by decide +kernel
theorem dL_goesTo_10 : decode cL_goesTo 10 = .ok (.iload_n 1, 1) := by decide +kernel
theorem dL_goesTo_11 : decode cL_goesTo 11 = .ok (.iload 5, 2) := by decide +kernel
theorem dL_goesTo_13 : decode cL_goesTo 13 = .ok (.iadd, 1) := by decide +kernel
theorem dL_goesTo_14 : decode cL_goesTo 14 = .ok (.iaload, 1) := by decide +kernel
theorem dL_goesTo_15 : decode cL_goesTo 15 = .ok (.iaload, 1) := by decide +kernel
theorem dL_goesTo_16 : decode cL_goesTo 16 = .ok (.if_icmp .lt 22, 3) := by decide +kernel
theorem dL_goesTo_19 : decode cL_goesTo 19 = .ok (.iload 4, 2) := by decide +kernel
theorem dL_goesTo_21 : decode cL_goesTo 21 = .ok (.aload_n 3, 1) := by decide +kernel
theorem dL_goesTo_22 : decode cL_goesTo 22 = .ok (.aload_n 3, 1) := by decide +kernel
theorem dL_goesTo_23 : decode cL_goesTo 23 = .ok (.iload_n 1, 1) := by decide +kernel
theorem dL_goesTo_24 : decode cL_goesTo 24 = .ok (.iload 5, 2) := by decide +kernel
theorem dL_goesTo_26 : decode cL_goesTo 26 = .ok (.iadd, 1) := by decide +kernel
theorem dL_goesTo_27 : decode cL_goesTo 27 = .ok (.iaload, 1) := by decide +kernel
theorem dL_goesTo_28 : decode cL_goesTo 28 = .ok (.iaload, 1) := by decide +kernel
theorem dL_goesTo_29 : decode cL_goesTo 29 = .ok (.isub, 1) := by decide +kernel
theorem dL_goesTo_30 : decode cL_goesTo 30 = .ok (.istore 4, 2) := by decide +kernel
theorem dL_goesTo_32 : decode cL_goesTo 32 = .ok (.iinc 5 1, 3) := by decide +kernel
theorem dL_goesTo_35 : decode cL_goesTo 35 = .ok (.goto (-29), 3) := by decide +kernel
theorem dL_goesTo_38 : decode cL_goesTo 38 = .ok (.iconst 0, 1) := by decide +kernel
theorem dL_goesTo_39 : decode cL_goesTo 39 = .ok (.istore 6, 2) := by decide +kernel
theorem dL_goesTo_41 : decode cL_goesTo 41 = .ok (.aload_n 3, 1) := by decide +kernel
theorem dL_goesTo_42 : decode cL_goesTo 42 = .ok (.iload_n 2, 1) := by decide +kernel
theorem dL_goesTo_43 : decode cL_goesTo 43 = .ok (.iload 6, 2) := by decide +kernel
theorem dL_goesTo_45 : decode cL_goesTo 45 = .ok (.iadd, 1) := by decide +kernel
theorem dL_goesTo_46 : decode cL_goesTo 46 = .ok (.iaload, 1) := by decide +kernel
theorem dL_goesTo_47 : decode cL_goesTo 47 = .ok (.aload_n 3, 1) := by decide +kernel
theorem dL_goesTo_48 : decode cL_goesTo 48 = .ok (.iload_n 1, 1) := by decide +kernel
theorem dL_goesTo_49 : decode cL_goesTo 49 = .ok (.iload 5, 2) := by decide +kernel
theorem dL_goesTo_51 : decode cL_goesTo 51 = .ok (.iadd, 1) := by decide +kernel
theorem dL_goesTo_52 : decode cL_goesTo 52 = .ok (.iaload, 1) := by decide +kernel
theorem dL_goesTo_53 : decode cL_goesTo 53 = .ok (.if_icmp .eq 22, 3) := by decide +kernel
theorem dL_goesTo_56 : decode cL_goesTo 56 = .ok (.iload 4, 2) := by decide +kernel
theorem dL_goesTo_58 : decode cL_goesTo 58 = .ok (.aload_n 3, 1) := by decide +kernel
theorem dL_goesTo_59 : decode cL_goesTo 59 = .ok (.aload_n 3, 1) := by decide +kernel
theorem dL_goesTo_60 : decode cL_goesTo 60 = .ok (.iload_n 2, 1) := by decide +kernel
theorem dL_goesTo_61 : decode cL_goesTo 61 = .ok (.iload 6, 2) := by decide +kernel
theorem dL_goesTo_63 : decode cL_goesTo 63 = .ok (.iadd, 1) := by decide +kernel
theorem dL_goesTo_64 : decode cL_goesTo 64 = .ok (.iaload, 1) := by decide +kernel
theorem dL_goesTo_65 : decode cL_goesTo 65 = .ok (.iaload, 1) := by decide +kernel
theorem dL_goesTo_66 : decode cL_goesTo 66 = .ok (.iadd, 1) := by decide +kernel
theorem dL_goesTo_67 : decode cL_goesTo 67 = .ok (.istore 4, 2) := by decide +kernel
theorem dL_goesTo_69 : decode cL_goesTo 69 = .ok (.iinc 6 1, 3) := by decide +kernel
theorem dL_goesTo_72 : decode cL_goesTo 72 = .ok (.goto (-31), 3) := by decide +kernel
theorem dL_goesTo_75 : decode cL_goesTo 75 = .ok (.iload 4, 2) := by decide +kernel
theorem dL_goesTo_77 : decode cL_goesTo 77 = .ok (.ireturn, 1) := by decide +kernel
set_option maxRecDepth 20000 in
theorem ggL_isExchange_L_told : GoodIn wsL_isExchange wsL_told := goodIn_ca (goodIn_ca (goodIn_r _ [4, 5, 6, 7, 8, 9, 10, 11, 12, 13, 14, 15, 16, 17, 18, 19, 20, 21, 22, 23, 24, 25, 26, 27, 28, 29, 30, 31, 32, 33, 34, 35, 36, 37, 38, 39, 40, 41, 42, 43, 44, 45, 134, 135, 136, 137, 138, 139, 140, 141, 142, 143] (by decide +kernel) (by decide +kernel)) (goodIn_sub (fun _ h => List.mem_cons_of_mem _ (List.mem_append_left _ (List.mem_append_right _ h))) (by decide +kernel))) (goodIn_sub (fun _ h => List.mem_cons_of_mem _ (List.mem_append_right _ h)) (by decide +kernel))
set_option maxRecDepth 20000 in
theorem gL_isExchange_L_told : GoodIn wsL_isExchange (va_wsS RL 186 yL_told wsL_told) := goodIn_app (goodIn_of _ (by decide +kernel)) ggL_isExchange_L_told
set_option maxRecDepth 20000 in
theorem ggL_isExchange_L_goesTo : GoodIn wsL_isExchange wsL_goesTo := goodIn_r _ [48] (by decide +kernel) (by decide +kernel)
set_option maxRecDepth 20000 in
theorem gL_isExchange_L_goesTo : GoodIn wsL_isExchange (va_wsS RL 188 yL_goesTo wsL_goesTo) := goodIn_app (goodIn_of _ (by decide +kernel)) ggL_isExchange_L_goesTo
set_option maxRecDepth 20000 in
theorem ggL_isExchange_X6_apart : GoodIn wsL_isExchange wsX6_apart := goodIn_r _ [52, 12, 53, 54, 55, 16, 56, 18, 33, 40, 34, 10, 35, 134, 135, 136, 137, 138, 139, 140, 141, 142, 143] (by decide +kernel) (by decide +kernel)
set_option maxRecDepth 20000 in
theorem gL_isExchange_X6_apart : GoodIn wsL_isExchange (wsV RL 192 RX6 yX6_apart wsX6_apart) := goodIn_app (goodIn_of _ (by decide +kernel)) ggL_isExchange_X6_apart
set_option maxRecDepth 20000 in
theorem ggL_isExchange_X6_cycles : GoodIn wsL_isExchange wsX6_cycles := goodIn_r _ [60, 12, 61, 62, 63, 16, 64, 65, 66, 67, 68, 69, 70, 71, 72, 73, 74, 75, 18, 45, 34, 10, 35, 76, 77, 78, 79, 80, 81, 82, 83, 84, 85, 86, 87, 88, 89, 90, 91, 33, 40, 92, 93, 94, 95, 96, 97, 98, 99, 134, 135, 136, 137, 138, 139, 140, 141, 142, 143, 144] (by decide +kernel) (by decide +kernel)
set_option maxRecDepth 20000 in
theorem gL_isExchange_X6_cycles : GoodIn wsL_isExchange (wsV RL 195 RX6 yX6_cycles wsX6_cycles) := goodIn_app (goodIn_of _ (by decide +kernel)) ggL_isExchange_X6_cycles
set_option maxRecDepth 20000 in
theorem ggL_isExchange_L_image : GoodIn wsL_isExchange wsL_image := goodIn_ca (goodIn_r _ [102, 5, 103, 104, 105, 10, 106, 12, 107, 73, 74, 16, 75, 18, 45, 34, 35, 19, 20, 21, 22, 23, 108, 89, 90, 91, 33, 40, 92, 93, 94, 95, 96, 97, 98, 99, 134, 135, 136, 137, 138, 139, 140, 141, 142, 143] (by decide +kernel) (by decide +kernel)) (goodIn_sub (fun _ h => List.mem_cons_of_mem _ (List.mem_append_left _ (List.mem_append_right _ h))) (by decide +kernel))
set_option maxRecDepth 20000 in
theorem gL_isExchange_L_image : GoodIn wsL_isExchange (va_wsS RL 198 yL_image wsL_image) := goodIn_app (goodIn_of _ (by decide +kernel)) ggL_isExchange_L_image
set_option maxRecDepth 20000 in
theorem ggL_isExchange_L_back : GoodIn wsL_isExchange wsL_back := goodIn_ca (goodIn_r _ [111, 5, 112, 113, 114, 10, 115, 12, 107, 73, 74, 16, 75, 18, 45, 34, 35, 19, 20, 21, 22, 23, 116, 117, 118, 119, 40, 33, 92, 93, 94, 95, 96, 97, 98, 99, 134, 135, 136, 137, 138, 139, 140, 141, 142, 143] (by decide +kernel) (by decide +kernel)) (goodIn_sub (fun _ h => List.mem_cons_of_mem _ (List.mem_append_left _ (List.mem_append_right _ h))) (by decide +kernel))
set_option maxRecDepth 20000 in
theorem gL_isExchange_L_back : GoodIn wsL_isExchange (va_wsS RL 200 yL_back wsL_back) := goodIn_app (goodIn_of _ (by decide +kernel)) ggL_isExchange_L_back
set_option maxRecDepth 20000 in
theorem ggL_isExchange_L_low : GoodIn wsL_isExchange wsL_low := goodIn_r _ [122] (by decide +kernel) (by decide +kernel)
set_option maxRecDepth 20000 in
theorem gL_isExchange_L_low : GoodIn wsL_isExchange (va_wsS RL 202 yL_low wsL_low) := goodIn_app (goodIn_of _ (by decide +kernel)) ggL_isExchange_L_low
set_option maxRecDepth 20000 in
theorem ggL_isExchange_L_cycle : GoodIn wsL_isExchange wsL_cycle := goodIn_ca (goodIn_r _ [125, 5, 126, 127, 128, 10, 129, 12, 107, 73, 74, 16, 75, 18, 45, 34, 35, 19, 20, 21, 22, 23, 130, 131, 132, 133, 88, 89, 90, 91, 33, 40, 92, 93, 94, 95, 96, 97, 98, 99, 134, 135, 136, 137, 138, 139, 140, 141, 142, 143] (by decide +kernel) (by decide +kernel)) (goodIn_sub (fun _ h => List.mem_cons_of_mem _ (List.mem_append_left _ (List.mem_append_right _ h))) (by decide +kernel))
set_option maxRecDepth 20000 in
theorem gL_isExchange_L_cycle : GoodIn wsL_isExchange (va_wsS RL 205 yL_cycle wsL_cycle) := goodIn_app (goodIn_of _ (by decide +kernel)) ggL_isExchange_L_cycle
theorem dL_isExchange_0 : decode cL_isExchange 0 = .ok (.iconst 0, 1) := by decide +kernel
theorem dL_isExchange_1 : decode cL_isExchange 1 = .ok (.istore_n 3, 1) := by decide +kernel
theorem dL_isExchange_2 : decode cL_isExchange 2 = .ok (.iconst 0, 1) := by decide +kernel
theorem dL_isExchange_3 : decode cL_isExchange 3 = .ok (.istore 4, 2) := by decide +kernel
theorem dL_isExchange_5 : decode cL_isExchange 5 = .ok (.iload 4, 2) := by decide +kernel
theorem dL_isExchange_7 : decode cL_isExchange 7 = .ok (.aload_n 2, 1) := by decide +kernel
theorem dL_isExchange_8 : decode cL_isExchange 8 = .ok (.bipush 18, 2) := by decide +kernel
theorem dL_isExchange_10 : decode cL_isExchange 10 = .ok (.iaload, 1) := by decide +kernel
theorem dL_isExchange_11 : decode cL_isExchange 11 = .ok (.if_icmp .ge 71, 3) := by decide +kernel
theorem dL_isExchange_14 : decode cL_isExchange 14 = .ok (.iload_n 3, 1) := by decide +kernel
theorem dL_isExchange_15 : decode cL_isExchange 15 = .ok (.aload_n 2, 1) := by decide +kernel
theorem dL_isExchange_16 : decode cL_isExchange 16 = .ok (.iload 4, 2) := by decide +kernel
theorem dL_isExchange_18 : decode cL_isExchange 18 = .ok (.iaload, 1) := by decide +kernel
theorem dL_isExchange_19 : decode cL_isExchange 19 = .ok (.iadd, 1) := by decide +kernel
theorem dL_isExchange_20 : decode cL_isExchange 20 = .ok (.istore_n 3, 1) := by decide +kernel
theorem dL_isExchange_21 : decode cL_isExchange 21 = .ok (.aload_n 0, 1) := by decide +kernel
theorem dL_isExchange_22 : decode cL_isExchange 22 = .ok (.iload 4, 2) := by decide +kernel
theorem dL_isExchange_24 : decode cL_isExchange 24 = .ok (.iconst 0, 1) := by decide +kernel
theorem dL_isExchange_25 : decode cL_isExchange 25 = .ok (.invokestatic 186, 3) := by decide +kernel
theorem dL_isExchange_28 : decode cL_isExchange 28 = .ok (.aload_n 2, 1) := by decide +kernel
theorem dL_isExchange_29 : decode cL_isExchange 29 = .ok (.bipush 6, 2) := by decide +kernel
theorem dL_isExchange_31 : decode cL_isExchange 31 = .ok (.iload 4, 2) := by decide +kernel
theorem dL_isExchange_33 : decode cL_isExchange 33 = .ok (.iadd, 1) := by decide +kernel
theorem dL_isExchange_34 : decode cL_isExchange 34 = .ok (.iaload, 1) := by decide +kernel
theorem dL_isExchange_35 : decode cL_isExchange 35 = .ok (.if_icmp .ne 39, 3) := by decide +kernel
theorem dL_isExchange_38 : decode cL_isExchange 38 = .ok (.aload_n 0, 1) := by decide +kernel
theorem dL_isExchange_39 : decode cL_isExchange 39 = .ok (.iload 4, 2) := by decide +kernel
theorem dL_isExchange_41 : decode cL_isExchange 41 = .ok (.iconst 1, 1) := by decide +kernel
theorem dL_isExchange_42 : decode cL_isExchange 42 = .ok (.invokestatic 186, 3) := by decide +kernel
theorem dL_isExchange_45 : decode cL_isExchange 45 = .ok (.aload_n 2, 1) := by decide +kernel
theorem dL_isExchange_46 : decode cL_isExchange 46 = .ok (.bipush 12, 2) := by decide +kernel
theorem dL_isExchange_48 : decode cL_isExchange 48 = .ok (.iload 4, 2) := by decide +kernel
theorem dL_isExchange_50 : decode cL_isExchange 50 = .ok (.iadd, 1) := by decide +kernel
theorem dL_isExchange_51 : decode cL_isExchange 51 = .ok (.iaload, 1) := by decide +kernel
theorem dL_isExchange_52 : decode cL_isExchange 52 = .ok (.if_icmp .ne 22, 3) := by decide +kernel
theorem dL_isExchange_55 : decode cL_isExchange 55 = .ok (.aload_n 0, 1) := by decide +kernel
theorem dL_isExchange_56 : decode cL_isExchange 56 = .ok (.iload 4, 2) := by decide +kernel
theorem dL_isExchange_58 : decode cL_isExchange 58 = .ok (.iconst 2, 1) := by decide +kernel
theorem dL_isExchange_59 : decode cL_isExchange 59 = .ok (.invokestatic 186, 3) := by decide +kernel
theorem dL_isExchange_62 : decode cL_isExchange 62 = .ok (.aload_n 2, 1) := by decide +kernel
theorem dL_isExchange_63 : decode cL_isExchange 63 = .ok (.aload_n 2, 1) := by decide +kernel
theorem dL_isExchange_64 : decode cL_isExchange 64 = .ok (.bipush 6, 2) := by decide +kernel
theorem dL_isExchange_66 : decode cL_isExchange 66 = .ok (.iload 4, 2) := by decide +kernel
theorem dL_isExchange_68 : decode cL_isExchange 68 = .ok (.iadd, 1) := by decide +kernel
theorem dL_isExchange_69 : decode cL_isExchange 69 = .ok (.iaload, 1) := by decide +kernel
theorem dL_isExchange_70 : decode cL_isExchange 70 = .ok (.iaload, 1) := by decide +kernel
theorem dL_isExchange_71 : decode cL_isExchange 71 = .ok (.if_icmp .eq 5, 3) := by decide +kernel
theorem dL_isExchange_74 : decode cL_isExchange 74 = .ok (.iconst 0, 1) := by decide +kernel
theorem dL_isExchange_75 : decode cL_isExchange 75 = .ok (.ireturn, 1) := by decide +kernel
theorem dL_isExchange_76 : decode cL_isExchange 76 = .ok (.iinc 4 1, 3) := by decide +kernel
theorem dL_isExchange_79 : decode cL_isExchange 79 = .ok (.goto (-74), 3) := by decide +kernel
theorem dL_isExchange_82 : decode cL_isExchange 82 = .ok (.iconst 0, 1) := by decide +kernel
theorem dL_isExchange_83 : decode cL_isExchange 83 = .ok (.istore 4, 2) := by decide +kernel
theorem dL_isExchange_85 : decode cL_isExchange 85 = .ok (.aload_n 2, 1) := by decide +kernel
theorem dL_isExchange_86 : decode cL_isExchange 86 = .ok (.bipush 18, 2) := by decide +kernel
theorem dL_isExchange_88 : decode cL_isExchange 88 = .ok (.iaload, 1) := by decide +kernel
theorem dL_isExchange_89 : decode cL_isExchange 89 = .ok (.istore 5, 2) := by decide +kernel
theorem dL_isExchange_91 : decode cL_isExchange 91 = .ok (.iload 5, 2) := by decide +kernel
theorem dL_isExchange_93 : decode cL_isExchange 93 = .ok (.ifCond .le 66, 3) := by decide +kernel
theorem dL_isExchange_96 : decode cL_isExchange 96 = .ok (.iconst 0, 1) := by decide +kernel
theorem dL_isExchange_97 : decode cL_isExchange 97 = .ok (.istore 6, 2) := by decide +kernel
theorem dL_isExchange_99 : decode cL_isExchange 99 = .ok (.iconst 0, 1) := by decide +kernel
theorem dL_isExchange_100 : decode cL_isExchange 100 = .ok (.istore 7, 2) := by decide +kernel
theorem dL_isExchange_102 : decode cL_isExchange 102 = .ok (.iload 7, 2) := by decide +kernel
theorem dL_isExchange_104 : decode cL_isExchange 104 = .ok (.iload 5, 2) := by decide +kernel
theorem dL_isExchange_106 : decode cL_isExchange 106 = .ok (.if_icmp .ge 33, 3) := by decide +kernel
theorem dL_isExchange_109 : decode cL_isExchange 109 = .ok (.iload 6, 2) := by decide +kernel
theorem dL_isExchange_111 : decode cL_isExchange 111 = .ok (.iconst 1, 1) := by decide +kernel
theorem dL_isExchange_112 : decode cL_isExchange 112 = .ok (.aload_n 2, 1) := by decide +kernel
theorem dL_isExchange_113 : decode cL_isExchange 113 = .ok (.bipush 6, 2) := by decide +kernel
theorem dL_isExchange_115 : decode cL_isExchange 115 = .ok (.iload 7, 2) := by decide +kernel
theorem dL_isExchange_117 : decode cL_isExchange 117 = .ok (.iadd, 1) := by decide +kernel
theorem dL_isExchange_118 : decode cL_isExchange 118 = .ok (.iaload, 1) := by decide +kernel
theorem dL_isExchange_119 : decode cL_isExchange 119 = .ok (.ishl, 1) := by decide +kernel
theorem dL_isExchange_120 : decode cL_isExchange 120 = .ok (.iconst 1, 1) := by decide +kernel
theorem dL_isExchange_121 : decode cL_isExchange 121 = .ok (.aload_n 2, 1) := by decide +kernel
theorem dL_isExchange_122 : decode cL_isExchange 122 = .ok (.bipush 12, 2) := by decide +kernel
theorem dL_isExchange_124 : decode cL_isExchange 124 = .ok (.iload 7, 2) := by decide +kernel
theorem dL_isExchange_126 : decode cL_isExchange 126 = .ok (.iadd, 1) := by decide +kernel
theorem dL_isExchange_127 : decode cL_isExchange 127 = .ok (.iaload, 1) := by decide +kernel
theorem dL_isExchange_128 : decode cL_isExchange 128 = .ok (.ishl, 1) := by decide +kernel
theorem dL_isExchange_129 : decode cL_isExchange 129 = .ok (.isub, 1) := by decide +kernel
theorem dL_isExchange_130 : decode cL_isExchange 130 = .ok (.iadd, 1) := by decide +kernel
theorem dL_isExchange_131 : decode cL_isExchange 131 = .ok (.istore 6, 2) := by decide +kernel
theorem dL_isExchange_133 : decode cL_isExchange 133 = .ok (.iinc 7 1, 3) := by decide +kernel
theorem dL_isExchange_136 : decode cL_isExchange 136 = .ok (.goto (-34), 3) := by decide +kernel
theorem dL_isExchange_139 : decode cL_isExchange 139 = .ok (.iload 6, 2) := by decide +kernel
theorem dL_isExchange_141 : decode cL_isExchange 141 = .ok (.ifCond .ne 8, 3) := by decide +kernel
theorem dL_isExchange_144 : decode cL_isExchange 144 = .ok (.iload 5, 2) := by decide +kernel
theorem dL_isExchange_146 : decode cL_isExchange 146 = .ok (.goto 5, 3) := by decide +kernel
theorem dL_isExchange_149 : decode cL_isExchange 149 = .ok (.iload 4, 2) := by decide +kernel
theorem dL_isExchange_151 : decode cL_isExchange 151 = .ok (.istore 4, 2) := by decide +kernel
theorem dL_isExchange_153 : decode cL_isExchange 153 = .ok (.iinc 5 (-1), 3) := by decide +kernel
theorem dL_isExchange_156 : decode cL_isExchange 156 = .ok (.goto (-65), 3) := by decide +kernel
theorem dL_isExchange_159 : decode cL_isExchange 159 = .ok (.iconst 0, 1) := by decide +kernel
theorem dL_isExchange_160 : decode cL_isExchange 160 = .ok (.istore 5, 2) := by decide +kernel
theorem dL_isExchange_162 : decode cL_isExchange 162 = .ok (.iconst 0, 1) := by decide +kernel
theorem dL_isExchange_163 : decode cL_isExchange 163 = .ok (.istore 6, 2) := by decide +kernel
theorem dL_isExchange_165 : decode cL_isExchange 165 = .ok (.iload 6, 2) := by decide +kernel
theorem dL_isExchange_167 : decode cL_isExchange 167 = .ok (.iload_n 3, 1) := by decide +kernel
theorem dL_isExchange_168 : decode cL_isExchange 168 = .ok (.if_icmp .ge 60, 3) := by decide +kernel
theorem dL_isExchange_171 : decode cL_isExchange 171 = .ok (.iload 6, 2) := by decide +kernel
theorem dL_isExchange_173 : decode cL_isExchange 173 = .ok (.bipush 6, 2) := by decide +kernel
theorem dL_isExchange_175 : decode cL_isExchange 175 = .ok (.bipush 12, 2) := by decide +kernel
theorem dL_isExchange_177 : decode cL_isExchange 177 = .ok (.aload_n 2, 1) := by decide +kernel
theorem dL_isExchange_178 : decode cL_isExchange 178 = .ok (.invokestatic 188, 3) := by decide +kernel
theorem dL_isExchange_181 : decode cL_isExchange 181 = .ok (.istore 7, 2) := by decide +kernel
theorem dL_isExchange_183 : decode cL_isExchange 183 = .ok (.iload 7, 2) := by decide +kernel
theorem dL_isExchange_185 : decode cL_isExchange 185 = .ok (.iload 6, 2) := by decide +kernel
theorem dL_isExchange_187 : decode cL_isExchange 187 = .ok (.if_icmp .le 18, 3) := by decide +kernel
theorem dL_isExchange_190 : decode cL_isExchange 190 = .ok (.iload 7, 2) := by decide +kernel
theorem dL_isExchange_192 : decode cL_isExchange 192 = .ok (.bipush 6, 2) := by decide +kernel
theorem dL_isExchange_194 : decode cL_isExchange 194 = .ok (.bipush 12, 2) := by decide +kernel
theorem dL_isExchange_196 : decode cL_isExchange 196 = .ok (.aload_n 2, 1) := by decide +kernel
theorem dL_isExchange_197 : decode cL_isExchange 197 = .ok (.invokestatic 188, 3) := by decide +kernel
theorem dL_isExchange_200 : decode cL_isExchange 200 = .ok (.istore 7, 2) := by decide +kernel
theorem dL_isExchange_202 : decode cL_isExchange 202 = .ok (.goto (-19), 3) := by decide +kernel
theorem dL_isExchange_205 : decode cL_isExchange 205 = .ok (.iload 5, 2) := by decide +kernel
theorem dL_isExchange_207 : decode cL_isExchange 207 = .ok (.iload 7, 2) := by decide +kernel
theorem dL_isExchange_209 : decode cL_isExchange 209 = .ok (.iload 6, 2) := by decide +kernel
theorem dL_isExchange_211 : decode cL_isExchange 211 = .ok (.if_icmp .ne 7, 3) := by decide +kernel
theorem dL_isExchange_214 : decode cL_isExchange 214 = .ok (.iconst 1, 1) := by decide +kernel
theorem dL_isExchange_215 : decode cL_isExchange 215 = .ok (.goto 4, 3) := by decide +kernel
theorem dL_isExchange_218 : decode cL_isExchange 218 = .ok (.iconst 0, 1) := by decide +kernel
theorem dL_isExchange_219 : decode cL_isExchange 219 = .ok (.iadd, 1) := by decide +kernel
theorem dL_isExchange_220 : decode cL_isExchange 220 = .ok (.istore 5, 2) := by decide +kernel
theorem dL_isExchange_222 : decode cL_isExchange 222 = .ok (.iinc 6 1, 3) := by decide +kernel
theorem dL_isExchange_225 : decode cL_isExchange 225 = .ok (.goto (-60), 3) := by decide +kernel
theorem dL_isExchange_228 : decode cL_isExchange 228 = .ok (.aload_n 0, 1) := by decide +kernel
theorem dL_isExchange_229 : decode cL_isExchange 229 = .ok (.invokevirtual 192, 3) := by decide +kernel
theorem dL_isExchange_232 : decode cL_isExchange 232 = .ok (.iload 4, 2) := by decide +kernel
theorem dL_isExchange_234 : decode cL_isExchange 234 = .ok (.if_icmp .ne 49, 3) := by decide +kernel
theorem dL_isExchange_237 : decode cL_isExchange 237 = .ok (.aload_n 0, 1) := by decide +kernel
theorem dL_isExchange_238 : decode cL_isExchange 238 = .ok (.invokevirtual 195, 3) := by decide +kernel
theorem dL_isExchange_241 : decode cL_isExchange 241 = .ok (.iload 5, 2) := by decide +kernel
theorem dL_isExchange_243 : decode cL_isExchange 243 = .ok (.if_icmp .ne 40, 3) := by decide +kernel
theorem dL_isExchange_246 : decode cL_isExchange 246 = .ok (.aload_n 0, 1) := by decide +kernel
theorem dL_isExchange_247 : decode cL_isExchange 247 = .ok (.iload_n 3, 1) := by decide +kernel
theorem dL_isExchange_248 : decode cL_isExchange 248 = .ok (.invokestatic 198, 3) := by decide +kernel
theorem dL_isExchange_251 : decode cL_isExchange 251 = .ok (.sipush (-7100), 3) := by decide +kernel
theorem dL_isExchange_254 : decode cL_isExchange 254 = .ok (.if_icmp .ne 29, 3) := by decide +kernel
theorem dL_isExchange_257 : decode cL_isExchange 257 = .ok (.aload_n 0, 1) := by decide +kernel
theorem dL_isExchange_258 : decode cL_isExchange 258 = .ok (.iconst (-1), 1) := by decide +kernel
theorem dL_isExchange_259 : decode cL_isExchange 259 = .ok (.invokestatic 200, 3) := by decide +kernel
theorem dL_isExchange_262 : decode cL_isExchange 262 = .ok (.sipush (-7100), 3) := by decide +kernel
theorem dL_isExchange_265 : decode cL_isExchange 265 = .ok (.if_icmp .ne 18, 3) := by decide +kernel
theorem dL_isExchange_268 : decode cL_isExchange 268 = .ok (.aload_n 0, 1) := by decide +kernel
theorem dL_isExchange_269 : decode cL_isExchange 269 = .ok (.aload_n 2, 1) := by decide +kernel
theorem dL_isExchange_270 : decode cL_isExchange 270 = .ok (.bipush 18, 2) := by decide +kernel
theorem dL_isExchange_272 : decode cL_isExchange 272 = .ok (.iaload, 1) := by decide +kernel
theorem dL_isExchange_273 : decode cL_isExchange 273 = .ok (.iconst 0, 1) := by decide +kernel
theorem dL_isExchange_274 : decode cL_isExchange 274 = .ok (.invokestatic 186, 3) := by decide +kernel
theorem dL_isExchange_277 : decode cL_isExchange 277 = .ok (.sipush (-7100), 3) := by decide +kernel
theorem dL_isExchange_280 : decode cL_isExchange 280 = .ok (.if_icmp .eq 5, 3) := by decide +kernel
theorem dL_isExchange_283 : decode cL_isExchange 283 = .ok (.iconst 0, 1) := by decide +kernel
theorem dL_isExchange_284 : decode cL_isExchange 284 = .ok (.ireturn, 1) := by decide +kernel
theorem dL_isExchange_285 : decode cL_isExchange 285 = .ok (.iload_n 3, 1) := by decide +kernel
theorem dL_isExchange_286 : decode cL_isExchange 286 = .ok (.ifCond .ne 5, 3) := by decide +kernel
theorem dL_isExchange_289 : decode cL_isExchange 289 = .ok (.iconst 1, 1) := by decide +kernel
theorem dL_isExchange_290 : decode cL_isExchange 290 = .ok (.ireturn, 1) := by decide +kernel
theorem dL_isExchange_291 : decode cL_isExchange 291 = .ok (.iload_n 1, 1) := by decide +kernel
theorem dL_isExchange_292 : decode cL_isExchange 292 = .ok (.iload_n 3, 1) := by decide +kernel
theorem dL_isExchange_293 : decode cL_isExchange 293 = .ok (.invokestatic 202, 3) := by decide +kernel
theorem dL_isExchange_296 : decode cL_isExchange 296 = .ok (.istore 6, 2) := by decide +kernel
theorem dL_isExchange_298 : decode cL_isExchange 298 = .ok (.iconst 1, 1) := by decide +kernel
theorem dL_isExchange_299 : decode cL_isExchange 299 = .ok (.istore 7, 2) := by decide +kernel
theorem dL_isExchange_301 : decode cL_isExchange 301 = .ok (.iload 6, 2) := by decide +kernel
theorem dL_isExchange_303 : decode cL_isExchange 303 = .ok (.bipush 6, 2) := by decide +kernel
theorem dL_isExchange_305 : decode cL_isExchange 305 = .ok (.bipush 12, 2) := by decide +kernel
theorem dL_isExchange_307 : decode cL_isExchange 307 = .ok (.aload_n 2, 1) := by decide +kernel
theorem dL_isExchange_308 : decode cL_isExchange 308 = .ok (.invokestatic 188, 3) := by decide +kernel
theorem dL_isExchange_311 : decode cL_isExchange 311 = .ok (.istore 8, 2) := by decide +kernel
theorem dL_isExchange_313 : decode cL_isExchange 313 = .ok (.iload 8, 2) := by decide +kernel
theorem dL_isExchange_315 : decode cL_isExchange 315 = .ok (.iload 6, 2) := by decide +kernel
theorem dL_isExchange_317 : decode cL_isExchange 317 = .ok (.if_icmp .eq 21, 3) := by decide +kernel
theorem dL_isExchange_320 : decode cL_isExchange 320 = .ok (.iinc 7 1, 3) := by decide +kernel
theorem dL_isExchange_323 : decode cL_isExchange 323 = .ok (.iload 8, 2) := by decide +kernel
theorem dL_isExchange_325 : decode cL_isExchange 325 = .ok (.bipush 6, 2) := by decide +kernel
theorem dL_isExchange_327 : decode cL_isExchange 327 = .ok (.bipush 12, 2) := by decide +kernel
theorem dL_isExchange_329 : decode cL_isExchange 329 = .ok (.aload_n 2, 1) := by decide +kernel
theorem dL_isExchange_330 : decode cL_isExchange 330 = .ok (.invokestatic 188, 3) := by decide +kernel
theorem dL_isExchange_333 : decode cL_isExchange 333 = .ok (.istore 8, 2) := by decide +kernel
theorem dL_isExchange_335 : decode cL_isExchange 335 = .ok (.goto (-22), 3) := by decide +kernel
theorem dL_isExchange_338 : decode cL_isExchange 338 = .ok (.aload_n 0, 1) := by decide +kernel
theorem dL_isExchange_339 : decode cL_isExchange 339 = .ok (.iload 6, 2) := by decide +kernel
theorem dL_isExchange_341 : decode cL_isExchange 341 = .ok (.invokestatic 198, 3) := by decide +kernel
theorem dL_isExchange_344 : decode cL_isExchange 344 = .ok (.iload 6, 2) := by decide +kernel
theorem dL_isExchange_346 : decode cL_isExchange 346 = .ok (.bipush 6, 2) := by decide +kernel
theorem dL_isExchange_348 : decode cL_isExchange 348 = .ok (.bipush 12, 2) := by decide +kernel
theorem dL_isExchange_350 : decode cL_isExchange 350 = .ok (.aload_n 2, 1) := by decide +kernel
theorem dL_isExchange_351 : decode cL_isExchange 351 = .ok (.invokestatic 188, 3) := by decide +kernel
theorem dL_isExchange_354 : decode cL_isExchange 354 = .ok (.if_icmp .ne 37, 3) := by decide +kernel
theorem dL_isExchange_357 : decode cL_isExchange 357 = .ok (.aload_n 0, 1) := by decide +kernel
theorem dL_isExchange_358 : decode cL_isExchange 358 = .ok (.iload 6, 2) := by decide +kernel
theorem dL_isExchange_360 : decode cL_isExchange 360 = .ok (.invokestatic 200, 3) := by decide +kernel
theorem dL_isExchange_363 : decode cL_isExchange 363 = .ok (.iload 6, 2) := by decide +kernel
theorem dL_isExchange_365 : decode cL_isExchange 365 = .ok (.bipush 12, 2) := by decide +kernel
theorem dL_isExchange_367 : decode cL_isExchange 367 = .ok (.bipush 6, 2) := by decide +kernel
theorem dL_isExchange_369 : decode cL_isExchange 369 = .ok (.aload_n 2, 1) := by decide +kernel
theorem dL_isExchange_370 : decode cL_isExchange 370 = .ok (.invokestatic 188, 3) := by decide +kernel
theorem dL_isExchange_373 : decode cL_isExchange 373 = .ok (.if_icmp .ne 18, 3) := by decide +kernel
theorem dL_isExchange_376 : decode cL_isExchange 376 = .ok (.aload_n 0, 1) := by decide +kernel
theorem dL_isExchange_377 : decode cL_isExchange 377 = .ok (.iload 6, 2) := by decide +kernel
theorem dL_isExchange_379 : decode cL_isExchange 379 = .ok (.invokestatic 205, 3) := by decide +kernel
theorem dL_isExchange_382 : decode cL_isExchange 382 = .ok (.iload 7, 2) := by decide +kernel
theorem dL_isExchange_384 : decode cL_isExchange 384 = .ok (.if_icmp .ne 7, 3) := by decide +kernel
theorem dL_isExchange_387 : decode cL_isExchange 387 = .ok (.iconst 1, 1) := by decide +kernel
theorem dL_isExchange_388 : decode cL_isExchange 388 = .ok (.goto 4, 3) := by decide +kernel
theorem dL_isExchange_391 : decode cL_isExchange 391 = .ok (.iconst 0, 1) := by decide +kernel
theorem dL_isExchange_392 : decode cL_isExchange 392 = .ok (.ireturn, 1) := by decide +kernel
theorem dL_puts_0 : decode cL_puts 0 = .ok (.aload_n 2, 1) := by decide +kernel
theorem dL_puts_1 : decode cL_puts 1 = .ok (.iload_n 0, 1) := by decide +kernel
theorem dL_puts_2 : decode cL_puts 2 = .ok (.aload_n 2, 1) := by decide +kernel
theorem dL_puts_3 : decode cL_puts 3 = .ok (.bipush 18, 2) := by decide +kernel
theorem dL_puts_5 : decode cL_puts 5 = .ok (.iaload, 1) := by decide +kernel
theorem dL_puts_6 : decode cL_puts 6 = .ok (.iadd, 1) := by decide +kernel
theorem dL_puts_7 : decode cL_puts 7 = .ok (.iconst 1, 1) := by decide +kernel
theorem dL_puts_8 : decode cL_puts 8 = .ok (.isub, 1) := by decide +kernel
theorem dL_puts_9 : decode cL_puts 9 = .ok (.iaload, 1) := by decide +kernel
theorem dL_puts_10 : decode cL_puts 10 = .ok (.istore_n 3, 1) := by decide +kernel
theorem dL_puts_11 : decode cL_puts 11 = .ok (.aload_n 2, 1) := by decide +kernel
theorem dL_puts_12 : decode cL_puts 12 = .ok (.bipush 18, 2) := by decide +kernel
theorem dL_puts_14 : decode cL_puts 14 = .ok (.iaload, 1) := by decide +kernel
theorem dL_puts_15 : decode cL_puts 15 = .ok (.iconst 1, 1) := by decide +kernel
theorem dL_puts_16 : decode cL_puts 16 = .ok (.isub, 1) := by decide +kernel
theorem dL_puts_17 : decode cL_puts 17 = .ok (.istore 4, 2) := by decide +kernel
theorem dL_puts_19 : decode cL_puts 19 = .ok (.aload_n 2, 1) := by decide +kernel
theorem dL_puts_20 : decode cL_puts 20 = .ok (.iload_n 0, 1) := by decide +kernel
theorem dL_puts_21 : decode cL_puts 21 = .ok (.iload 4, 2) := by decide +kernel
theorem dL_puts_23 : decode cL_puts 23 = .ok (.iadd, 1) := by decide +kernel
theorem dL_puts_24 : decode cL_puts 24 = .ok (.iconst 1, 1) := by decide +kernel
theorem dL_puts_25 : decode cL_puts 25 = .ok (.isub, 1) := by decide +kernel
theorem dL_puts_26 : decode cL_puts 26 = .ok (.iaload, 1) := by decide +kernel
theorem dL_puts_27 : decode cL_puts 27 = .ok (.iload_n 1, 1) := by decide +kernel
theorem dL_puts_28 : decode cL_puts 28 = .ok (.if_icmp .eq 32, 3) := by decide +kernel
theorem dL_puts_31 : decode cL_puts 31 = .ok (.aload_n 2, 1) := by decide +kernel
theorem dL_puts_32 : decode cL_puts 32 = .ok (.iload_n 0, 1) := by decide +kernel
theorem dL_puts_33 : decode cL_puts 33 = .ok (.iload 4, 2) := by decide +kernel
theorem dL_puts_35 : decode cL_puts 35 = .ok (.iadd, 1) := by decide +kernel
theorem dL_puts_36 : decode cL_puts 36 = .ok (.aload_n 2, 1) := by decide +kernel
theorem dL_puts_37 : decode cL_puts 37 = .ok (.iload_n 0, 1) := by decide +kernel
theorem dL_puts_38 : decode cL_puts 38 = .ok (.iload 4, 2) := by decide +kernel
theorem dL_puts_40 : decode cL_puts 40 = .ok (.iadd, 1) := by decide +kernel
theorem dL_puts_41 : decode cL_puts 41 = .ok (.iconst 1, 1) := by decide +kernel
theorem dL_puts_42 : decode cL_puts 42 = .ok (.isub, 1) := by decide +kernel
theorem dL_puts_43 : decode cL_puts 43 = .ok (.iaload, 1) := by decide +kernel
theorem dL_puts_44 : decode cL_puts 44 = .ok (.iastore, 1) := by decide +kernel
theorem dL_puts_45 : decode cL_puts 45 = .ok (.aload_n 2, 1) := by decide +kernel
theorem dL_puts_46 : decode cL_puts 46 = .ok (.iload_n 0, 1) := by decide +kernel
theorem dL_puts_47 : decode cL_puts 47 = .ok (.iload 4, 2) := by decide +kernel
theorem dL_puts_49 : decode cL_puts 49 = .ok (.iadd, 1) := by decide +kernel
theorem dL_puts_50 : decode cL_puts 50 = .ok (.iconst 1, 1) := by decide +kernel
theorem dL_puts_51 : decode cL_puts 51 = .ok (.isub, 1) := by decide +kernel
theorem dL_puts_52 : decode cL_puts 52 = .ok (.iload_n 3, 1) := by decide +kernel
theorem dL_puts_53 : decode cL_puts 53 = .ok (.iastore, 1) := by decide +kernel
theorem dL_puts_54 : decode cL_puts 54 = .ok (.iinc 4 (-1), 3) := by decide +kernel
theorem dL_puts_57 : decode cL_puts 57 = .ok (.goto (-38), 3) := by decide +kernel
theorem dL_puts_60 : decode cL_puts 60 = .ok (.return_, 1) := by decide +kernel
set_option maxRecDepth 20000 in
theorem ggL_law_X6_init : GoodIn wsL_law wsX6_init := goodIn_r _ [8, 9, 10, 11, 12, 13, 14, 15, 16, 17, 18, 19, 20, 21, 22, 23, 24, 25, 26, 27, 28, 29, 30, 31, 32, 33, 34, 35, 36, 37, 38, 39, 40, 41, 42, 43, 44, 45, 46, 47, 3, 48, 49, 50, 51, 52, 53, 54, 55, 56, 57, 58, 59, 60, 61, 62, 63, 64, 65, 66, 67, 68, 69, 70, 71, 72, 73, 74, 75, 76, 77, 714, 715, 709, 710, 711, 712, 713, 716, 717, 718, 719, 720, 721, 722, 723, 724, 725, 726, 727, 728, 729, 730, 731, 732, 733, 734, 735] (by decide +kernel) (by decide +kernel)
set_option maxRecDepth 20000 in
theorem gL_law_X6_init : GoodIn wsL_law (wsX6_init) := ggL_law_X6_init
set_option maxRecDepth 20000 in
theorem ggL_law_L_cell : GoodIn wsL_law wsL_cell := goodIn_r _ [81, 82] (by decide +kernel) (by decide +kernel)
set_option maxRecDepth 20000 in
theorem gL_law_L_cell : GoodIn wsL_law (va_wsS RL 208 yL_cell wsL_cell) := goodIn_app (goodIn_of _ (by decide +kernel)) ggL_law_L_cell
set_option maxRecDepth 20000 in
theorem ggL_law_L_low : GoodIn wsL_law wsL_low := goodIn_r _ [85] (by decide +kernel) (by decide +kernel)
set_option maxRecDepth 20000 in
theorem gL_law_L_low : GoodIn wsL_law (va_wsS RL 202 yL_low wsL_low) := goodIn_app (goodIn_of _ (by decide +kernel)) ggL_law_L_low
set_option maxRecDepth 20000 in
theorem ggL_law_L_block : GoodIn wsL_law wsL_block := goodIn_ca (goodIn_r _ [88, 89, 90, 91, 92, 2, 93, 15, 94, 95, 96, 97, 98, 99, 100, 101, 102, 103, 104, 14, 105, 39, 106, 107, 108, 109, 110, 709, 710, 711, 712, 713, 714, 715] (by decide +kernel) (by decide +kernel)) (goodIn_sub (fun _ h => List.mem_append_left _ (List.mem_append_left _ (List.mem_append_right _ h))) (by decide +kernel))
set_option maxRecDepth 20000 in
theorem gL_law_L_block : GoodIn wsL_law (va_wsS RL 212 yL_block wsL_block) := goodIn_app (goodIn_of _ (by decide +kernel)) ggL_law_L_block
set_option maxRecDepth 20000 in
theorem ggL_law_L_lamp : GoodIn wsL_law wsL_lamp := goodIn_ca (goodIn_ca (goodIn_r _ [113, 89, 114, 115, 116, 117, 2, 118, 119, 120, 19, 94, 95, 96, 97, 98, 99, 100, 101, 121, 122, 123, 18, 124, 49, 125, 126, 127, 128, 48, 129, 130, 709, 710, 711, 712, 713, 716, 717] (by decide +kernel) (by decide +kernel)) (goodIn_sub (fun _ h => List.mem_append_left _ (List.mem_append_right _ h)) (by decide +kernel))) (goodIn_sub (fun _ h => List.mem_append_left _ (List.mem_append_left _ (List.mem_append_right _ h))) (by decide +kernel))
set_option maxRecDepth 20000 in
theorem gL_law_L_lamp : GoodIn wsL_law (va_wsS RL 217 yL_lamp wsL_lamp) := goodIn_app (goodIn_of _ (by decide +kernel)) ggL_law_L_lamp
set_option maxRecDepth 20000 in
theorem ggL_law_L_interval : GoodIn wsL_law wsL_interval := goodIn_ca (goodIn_ca (goodIn_r _ [133, 134, 114, 135, 136, 137, 2, 138, 119, 120, 31, 139, 140, 141, 142, 143, 144, 145, 146, 30, 147, 77, 148, 149, 150, 151, 72, 73, 74, 129, 130, 709, 710, 711, 712, 713, 730, 731, 732, 733, 734] (by decide +kernel) (by decide +kernel)) (goodIn_sub (fun _ h => List.mem_append_left _ (List.mem_append_right _ h)) (by decide +kernel))) (goodIn_sub (fun _ h => List.mem_append_right _ h) (by decide +kernel))
set_option maxRecDepth 20000 in
theorem gL_law_L_interval : GoodIn wsL_law (va_wsS RL 219 yL_interval wsL_interval) := goodIn_app (goodIn_of _ (by decide +kernel)) ggL_law_L_interval
set_option maxRecDepth 20000 in
theorem ggL_law_L_swap : GoodIn wsL_law wsL_swap := goodIn_ca (goodIn_r _ [154, 89, 155, 156, 157, 2, 158, 31, 159, 160, 161, 30, 162, 77, 163, 164, 165, 97, 98, 166, 167, 168, 169, 74, 170, 171, 172, 173, 174, 175, 129, 130, 709, 710, 711, 712, 713, 730, 731, 732, 733, 734] (by decide +kernel) (by decide +kernel)) (goodIn_sub (fun _ h => List.mem_append_left _ (List.mem_append_left _ (List.mem_append_right _ h))) (by decide +kernel))
set_option maxRecDepth 20000 in
theorem gL_law_L_swap : GoodIn wsL_law (va_wsS RL 221 yL_swap wsL_swap) := goodIn_app (goodIn_of _ (by decide +kernel)) ggL_law_L_swap
set_option maxRecDepth 20000 in
theorem ggL_law_L_induce : GoodIn wsL_law wsL_induce := goodIn_ca (goodIn_r _ [178, 114, 179, 180, 181, 2, 182, 119, 120, 31, 183, 184, 185, 30, 186, 73, 77, 74, 72, 173, 174, 187, 188, 189, 190, 129, 130, 191, 192, 193, 194, 195, 196, 172, 197, 198, 199, 200, 709, 710, 711, 712, 713, 730, 731, 732, 733, 734] (by decide +kernel) (by decide +kernel)) (goodIn_sub (fun _ h => List.mem_append_left _ (List.mem_append_right _ h)) (by decide +kernel))
set_option maxRecDepth 20000 in
theorem gL_law_L_induce : GoodIn wsL_law (va_wsS RL 223 yL_induce wsL_induce) := goodIn_app (goodIn_of _ (by decide +kernel)) ggL_law_L_induce
set_option maxRecDepth 20000 in
theorem ggL_law_L_puts : GoodIn wsL_law wsL_puts := goodIn_r _ [203] (by decide +kernel) (by decide +kernel)
set_option maxRecDepth 20000 in
theorem gL_law_L_puts : GoodIn wsL_law (va_wsS RL 225 yL_puts wsL_puts) := goodIn_app (goodIn_of _ (by decide +kernel)) ggL_law_L_puts
set_option maxRecDepth 20000 in
theorem ggL_law_L_surface : GoodIn wsL_law wsL_surface := goodIn_ca (goodIn_r _ [206, 134, 207, 208, 209, 2, 210, 23, 139, 140, 141, 142, 143, 211, 212, 213, 22, 214, 61, 215, 216, 217, 218, 53, 54, 129, 130, 219, 220, 221, 222, 55, 56, 223, 224, 225, 226, 173, 174, 227, 228, 229, 230, 709, 710, 711, 712, 713, 718, 719, 720, 721, 722, 723, 724, 725, 726] (by decide +kernel) (by decide +kernel)) (goodIn_sub (fun _ h => List.mem_append_right _ h) (by decide +kernel))
set_option maxRecDepth 20000 in
theorem gL_law_L_surface : GoodIn wsL_law (va_wsS RL 229 yL_surface wsL_surface) := goodIn_app (goodIn_of _ (by decide +kernel)) ggL_law_L_surface
set_option maxRecDepth 20000 in
theorem ggL_law_L_glue : GoodIn wsL_law wsL_glue := goodIn_ca (goodIn_r _ [233, 89, 234, 235, 236, 2, 237, 23, 211, 212, 213, 22, 214, 61, 163, 164, 165, 97, 98, 238, 239, 240, 241, 54, 53, 170, 171, 172, 173, 174, 175, 129, 130, 219, 220, 221, 222, 55, 56, 223, 224, 225, 226, 227, 228, 229, 230, 709, 710, 711, 712, 713, 718, 719, 720, 721, 722, 723, 724, 725, 726] (by decide +kernel) (by decide +kernel)) (goodIn_sub (fun _ h => List.mem_append_left _ (List.mem_append_left _ (List.mem_append_right _ h))) (by decide +kernel))
set_option maxRecDepth 20000 in
theorem gL_law_L_glue : GoodIn wsL_law (va_wsS RL 231 yL_glue wsL_glue) := goodIn_app (goodIn_of _ (by decide +kernel)) ggL_law_L_glue
set_option maxRecDepth 20000 in
theorem ggL_law_L_shears : GoodIn wsL_law wsL_shears := goodIn_r _ [244, 3] (by decide +kernel) (by decide +kernel)
set_option maxRecDepth 20000 in
theorem gL_law_L_shears : GoodIn wsL_law (va_wsS RL 154 yL_shears wsL_shears) := goodIn_app (goodIn_of _ (by decide +kernel)) ggL_law_L_shears
set_option maxRecDepth 20000 in
theorem ggL_law_L_turns : GoodIn wsL_law wsL_turns := goodIn_r _ [247, 3] (by decide +kernel) (by decide +kernel)
set_option maxRecDepth 20000 in
theorem gL_law_L_turns : GoodIn wsL_law (va_wsS RL 158 yL_turns wsL_turns) := goodIn_app (goodIn_of _ (by decide +kernel)) ggL_law_L_turns
set_option maxRecDepth 20000 in
theorem ggL_law_X6_shear : GoodIn wsL_law wsX6_shear := goodIn_r _ [251, 23, 252, 253, 254, 22, 255, 61, 57, 54, 223, 224, 225, 226, 53, 173, 2, 174, 227, 228, 229, 230, 129, 130, 219, 220, 221, 222, 55, 56, 256, 257, 258, 259, 60, 260, 261, 262, 263, 264, 265, 266, 267, 268, 269, 270, 271, 272, 273, 274, 275, 58, 59, 276, 277, 278, 279, 709, 710, 711, 712, 713, 718, 719, 720, 721, 722, 723, 724, 725, 726] (by decide +kernel) (by decide +kernel)
set_option maxRecDepth 20000 in
theorem gL_law_X6_shear : GoodIn wsL_law (wsV RL 233 RX6 yX6_shear wsX6_shear) := goodIn_app (goodIn_of _ (by decide +kernel)) ggL_law_X6_shear
set_option maxRecDepth 20000 in
theorem ggL_law_X6_turn : GoodIn wsL_law wsX6_turn := goodIn_r _ [283, 23, 284, 285, 286, 22, 287, 61, 57, 53, 54, 288, 289, 290, 291, 55, 173, 2, 174, 129, 130, 227, 228, 229, 230, 219, 220, 221, 222, 56, 223, 224, 225, 226, 256, 257, 258, 259, 60, 260, 261, 262, 263, 264, 265, 266, 267, 268, 269, 270, 271, 272, 273, 274, 275, 58, 59, 276, 277, 278, 279, 709, 710, 711, 712, 713, 718, 719, 720, 721, 722, 723, 724, 725, 726] (by decide +kernel) (by decide +kernel)
set_option maxRecDepth 20000 in
theorem gL_law_X6_turn : GoodIn wsL_law (wsV RL 236 RX6 yX6_turn wsX6_turn) := goodIn_app (goodIn_of _ (by decide +kernel)) ggL_law_X6_turn
set_option maxRecDepth 20000 in
theorem ggL_law_L_codeOf : GoodIn wsL_law wsL_codeOf := goodIn_r _ [294, 3, 295, 296, 297, 80, 298, 299, 300, 301] (by decide +kernel) (by decide +kernel)
set_option maxRecDepth 20000 in
theorem gL_law_L_codeOf : GoodIn wsL_law (va_wsS RL 146 yL_codeOf wsL_codeOf) := goodIn_app (goodIn_of _ (by decide +kernel)) ggL_law_L_codeOf
set_option maxRecDepth 20000 in
theorem ggL_law_L_isShot : GoodIn wsL_law wsL_isShot := goodIn_ca (goodIn_ca (goodIn_ca (goodIn_r _ [304, 3, 305, 306, 80, 307, 308, 309, 310, 89, 134, 114, 311, 312, 313, 2, 314, 15, 315, 316, 317, 318, 119, 120, 94, 95, 96, 97, 98, 99, 100, 101, 139, 140, 141, 142, 143, 102, 103, 104, 14, 105, 39, 319, 320, 321, 322, 323, 324, 325, 326, 327, 328, 329, 330, 331, 332, 333, 334, 335, 336, 337, 338, 339, 340, 341, 342, 343, 344, 345, 346, 347, 348, 349, 350, 351, 352, 353, 354, 355, 356, 357, 358, 359, 360, 361, 362, 363, 364, 365, 366, 367, 368, 369, 370, 371, 372, 373, 374, 375, 376, 377, 378, 379, 380, 381, 382, 383, 384, 385, 386, 387, 388, 389, 390, 391, 392, 393, 394, 395, 396, 397, 398, 399, 400, 401, 402, 403, 404, 405, 406, 407, 408, 409, 410, 411, 412, 413, 414, 415, 416, 417, 418, 419, 420, 421, 422, 423, 424, 425, 426, 427, 428, 429, 430, 431, 432, 433, 434, 435, 436, 437, 438, 439, 440, 441, 442, 443, 444, 445, 446, 447, 448, 709, 710, 711, 712, 713, 714, 715] (by decide +kernel) (by decide +kernel)) (goodIn_sub (fun _ h => List.mem_append_left _ (List.mem_append_right _ h)) (by decide +kernel))) (goodIn_sub (fun _ h => List.mem_append_left _ (List.mem_append_left _ (List.mem_append_right _ h))) (by decide +kernel))) (goodIn_sub (fun _ h => List.mem_append_right _ h) (by decide +kernel))
set_option maxRecDepth 20000 in
theorem gL_law_L_isShot : GoodIn wsL_law (va_wsS RL 240 yL_isShot wsL_isShot) := goodIn_app (goodIn_of _ (by decide +kernel)) ggL_law_L_isShot
set_option maxRecDepth 20000 in
theorem ggL_law_L_isSight : GoodIn wsL_law wsL_isSight := goodIn_r _ [451, 305, 306, 80, 307, 452, 453, 454] (by decide +kernel) (by decide +kernel)
set_option maxRecDepth 20000 in
theorem gL_law_L_isSight : GoodIn wsL_law (va_wsS RL 126 yL_isSight wsL_isSight) := goodIn_app (goodIn_of _ (by decide +kernel)) ggL_law_L_isSight
set_option maxRecDepth 20000 in
theorem ggL_law_L_sees : GoodIn wsL_law wsL_sees := goodIn_ca (goodIn_r _ [457, 89, 458, 459, 460, 2, 461, 15, 94, 95, 96, 97, 98, 99, 100, 101, 462, 463, 18, 464, 465, 466, 467, 468, 469, 470, 471, 472, 103, 104, 14, 105, 39, 473, 474, 475, 476, 477, 478, 709, 710, 711, 712, 713, 714, 715] (by decide +kernel) (by decide +kernel)) (goodIn_sub (fun _ h => List.mem_append_left _ (List.mem_append_left _ (List.mem_append_right _ h))) (by decide +kernel))
set_option maxRecDepth 20000 in
theorem gL_law_L_sees : GoodIn wsL_law (va_wsS RL 244 yL_sees wsL_sees) := goodIn_app (goodIn_of _ (by decide +kernel)) ggL_law_L_sees
set_option maxRecDepth 20000 in
theorem ggL_law_L_seesAnew : GoodIn wsL_law wsL_seesAnew := goodIn_ca (goodIn_r _ [481, 89, 482, 483, 484, 2, 485, 15, 94, 95, 96, 97, 98, 99, 100, 101, 486, 487, 18, 488, 476, 477, 467, 478, 472, 103, 104, 14, 105, 39, 489, 490, 262, 491, 709, 710, 711, 712, 713, 714, 715] (by decide +kernel) (by decide +kernel)) (goodIn_sub (fun _ h => List.mem_append_left _ (List.mem_append_left _ (List.mem_append_right _ h))) (by decide +kernel))
set_option maxRecDepth 20000 in
theorem gL_law_L_seesAnew : GoodIn wsL_law (va_wsS RL 247 yL_seesAnew wsL_seesAnew) := goodIn_app (goodIn_of _ (by decide +kernel)) ggL_law_L_seesAnew
set_option maxRecDepth 20000 in
theorem ggL_law_L_areLit : GoodIn wsL_law wsL_areLit := goodIn_r _ [494, 305, 306, 80, 307, 449, 450, 451, 452, 453, 454, 495, 496, 497, 2, 498, 19, 15, 499, 500, 501, 18, 502, 503, 504, 505, 506, 49, 48, 173, 174, 507, 463, 464, 465, 466, 467, 468, 469, 470, 471, 472, 103, 104, 14, 105, 39, 100, 101, 473, 474, 475, 476, 477, 478, 508, 509, 510, 511, 512, 513, 514, 515, 377, 378, 379, 380, 381, 382, 383, 709, 710, 711, 712, 713, 716, 717, 714, 715] (by decide +kernel) (by decide +kernel)
set_option maxRecDepth 20000 in
theorem gL_law_L_areLit : GoodIn wsL_law (va_wsS RL 249 yL_areLit wsL_areLit) := goodIn_app (goodIn_of _ (by decide +kernel)) ggL_law_L_areLit
set_option maxRecDepth 20000 in
theorem ggL_law_L_isSurface : GoodIn wsL_law wsL_isSurface := goodIn_ca (goodIn_ca (goodIn_ca (goodIn_r _ [518, 3, 519, 520, 80, 521, 296, 297, 298, 522, 523, 524, 89, 134, 525, 526, 527, 2, 528, 23, 211, 212, 213, 22, 214, 61, 163, 164, 165, 97, 98, 139, 140, 141, 142, 143, 529, 224, 225, 226, 53, 173, 174, 530, 228, 229, 230, 54, 531, 289, 290, 291, 55, 532, 533, 534, 535, 56, 536, 537, 538, 539, 540, 541, 542, 543, 544, 545, 546, 547, 548, 549, 550, 551, 552, 553, 554, 223, 555, 556, 557, 558, 227, 260, 261, 262, 263, 264, 265, 266, 559, 560, 561, 562, 563, 564, 565, 566, 567, 568, 569, 570, 571, 572, 573, 574, 575, 114, 576, 577, 578, 579, 119, 120, 580, 581, 582, 583, 256, 257, 258, 259, 60, 267, 268, 269, 270, 271, 272, 273, 274, 275, 58, 59, 276, 277, 278, 279, 129, 130, 292, 293, 294, 295, 299, 300, 301, 584, 585, 586, 587, 27, 588, 589, 590, 26, 591, 68, 66, 67, 592, 593, 594, 595, 596, 597, 598, 599, 219, 220, 221, 222, 600, 253, 254, 255, 57, 601, 602, 285, 286, 287, 288, 603, 604, 605, 606, 607, 608, 242, 243, 244, 245, 246, 247, 709, 710, 711, 712, 713, 718, 719, 720, 721, 722, 723, 724, 725, 726, 727, 728, 729] (by decide +kernel) (by decide +kernel)) (goodIn_sub (fun _ h => List.mem_append_left _ (List.mem_append_left _ (List.mem_append_right _ h))) (by decide +kernel))) (goodIn_sub (fun _ h => List.mem_append_right _ h) (by decide +kernel))) (goodIn_sub (fun _ h => List.mem_append_left _ (List.mem_append_right _ h)) (by decide +kernel))
set_option maxRecDepth 20000 in
theorem gL_law_L_isSurface : GoodIn wsL_law (va_wsS RL 253 yL_isSurface wsL_isSurface) := goodIn_app (goodIn_of _ (by decide +kernel)) ggL_law_L_isSurface
set_option maxRecDepth 20000 in
theorem ggL_law_L_isExchange : GoodIn wsL_law wsL_isExchange := goodIn_ca (goodIn_ca (goodIn_r _ [611, 612, 613, 80, 614, 89, 134, 615, 616, 617, 2, 618, 31, 159, 160, 161, 30, 162, 77, 163, 164, 165, 97, 98, 139, 140, 141, 142, 143, 619, 620, 621, 622, 73, 173, 174, 623, 624, 625, 626, 74, 627, 628, 629, 630, 72, 631, 632, 633, 634, 635, 636, 637, 638, 639, 640, 641, 642, 643, 644, 645, 646, 647, 648, 649, 76, 650, 651, 652, 37, 653, 44, 654, 198, 199, 200, 655, 656, 657, 658, 659, 660, 661, 662, 663, 664, 665, 666, 667, 668, 669, 670, 671, 672, 673, 674, 675, 676, 677, 678, 679, 680, 681, 682, 683, 684, 685, 197, 686, 687, 688, 689, 690, 691, 692, 693, 694, 695, 696, 697, 83, 84, 85, 698, 699, 700, 701, 702, 703, 704, 705, 706, 707, 708, 709, 710, 711, 712, 713, 730, 731, 732, 733, 734, 735] (by decide +kernel) (by decide +kernel)) (goodIn_sub (fun _ h => List.mem_append_left _ (List.mem_append_left _ (List.mem_append_right _ h))) (by decide +kernel))) (goodIn_sub (fun _ h => List.mem_append_right _ h) (by decide +kernel))
set_option maxRecDepth 20000 in
theorem gL_law_L_isExchange : GoodIn wsL_law (va_wsS RL 257 yL_isExchange wsL_isExchange) := goodIn_app (goodIn_of _ (by decide +kernel)) ggL_law_L_isExchange
set_option maxRecDepth 20000 in
theorem ggL_law_L_period : GoodIn wsL_law wsL_period := goodIn_ca (goodIn_ca (goodIn_ca (goodIn_r _ [310, 89, 134, 114, 311, 312, 313, 2, 314, 15, 315, 316, 317, 318, 119, 120, 94, 95, 96, 97, 98, 99, 100, 101, 139, 140, 141, 142, 143, 102, 103, 104, 14, 105, 39, 319, 320, 321, 322, 323, 324, 325, 326, 327, 328, 329, 330, 331, 332, 333, 334, 335, 336, 337, 338, 339, 340, 341, 342, 343, 344, 345, 346, 347, 348, 349, 350, 351, 352, 353, 354, 355, 356, 357, 358, 359, 360, 361, 362, 363, 364, 365, 709, 710, 711, 712, 713, 714, 715] (by decide +kernel) (by decide +kernel)) (goodIn_sub (fun _ h => List.mem_append_left _ (List.mem_append_right _ h)) (by decide +kernel))) (goodIn_sub (fun _ h => List.mem_append_left _ (List.mem_append_left _ (List.mem_append_right _ h))) (by decide +kernel))) (goodIn_sub (fun _ h => List.mem_append_right _ h) (by decide +kernel))
set_option maxRecDepth 20000 in
theorem gL_law_L_period : GoodIn wsL_law (va_wsS RL 96 yL_period wsL_period) := goodIn_app (goodIn_of _ (by decide +kernel)) ggL_law_L_period
theorem dL_law_0 : decode cL_law 0 = .ok (.new 9, 3) := by decide +kernel
theorem dL_law_3 : decode cL_law 3 = .ok (.dup, 1) := by decide +kernel
theorem dL_law_4 : decode cL_law 4 = .ok (.invokespecial 207, 3) := by decide +kernel
theorem dL_law_7 : decode cL_law 7 = .ok (.astore_n 1, 1) := by decide +kernel
theorem dL_law_8 : decode cL_law 8 = .ok (.lconst 0, 1) := by decide +kernel
theorem dL_law_9 : decode cL_law 9 = .ok (.lstore_n 2, 1) := by decide +kernel
theorem dL_law_10 : decode cL_law 10 = .ok (.bipush 6, 2) := by decide +kernel
theorem dL_law_12 : decode cL_law 12 = .ok (.newarray .int, 2) := by decide +kernel
theorem dL_law_14 : decode cL_law 14 = .ok (.astore 4, 2) := by decide +kernel
theorem dL_law_16 : decode cL_law 16 = .ok (.iconst 0, 1) := by decide +kernel
theorem dL_law_17 : decode cL_law 17 = .ok (.istore 5, 2) := by decide +kernel
theorem dL_law_19 : decode cL_law 19 = .ok (.iconst 1, 1) := by decide +kernel
theorem dL_law_20 : decode cL_law 20 = .ok (.istore 6, 2) := by decide +kernel
theorem dL_law_22 : decode cL_law 22 = .ok (.iconst 5, 1) := by decide +kernel
theorem dL_law_23 : decode cL_law 23 = .ok (.newarray .int, 2) := by decide +kernel
theorem dL_law_25 : decode cL_law 25 = .ok (.astore 7, 2) := by decide +kernel
theorem dL_law_27 : decode cL_law 27 = .ok (.iconst 5, 1) := by decide +kernel
theorem dL_law_28 : decode cL_law 28 = .ok (.newarray .int, 2) := by decide +kernel
theorem dL_law_30 : decode cL_law 30 = .ok (.astore 8, 2) := by decide +kernel
theorem dL_law_32 : decode cL_law 32 = .ok (.bipush 19, 2) := by decide +kernel
theorem dL_law_34 : decode cL_law 34 = .ok (.newarray .int, 2) := by decide +kernel
theorem dL_law_36 : decode cL_law 36 = .ok (.astore 9, 2) := by decide +kernel
theorem dL_law_38 : decode cL_law 38 = .ok (.iconst 0, 1) := by decide +kernel
theorem dL_law_39 : decode cL_law 39 = .ok (.istore 10, 2) := by decide +kernel
theorem dL_law_41 : decode cL_law 41 = .ok (.iload 10, 2) := by decide +kernel
theorem dL_law_43 : decode cL_law 43 = .ok (.bipush 70, 2) := by decide +kernel
theorem dL_law_45 : decode cL_law 45 = .ok (.if_icmp .ge 1267, 3) := by decide +kernel
theorem dL_law_48 : decode cL_law 48 = .ok (.aload_n 0, 1) := by decide +kernel
theorem dL_law_49 : decode cL_law 49 = .ok (.iconst 2, 1) := by decide +kernel
theorem dL_law_50 : decode cL_law 50 = .ok (.iload 10, 2) := by decide +kernel
theorem dL_law_52 : decode cL_law 52 = .ok (.imul, 1) := by decide +kernel
theorem dL_law_53 : decode cL_law 53 = .ok (.invokestatic 208, 3) := by decide +kernel
theorem dL_law_56 : decode cL_law 56 = .ok (.istore 11, 2) := by decide +kernel
theorem dL_law_58 : decode cL_law 58 = .ok (.aload_n 0, 1) := by decide +kernel
theorem dL_law_59 : decode cL_law 59 = .ok (.iconst 2, 1) := by decide +kernel
theorem dL_law_60 : decode cL_law 60 = .ok (.iload 10, 2) := by decide +kernel
theorem dL_law_62 : decode cL_law 62 = .ok (.imul, 1) := by decide +kernel
theorem dL_law_63 : decode cL_law 63 = .ok (.iconst 1, 1) := by decide +kernel
theorem dL_law_64 : decode cL_law 64 = .ok (.iadd, 1) := by decide +kernel
theorem dL_law_65 : decode cL_law 65 = .ok (.invokestatic 208, 3) := by decide +kernel
theorem dL_law_68 : decode cL_law 68 = .ok (.istore 12, 2) := by decide +kernel
theorem dL_law_70 : decode cL_law 70 = .ok (.iconst 1, 1) := by decide +kernel
theorem dL_law_71 : decode cL_law 71 = .ok (.istore 13, 2) := by decide +kernel
theorem dL_law_73 : decode cL_law 73 = .ok (.iload 10, 2) := by decide +kernel
theorem dL_law_75 : decode cL_law 75 = .ok (.iconst 3, 1) := by decide +kernel
theorem dL_law_76 : decode cL_law 76 = .ok (.if_icmp .ge 7, 3) := by decide +kernel
theorem dL_law_79 : decode cL_law 79 = .ok (.iconst 4, 1) := by decide +kernel
theorem dL_law_80 : decode cL_law 80 = .ok (.goto 21, 3) := by decide +kernel
theorem dL_law_83 : decode cL_law 83 = .ok (.iload 10, 2) := by decide +kernel
theorem dL_law_85 : decode cL_law 85 = .ok (.iconst 5, 1) := by decide +kernel
theorem dL_law_86 : decode cL_law 86 = .ok (.if_icmp .ge 8, 3) := by decide +kernel
theorem dL_law_89 : decode cL_law 89 = .ok (.bipush 8, 2) := by decide +kernel
theorem dL_law_91 : decode cL_law 91 = .ok (.goto 10, 3) := by decide +kernel
theorem dL_law_94 : decode cL_law 94 = .ok (.iload 11, 2) := by decide +kernel
theorem dL_law_96 : decode cL_law 96 = .ok (.bipush 12, 2) := by decide +kernel
theorem dL_law_98 : decode cL_law 98 = .ok (.invokestatic 202, 3) := by decide +kernel
theorem dL_law_101 : decode cL_law 101 = .ok (.tableswitch 918 0 10 #[59, 59, 59, 175, 243, 344, 446, 446, 698, 782, 782], 59) := by decide +kernel
theorem dL_law_160 : decode cL_law 160 = .ok (.iconst 0, 1) := by decide +kernel
theorem dL_law_161 : decode cL_law 161 = .ok (.istore 14, 2) := by decide +kernel
theorem dL_law_163 : decode cL_law 163 = .ok (.iload 14, 2) := by decide +kernel
theorem dL_law_165 : decode cL_law 165 = .ok (.iconst 3, 1) := by decide +kernel
theorem dL_law_166 : decode cL_law 166 = .ok (.if_icmp .ge 107, 3) := by decide +kernel
theorem dL_law_169 : decode cL_law 169 = .ok (.iload 12, 2) := by decide +kernel
theorem dL_law_171 : decode cL_law 171 = .ok (.bipush 6, 2) := by decide +kernel
theorem dL_law_173 : decode cL_law 173 = .ok (.iload 14, 2) := by decide +kernel
theorem dL_law_175 : decode cL_law 175 = .ok (.imul, 1) := by decide +kernel
theorem dL_law_176 : decode cL_law 176 = .ok (.ishr, 1) := by decide +kernel
theorem dL_law_177 : decode cL_law 177 = .ok (.bipush 64, 2) := by decide +kernel
theorem dL_law_179 : decode cL_law 179 = .ok (.invokestatic 202, 3) := by decide +kernel
theorem dL_law_182 : decode cL_law 182 = .ok (.istore 15, 2) := by decide +kernel
theorem dL_law_184 : decode cL_law 184 = .ok (.iload 12, 2) := by decide +kernel
theorem dL_law_186 : decode cL_law 186 = .ok (.bipush 20, 2) := by decide +kernel
theorem dL_law_188 : decode cL_law 188 = .ok (.iload 14, 2) := by decide +kernel
theorem dL_law_190 : decode cL_law 190 = .ok (.iadd, 1) := by decide +kernel
theorem dL_law_191 : decode cL_law 191 = .ok (.ishr, 1) := by decide +kernel
theorem dL_law_192 : decode cL_law 192 = .ok (.iconst 4, 1) := by decide +kernel
theorem dL_law_193 : decode cL_law 193 = .ok (.invokestatic 202, 3) := by decide +kernel
theorem dL_law_196 : decode cL_law 196 = .ok (.ifCond .le 7, 3) := by decide +kernel
theorem dL_law_199 : decode cL_law 199 = .ok (.iconst 1, 1) := by decide +kernel
theorem dL_law_200 : decode cL_law 200 = .ok (.goto 4, 3) := by decide +kernel
theorem dL_law_203 : decode cL_law 203 = .ok (.iconst 0, 1) := by decide +kernel
theorem dL_law_204 : decode cL_law 204 = .ok (.istore 16, 2) := by decide +kernel
theorem dL_law_206 : decode cL_law 206 = .ok (.iload 13, 2) := by decide +kernel
theorem dL_law_208 : decode cL_law 208 = .ok (.aload_n 1, 1) := by decide +kernel
theorem dL_law_209 : decode cL_law 209 = .ok (.iload 15, 2) := by decide +kernel
theorem dL_law_211 : decode cL_law 211 = .ok (.bipush 8, 2) := by decide +kernel
theorem dL_law_213 : decode cL_law 213 = .ok (.irem, 1) := by decide +kernel
theorem dL_law_214 : decode cL_law 214 = .ok (.iload 15, 2) := by decide +kernel
theorem dL_law_216 : decode cL_law 216 = .ok (.bipush 8, 2) := by decide +kernel
theorem dL_law_218 : decode cL_law 218 = .ok (.idiv, 1) := by decide +kernel
theorem dL_law_219 : decode cL_law 219 = .ok (.iload 16, 2) := by decide +kernel
theorem dL_law_221 : decode cL_law 221 = .ok (.invokestatic 212, 3) := by decide +kernel
theorem dL_law_224 : decode cL_law 224 = .ok (.lload_n 2, 1) := by decide +kernel
theorem dL_law_225 : decode cL_law 225 = .ok (.iload 15, 2) := by decide +kernel
theorem dL_law_227 : decode cL_law 227 = .ok (.lshr, 1) := by decide +kernel
theorem dL_law_228 : decode cL_law 228 = .ok (.lconst 1, 1) := by decide +kernel
theorem dL_law_229 : decode cL_law 229 = .ok (.land, 1) := by decide +kernel
theorem dL_law_230 : decode cL_law 230 = .ok (.l2i, 1) := by decide +kernel
theorem dL_law_231 : decode cL_law 231 = .ok (.if_icmp .ne 7, 3) := by decide +kernel
theorem dL_law_234 : decode cL_law 234 = .ok (.iconst 1, 1) := by decide +kernel
theorem dL_law_235 : decode cL_law 235 = .ok (.goto 4, 3) := by decide +kernel
theorem dL_law_238 : decode cL_law 238 = .ok (.iconst 0, 1) := by decide +kernel
theorem dL_law_239 : decode cL_law 239 = .ok (.iand, 1) := by decide +kernel
theorem dL_law_240 : decode cL_law 240 = .ok (.istore 13, 2) := by decide +kernel
theorem dL_law_242 : decode cL_law 242 = .ok (.iload 16, 2) := by decide +kernel
theorem dL_law_244 : decode cL_law 244 = .ok (.ifCond .eq 12, 3) := by decide +kernel
theorem dL_law_247 : decode cL_law 247 = .ok (.lload_n 2, 1) := by decide +kernel
theorem dL_law_248 : decode cL_law 248 = .ok (.lconst 1, 1) := by decide +kernel
theorem dL_law_249 : decode cL_law 249 = .ok (.iload 15, 2) := by decide +kernel
theorem dL_law_251 : decode cL_law 251 = .ok (.lshl, 1) := by decide +kernel
theorem dL_law_252 : decode cL_law 252 = .ok (.lor, 1) := by decide +kernel
theorem dL_law_253 : decode cL_law 253 = .ok (.goto 13, 3) := by decide +kernel
theorem dL_law_256 : decode cL_law 256 = .ok (.lload_n 2, 1) := by decide +kernel
theorem dL_law_257 : decode cL_law 257 = .ok (.lconst 1, 1) := by decide +kernel
theorem dL_law_258 : decode cL_law 258 = .ok (.iload 15, 2) := by decide +kernel
theorem dL_law_260 : decode cL_law 260 = .ok (.lshl, 1) := by decide +kernel
theorem dL_law_261 : decode cL_law 261 = .ok (.ldc2_w 215, 3) := by decide +kernel
theorem dL_law_264 : decode cL_law 264 = .ok (.lxor, 1) := by decide +kernel
theorem dL_law_265 : decode cL_law 265 = .ok (.land, 1) := by decide +kernel
theorem dL_law_266 : decode cL_law 266 = .ok (.lstore_n 2, 1) := by decide +kernel
theorem dL_law_267 : decode cL_law 267 = .ok (.iinc 14 1, 3) := by decide +kernel
theorem dL_law_270 : decode cL_law 270 = .ok (.goto (-107), 3) := by decide +kernel
theorem dL_law_273 : decode cL_law 273 = .ok (.goto 811, 3) := by decide +kernel
theorem dL_law_276 : decode cL_law 276 = .ok (.iload 12, 2) := by decide +kernel
theorem dL_law_278 : decode cL_law 278 = .ok (.bipush 64, 2) := by decide +kernel
theorem dL_law_280 : decode cL_law 280 = .ok (.invokestatic 202, 3) := by decide +kernel
theorem dL_law_283 : decode cL_law 283 = .ok (.istore 14, 2) := by decide +kernel
theorem dL_law_285 : decode cL_law 285 = .ok (.aload_n 1, 1) := by decide +kernel
theorem dL_law_286 : decode cL_law 286 = .ok (.iload 14, 2) := by decide +kernel
theorem dL_law_288 : decode cL_law 288 = .ok (.bipush 8, 2) := by decide +kernel
theorem dL_law_290 : decode cL_law 290 = .ok (.irem, 1) := by decide +kernel
theorem dL_law_291 : decode cL_law 291 = .ok (.iload 14, 2) := by decide +kernel
theorem dL_law_293 : decode cL_law 293 = .ok (.bipush 8, 2) := by decide +kernel
theorem dL_law_295 : decode cL_law 295 = .ok (.idiv, 1) := by decide +kernel
theorem dL_law_296 : decode cL_law 296 = .ok (.invokestatic 217, 3) := by decide +kernel
theorem dL_law_299 : decode cL_law 299 = .ok (.iload 5, 2) := by decide +kernel
theorem dL_law_301 : decode cL_law 301 = .ok (.bipush 6, 2) := by decide +kernel
theorem dL_law_303 : decode cL_law 303 = .ok (.if_icmp .ne 9, 3) := by decide +kernel
theorem dL_law_306 : decode cL_law 306 = .ok (.sipush (-7300), 3) := by decide +kernel
theorem dL_law_309 : decode cL_law 309 = .ok (.goto 5, 3) := by decide +kernel
theorem dL_law_312 : decode cL_law 312 = .ok (.iload 5, 2) := by decide +kernel
theorem dL_law_314 : decode cL_law 314 = .ok (.if_icmp .ne 7, 3) := by decide +kernel
theorem dL_law_317 : decode cL_law 317 = .ok (.iconst 1, 1) := by decide +kernel
theorem dL_law_318 : decode cL_law 318 = .ok (.goto 4, 3) := by decide +kernel
theorem dL_law_321 : decode cL_law 321 = .ok (.iconst 0, 1) := by decide +kernel
theorem dL_law_322 : decode cL_law 322 = .ok (.istore 13, 2) := by decide +kernel
theorem dL_law_324 : decode cL_law 324 = .ok (.iload 5, 2) := by decide +kernel
theorem dL_law_326 : decode cL_law 326 = .ok (.bipush 6, 2) := by decide +kernel
theorem dL_law_328 : decode cL_law 328 = .ok (.if_icmp .ge 756, 3) := by decide +kernel
theorem dL_law_331 : decode cL_law 331 = .ok (.aload 4, 2) := by decide +kernel
theorem dL_law_333 : decode cL_law 333 = .ok (.iload 5, 2) := by decide +kernel
theorem dL_law_335 : decode cL_law 335 = .ok (.iinc 5 1, 3) := by decide +kernel
theorem dL_law_338 : decode cL_law 338 = .ok (.iload 14, 2) := by decide +kernel
theorem dL_law_340 : decode cL_law 340 = .ok (.iastore, 1) := by decide +kernel
theorem dL_law_341 : decode cL_law 341 = .ok (.goto 743, 3) := by decide +kernel
theorem dL_law_344 : decode cL_law 344 = .ok (.aload 9, 2) := by decide +kernel
theorem dL_law_346 : decode cL_law 346 = .ok (.bipush 18, 2) := by decide +kernel
theorem dL_law_348 : decode cL_law 348 = .ok (.iaload, 1) := by decide +kernel
theorem dL_law_349 : decode cL_law 349 = .ok (.bipush 6, 2) := by decide +kernel
theorem dL_law_351 : decode cL_law 351 = .ok (.if_icmp .ne 6, 3) := by decide +kernel
theorem dL_law_354 : decode cL_law 354 = .ok (.goto 730, 3) := by decide +kernel
theorem dL_law_357 : decode cL_law 357 = .ok (.aload 9, 2) := by decide +kernel
theorem dL_law_359 : decode cL_law 359 = .ok (.aload 9, 2) := by decide +kernel
theorem dL_law_361 : decode cL_law 361 = .ok (.bipush 18, 2) := by decide +kernel
theorem dL_law_363 : decode cL_law 363 = .ok (.iaload, 1) := by decide +kernel
theorem dL_law_364 : decode cL_law 364 = .ok (.iconst 1, 1) := by decide +kernel
theorem dL_law_365 : decode cL_law 365 = .ok (.iload 12, 2) := by decide +kernel
theorem dL_law_367 : decode cL_law 367 = .ok (.bipush 50, 2) := by decide +kernel
theorem dL_law_369 : decode cL_law 369 = .ok (.invokestatic 202, 3) := by decide +kernel
theorem dL_law_372 : decode cL_law 372 = .ok (.iadd, 1) := by decide +kernel
theorem dL_law_373 : decode cL_law 373 = .ok (.iastore, 1) := by decide +kernel
theorem dL_law_374 : decode cL_law 374 = .ok (.aload 9, 2) := by decide +kernel
theorem dL_law_376 : decode cL_law 376 = .ok (.bipush 6, 2) := by decide +kernel
theorem dL_law_378 : decode cL_law 378 = .ok (.aload 9, 2) := by decide +kernel
theorem dL_law_380 : decode cL_law 380 = .ok (.bipush 18, 2) := by decide +kernel
theorem dL_law_382 : decode cL_law 382 = .ok (.iaload, 1) := by decide +kernel
theorem dL_law_383 : decode cL_law 383 = .ok (.iadd, 1) := by decide +kernel
theorem dL_law_384 : decode cL_law 384 = .ok (.aload 9, 2) := by decide +kernel
theorem dL_law_386 : decode cL_law 386 = .ok (.bipush 18, 2) := by decide +kernel
theorem dL_law_388 : decode cL_law 388 = .ok (.iaload, 1) := by decide +kernel
theorem dL_law_389 : decode cL_law 389 = .ok (.iastore, 1) := by decide +kernel
theorem dL_law_390 : decode cL_law 390 = .ok (.aload 9, 2) := by decide +kernel
theorem dL_law_392 : decode cL_law 392 = .ok (.bipush 12, 2) := by decide +kernel
theorem dL_law_394 : decode cL_law 394 = .ok (.aload 9, 2) := by decide +kernel
theorem dL_law_396 : decode cL_law 396 = .ok (.bipush 18, 2) := by decide +kernel
theorem dL_law_398 : decode cL_law 398 = .ok (.iaload, 1) := by decide +kernel
theorem dL_law_399 : decode cL_law 399 = .ok (.iadd, 1) := by decide +kernel
theorem dL_law_400 : decode cL_law 400 = .ok (.aload 9, 2) := by decide +kernel
theorem dL_law_402 : decode cL_law 402 = .ok (.bipush 18, 2) := by decide +kernel
theorem dL_law_404 : decode cL_law 404 = .ok (.iaload, 1) := by decide +kernel
theorem dL_law_405 : decode cL_law 405 = .ok (.iastore, 1) := by decide +kernel
theorem dL_law_406 : decode cL_law 406 = .ok (.aload_n 1, 1) := by decide +kernel
theorem dL_law_407 : decode cL_law 407 = .ok (.aload 9, 2) := by decide +kernel
theorem dL_law_409 : decode cL_law 409 = .ok (.aload 9, 2) := by decide +kernel
theorem dL_law_411 : decode cL_law 411 = .ok (.bipush 18, 2) := by decide +kernel
theorem dL_law_413 : decode cL_law 413 = .ok (.iaload, 1) := by decide +kernel
theorem dL_law_414 : decode cL_law 414 = .ok (.iaload, 1) := by decide +kernel
theorem dL_law_415 : decode cL_law 415 = .ok (.invokestatic 219, 3) := by decide +kernel
theorem dL_law_418 : decode cL_law 418 = .ok (.aload 9, 2) := by decide +kernel
theorem dL_law_420 : decode cL_law 420 = .ok (.bipush 18, 2) := by decide +kernel
theorem dL_law_422 : decode cL_law 422 = .ok (.iaload, 1) := by decide +kernel
theorem dL_law_423 : decode cL_law 423 = .ok (.if_icmp .ne 7, 3) := by decide +kernel
theorem dL_law_426 : decode cL_law 426 = .ok (.iconst 1, 1) := by decide +kernel
theorem dL_law_427 : decode cL_law 427 = .ok (.goto 4, 3) := by decide +kernel
theorem dL_law_430 : decode cL_law 430 = .ok (.iconst 0, 1) := by decide +kernel
theorem dL_law_431 : decode cL_law 431 = .ok (.istore 13, 2) := by decide +kernel
theorem dL_law_433 : decode cL_law 433 = .ok (.aload 9, 2) := by decide +kernel
theorem dL_law_435 : decode cL_law 435 = .ok (.bipush 18, 2) := by decide +kernel
theorem dL_law_437 : decode cL_law 437 = .ok (.dup2, 1) := by decide +kernel
theorem dL_law_438 : decode cL_law 438 = .ok (.iaload, 1) := by decide +kernel
theorem dL_law_439 : decode cL_law 439 = .ok (.iconst 1, 1) := by decide +kernel
theorem dL_law_440 : decode cL_law 440 = .ok (.iadd, 1) := by decide +kernel
theorem dL_law_441 : decode cL_law 441 = .ok (.iastore, 1) := by decide +kernel
theorem dL_law_442 : decode cL_law 442 = .ok (.goto 642, 3) := by decide +kernel
theorem dL_law_445 : decode cL_law 445 = .ok (.aload 9, 2) := by decide +kernel
theorem dL_law_447 : decode cL_law 447 = .ok (.bipush 18, 2) := by decide +kernel
theorem dL_law_449 : decode cL_law 449 = .ok (.iaload, 1) := by decide +kernel
theorem dL_law_450 : decode cL_law 450 = .ok (.ifCond .ne 6, 3) := by decide +kernel
theorem dL_law_453 : decode cL_law 453 = .ok (.goto 631, 3) := by decide +kernel
theorem dL_law_456 : decode cL_law 456 = .ok (.iload 12, 2) := by decide +kernel
theorem dL_law_458 : decode cL_law 458 = .ok (.aload 9, 2) := by decide +kernel
theorem dL_law_460 : decode cL_law 460 = .ok (.bipush 18, 2) := by decide +kernel
theorem dL_law_462 : decode cL_law 462 = .ok (.iaload, 1) := by decide +kernel
theorem dL_law_463 : decode cL_law 463 = .ok (.invokestatic 202, 3) := by decide +kernel
theorem dL_law_466 : decode cL_law 466 = .ok (.istore 15, 2) := by decide +kernel
theorem dL_law_468 : decode cL_law 468 = .ok (.iload 12, 2) := by decide +kernel
theorem dL_law_470 : decode cL_law 470 = .ok (.iconst 5, 1) := by decide +kernel
theorem dL_law_471 : decode cL_law 471 = .ok (.ishr, 1) := by decide +kernel
theorem dL_law_472 : decode cL_law 472 = .ok (.aload 9, 2) := by decide +kernel
theorem dL_law_474 : decode cL_law 474 = .ok (.bipush 18, 2) := by decide +kernel
theorem dL_law_476 : decode cL_law 476 = .ok (.iaload, 1) := by decide +kernel
theorem dL_law_477 : decode cL_law 477 = .ok (.invokestatic 202, 3) := by decide +kernel
theorem dL_law_480 : decode cL_law 480 = .ok (.istore 16, 2) := by decide +kernel
theorem dL_law_482 : decode cL_law 482 = .ok (.aload 9, 2) := by decide +kernel
theorem dL_law_484 : decode cL_law 484 = .ok (.bipush 12, 2) := by decide +kernel
theorem dL_law_486 : decode cL_law 486 = .ok (.iload 15, 2) := by decide +kernel
theorem dL_law_488 : decode cL_law 488 = .ok (.iadd, 1) := by decide +kernel
theorem dL_law_489 : decode cL_law 489 = .ok (.iaload, 1) := by decide +kernel
theorem dL_law_490 : decode cL_law 490 = .ok (.istore 17, 2) := by decide +kernel
theorem dL_law_492 : decode cL_law 492 = .ok (.aload 9, 2) := by decide +kernel
theorem dL_law_494 : decode cL_law 494 = .ok (.bipush 12, 2) := by decide +kernel
theorem dL_law_496 : decode cL_law 496 = .ok (.iload 15, 2) := by decide +kernel
theorem dL_law_498 : decode cL_law 498 = .ok (.iadd, 1) := by decide +kernel
theorem dL_law_499 : decode cL_law 499 = .ok (.aload 9, 2) := by decide +kernel
theorem dL_law_501 : decode cL_law 501 = .ok (.bipush 12, 2) := by decide +kernel
theorem dL_law_503 : decode cL_law 503 = .ok (.iload 16, 2) := by decide +kernel
theorem dL_law_505 : decode cL_law 505 = .ok (.iadd, 1) := by decide +kernel
theorem dL_law_506 : decode cL_law 506 = .ok (.iaload, 1) := by decide +kernel
theorem dL_law_507 : decode cL_law 507 = .ok (.iastore, 1) := by decide +kernel
theorem dL_law_508 : decode cL_law 508 = .ok (.aload 9, 2) := by decide +kernel
theorem dL_law_510 : decode cL_law 510 = .ok (.bipush 12, 2) := by decide +kernel
theorem dL_law_512 : decode cL_law 512 = .ok (.iload 16, 2) := by decide +kernel
theorem dL_law_514 : decode cL_law 514 = .ok (.iadd, 1) := by decide +kernel
theorem dL_law_515 : decode cL_law 515 = .ok (.iload 17, 2) := by decide +kernel
theorem dL_law_517 : decode cL_law 517 = .ok (.iastore, 1) := by decide +kernel
theorem dL_law_518 : decode cL_law 518 = .ok (.aload_n 1, 1) := by decide +kernel
theorem dL_law_519 : decode cL_law 519 = .ok (.iload 15, 2) := by decide +kernel
theorem dL_law_521 : decode cL_law 521 = .ok (.iload 16, 2) := by decide +kernel
theorem dL_law_523 : decode cL_law 523 = .ok (.invokestatic 221, 3) := by decide +kernel
theorem dL_law_526 : decode cL_law 526 = .ok (.aload 9, 2) := by decide +kernel
theorem dL_law_528 : decode cL_law 528 = .ok (.bipush 12, 2) := by decide +kernel
theorem dL_law_530 : decode cL_law 530 = .ok (.iload 15, 2) := by decide +kernel
theorem dL_law_532 : decode cL_law 532 = .ok (.iadd, 1) := by decide +kernel
theorem dL_law_533 : decode cL_law 533 = .ok (.iaload, 1) := by decide +kernel
theorem dL_law_534 : decode cL_law 534 = .ok (.if_icmp .ne 7, 3) := by decide +kernel
theorem dL_law_537 : decode cL_law 537 = .ok (.iconst 1, 1) := by decide +kernel
theorem dL_law_538 : decode cL_law 538 = .ok (.goto 4, 3) := by decide +kernel
theorem dL_law_541 : decode cL_law 541 = .ok (.iconst 0, 1) := by decide +kernel
theorem dL_law_542 : decode cL_law 542 = .ok (.istore 13, 2) := by decide +kernel
theorem dL_law_544 : decode cL_law 544 = .ok (.goto 540, 3) := by decide +kernel
theorem dL_law_547 : decode cL_law 547 = .ok (.iconst 0, 1) := by decide +kernel
theorem dL_law_548 : decode cL_law 548 = .ok (.istore 18, 2) := by decide +kernel
theorem dL_law_550 : decode cL_law 550 = .ok (.iload 18, 2) := by decide +kernel
theorem dL_law_552 : decode cL_law 552 = .ok (.iconst 3, 1) := by decide +kernel
theorem dL_law_553 : decode cL_law 553 = .ok (.if_icmp .ge 243, 3) := by decide +kernel
theorem dL_law_556 : decode cL_law 556 = .ok (.aload 9, 2) := by decide +kernel
theorem dL_law_558 : decode cL_law 558 = .ok (.bipush 18, 2) := by decide +kernel
theorem dL_law_560 : decode cL_law 560 = .ok (.iaload, 1) := by decide +kernel
theorem dL_law_561 : decode cL_law 561 = .ok (.ifCond .ne 7, 3) := by decide +kernel
theorem dL_law_564 : decode cL_law 564 = .ok (.iconst 0, 1) := by decide +kernel
theorem dL_law_565 : decode cL_law 565 = .ok (.goto 13, 3) := by decide +kernel
theorem dL_law_568 : decode cL_law 568 = .ok (.aload 9, 2) := by decide +kernel
theorem dL_law_570 : decode cL_law 570 = .ok (.iconst 5, 1) := by decide +kernel
theorem dL_law_571 : decode cL_law 571 = .ok (.aload 9, 2) := by decide +kernel
theorem dL_law_573 : decode cL_law 573 = .ok (.bipush 18, 2) := by decide +kernel
theorem dL_law_575 : decode cL_law 575 = .ok (.iaload, 1) := by decide +kernel
theorem dL_law_576 : decode cL_law 576 = .ok (.iadd, 1) := by decide +kernel
theorem dL_law_577 : decode cL_law 577 = .ok (.iaload, 1) := by decide +kernel
theorem dL_law_578 : decode cL_law 578 = .ok (.istore 19, 2) := by decide +kernel
theorem dL_law_580 : decode cL_law 580 = .ok (.aload 9, 2) := by decide +kernel
theorem dL_law_582 : decode cL_law 582 = .ok (.bipush 18, 2) := by decide +kernel
theorem dL_law_584 : decode cL_law 584 = .ok (.iaload, 1) := by decide +kernel
theorem dL_law_585 : decode cL_law 585 = .ok (.ifCond .ne 7, 3) := by decide +kernel
theorem dL_law_588 : decode cL_law 588 = .ok (.iconst 0, 1) := by decide +kernel
theorem dL_law_589 : decode cL_law 589 = .ok (.goto 14, 3) := by decide +kernel
theorem dL_law_592 : decode cL_law 592 = .ok (.aload 9, 2) := by decide +kernel
theorem dL_law_594 : decode cL_law 594 = .ok (.bipush 11, 2) := by decide +kernel
theorem dL_law_596 : decode cL_law 596 = .ok (.aload 9, 2) := by decide +kernel
theorem dL_law_598 : decode cL_law 598 = .ok (.bipush 18, 2) := by decide +kernel
theorem dL_law_600 : decode cL_law 600 = .ok (.iaload, 1) := by decide +kernel
theorem dL_law_601 : decode cL_law 601 = .ok (.iadd, 1) := by decide +kernel
theorem dL_law_602 : decode cL_law 602 = .ok (.iaload, 1) := by decide +kernel
theorem dL_law_603 : decode cL_law 603 = .ok (.istore 20, 2) := by decide +kernel
theorem dL_law_605 : decode cL_law 605 = .ok (.aload 9, 2) := by decide +kernel
theorem dL_law_607 : decode cL_law 607 = .ok (.bipush 18, 2) := by decide +kernel
theorem dL_law_609 : decode cL_law 609 = .ok (.iaload, 1) := by decide +kernel
theorem dL_law_610 : decode cL_law 610 = .ok (.ifCond .eq 23, 3) := by decide +kernel
theorem dL_law_613 : decode cL_law 613 = .ok (.iload 19, 2) := by decide +kernel
theorem dL_law_615 : decode cL_law 615 = .ok (.iload 20, 2) := by decide +kernel
theorem dL_law_617 : decode cL_law 617 = .ok (.if_icmp .eq 16, 3) := by decide +kernel
theorem dL_law_620 : decode cL_law 620 = .ok (.aload 9, 2) := by decide +kernel
theorem dL_law_622 : decode cL_law 622 = .ok (.iload 19, 2) := by decide +kernel
theorem dL_law_624 : decode cL_law 624 = .ok (.iaload, 1) := by decide +kernel
theorem dL_law_625 : decode cL_law 625 = .ok (.aload 9, 2) := by decide +kernel
theorem dL_law_627 : decode cL_law 627 = .ok (.iload 20, 2) := by decide +kernel
theorem dL_law_629 : decode cL_law 629 = .ok (.iaload, 1) := by decide +kernel
theorem dL_law_630 : decode cL_law 630 = .ok (.if_icmp .ne 26, 3) := by decide +kernel
theorem dL_law_633 : decode cL_law 633 = .ok (.iload 13, 2) := by decide +kernel
theorem dL_law_635 : decode cL_law 635 = .ok (.aload_n 1, 1) := by decide +kernel
theorem dL_law_636 : decode cL_law 636 = .ok (.invokestatic 223, 3) := by decide +kernel
theorem dL_law_639 : decode cL_law 639 = .ok (.sipush (-7300), 3) := by decide +kernel
theorem dL_law_642 : decode cL_law 642 = .ok (.if_icmp .ne 7, 3) := by decide +kernel
theorem dL_law_645 : decode cL_law 645 = .ok (.iconst 1, 1) := by decide +kernel
theorem dL_law_646 : decode cL_law 646 = .ok (.goto 4, 3) := by decide +kernel
theorem dL_law_649 : decode cL_law 649 = .ok (.iconst 0, 1) := by decide +kernel
theorem dL_law_650 : decode cL_law 650 = .ok (.iand, 1) := by decide +kernel
theorem dL_law_651 : decode cL_law 651 = .ok (.istore 13, 2) := by decide +kernel
theorem dL_law_653 : decode cL_law 653 = .ok (.goto 137, 3) := by decide +kernel
theorem dL_law_656 : decode cL_law 656 = .ok (.aload 9, 2) := by decide +kernel
theorem dL_law_658 : decode cL_law 658 = .ok (.iload 19, 2) := by decide +kernel
theorem dL_law_660 : decode cL_law 660 = .ok (.iaload, 1) := by decide +kernel
theorem dL_law_661 : decode cL_law 661 = .ok (.aload 9, 2) := by decide +kernel
theorem dL_law_663 : decode cL_law 663 = .ok (.iload 20, 2) := by decide +kernel
theorem dL_law_665 : decode cL_law 665 = .ok (.iaload, 1) := by decide +kernel
theorem dL_law_666 : decode cL_law 666 = .ok (.if_icmp .le 7, 3) := by decide +kernel
theorem dL_law_669 : decode cL_law 669 = .ok (.iconst 1, 1) := by decide +kernel
theorem dL_law_670 : decode cL_law 670 = .ok (.goto 4, 3) := by decide +kernel
theorem dL_law_673 : decode cL_law 673 = .ok (.iconst 0, 1) := by decide +kernel
theorem dL_law_674 : decode cL_law 674 = .ok (.istore 21, 2) := by decide +kernel
theorem dL_law_676 : decode cL_law 676 = .ok (.iload 21, 2) := by decide +kernel
theorem dL_law_678 : decode cL_law 678 = .ok (.ifCond .eq 19, 3) := by decide +kernel
theorem dL_law_681 : decode cL_law 681 = .ok (.aload 9, 2) := by decide +kernel
theorem dL_law_683 : decode cL_law 683 = .ok (.iload 19, 2) := by decide +kernel
theorem dL_law_685 : decode cL_law 685 = .ok (.dup2, 1) := by decide +kernel
theorem dL_law_686 : decode cL_law 686 = .ok (.iaload, 1) := by decide +kernel
theorem dL_law_687 : decode cL_law 687 = .ok (.aload 9, 2) := by decide +kernel
theorem dL_law_689 : decode cL_law 689 = .ok (.iload 20, 2) := by decide +kernel
theorem dL_law_691 : decode cL_law 691 = .ok (.iaload, 1) := by decide +kernel
theorem dL_law_692 : decode cL_law 692 = .ok (.isub, 1) := by decide +kernel
theorem dL_law_693 : decode cL_law 693 = .ok (.iastore, 1) := by decide +kernel
theorem dL_law_694 : decode cL_law 694 = .ok (.goto 16, 3) := by decide +kernel
theorem dL_law_697 : decode cL_law 697 = .ok (.aload 9, 2) := by decide +kernel
theorem dL_law_699 : decode cL_law 699 = .ok (.iload 20, 2) := by decide +kernel
theorem dL_law_701 : decode cL_law 701 = .ok (.dup2, 1) := by decide +kernel
theorem dL_law_702 : decode cL_law 702 = .ok (.iaload, 1) := by decide +kernel
theorem dL_law_703 : decode cL_law 703 = .ok (.aload 9, 2) := by decide +kernel
theorem dL_law_705 : decode cL_law 705 = .ok (.iload 19, 2) := by decide +kernel
theorem dL_law_707 : decode cL_law 707 = .ok (.iaload, 1) := by decide +kernel
theorem dL_law_708 : decode cL_law 708 = .ok (.isub, 1) := by decide +kernel
theorem dL_law_709 : decode cL_law 709 = .ok (.iastore, 1) := by decide +kernel
theorem dL_law_710 : decode cL_law 710 = .ok (.iload 21, 2) := by decide +kernel
theorem dL_law_712 : decode cL_law 712 = .ok (.ifCond .eq 8, 3) := by decide +kernel
theorem dL_law_715 : decode cL_law 715 = .ok (.bipush 12, 2) := by decide +kernel
theorem dL_law_717 : decode cL_law 717 = .ok (.goto 5, 3) := by decide +kernel
theorem dL_law_720 : decode cL_law 720 = .ok (.bipush 6, 2) := by decide +kernel
theorem dL_law_722 : decode cL_law 722 = .ok (.iload 21, 2) := by decide +kernel
theorem dL_law_724 : decode cL_law 724 = .ok (.ifCond .eq 8, 3) := by decide +kernel
theorem dL_law_727 : decode cL_law 727 = .ok (.iload 19, 2) := by decide +kernel
theorem dL_law_729 : decode cL_law 729 = .ok (.goto 5, 3) := by decide +kernel
theorem dL_law_732 : decode cL_law 732 = .ok (.iload 20, 2) := by decide +kernel
theorem dL_law_734 : decode cL_law 734 = .ok (.aload 9, 2) := by decide +kernel
theorem dL_law_736 : decode cL_law 736 = .ok (.invokestatic 225, 3) := by decide +kernel
theorem dL_law_739 : decode cL_law 739 = .ok (.iconst 0, 1) := by decide +kernel
theorem dL_law_740 : decode cL_law 740 = .ok (.istore 22, 2) := by decide +kernel
theorem dL_law_742 : decode cL_law 742 = .ok (.iconst 0, 1) := by decide +kernel
theorem dL_law_743 : decode cL_law 743 = .ok (.istore 23, 2) := by decide +kernel
theorem dL_law_745 : decode cL_law 745 = .ok (.iload 23, 2) := by decide +kernel
theorem dL_law_747 : decode cL_law 747 = .ok (.aload 9, 2) := by decide +kernel
theorem dL_law_749 : decode cL_law 749 = .ok (.bipush 18, 2) := by decide +kernel
theorem dL_law_751 : decode cL_law 751 = .ok (.iaload, 1) := by decide +kernel
theorem dL_law_752 : decode cL_law 752 = .ok (.if_icmp .ge 19, 3) := by decide +kernel
theorem dL_law_755 : decode cL_law 755 = .ok (.iload 22, 2) := by decide +kernel
theorem dL_law_757 : decode cL_law 757 = .ok (.aload 9, 2) := by decide +kernel
theorem dL_law_759 : decode cL_law 759 = .ok (.iload 23, 2) := by decide +kernel
theorem dL_law_761 : decode cL_law 761 = .ok (.iaload, 1) := by decide +kernel
theorem dL_law_762 : decode cL_law 762 = .ok (.iadd, 1) := by decide +kernel
theorem dL_law_763 : decode cL_law 763 = .ok (.istore 22, 2) := by decide +kernel
theorem dL_law_765 : decode cL_law 765 = .ok (.iinc 23 1, 3) := by decide +kernel
theorem dL_law_768 : decode cL_law 768 = .ok (.goto (-23), 3) := by decide +kernel
theorem dL_law_771 : decode cL_law 771 = .ok (.iload 13, 2) := by decide +kernel
theorem dL_law_773 : decode cL_law 773 = .ok (.aload_n 1, 1) := by decide +kernel
theorem dL_law_774 : decode cL_law 774 = .ok (.invokestatic 223, 3) := by decide +kernel
theorem dL_law_777 : decode cL_law 777 = .ok (.iload 22, 2) := by decide +kernel
theorem dL_law_779 : decode cL_law 779 = .ok (.if_icmp .ne 7, 3) := by decide +kernel
theorem dL_law_782 : decode cL_law 782 = .ok (.iconst 1, 1) := by decide +kernel
theorem dL_law_783 : decode cL_law 783 = .ok (.goto 4, 3) := by decide +kernel
theorem dL_law_786 : decode cL_law 786 = .ok (.iconst 0, 1) := by decide +kernel
theorem dL_law_787 : decode cL_law 787 = .ok (.iand, 1) := by decide +kernel
theorem dL_law_788 : decode cL_law 788 = .ok (.istore 13, 2) := by decide +kernel
theorem dL_law_790 : decode cL_law 790 = .ok (.iinc 18 1, 3) := by decide +kernel
theorem dL_law_793 : decode cL_law 793 = .ok (.goto (-243), 3) := by decide +kernel
theorem dL_law_796 : decode cL_law 796 = .ok (.goto 288, 3) := by decide +kernel
theorem dL_law_799 : decode cL_law 799 = .ok (.iload 10, 2) := by decide +kernel
theorem dL_law_801 : decode cL_law 801 = .ok (.iconst 5, 1) := by decide +kernel
theorem dL_law_802 : decode cL_law 802 = .ok (.if_icmp .le 14, 3) := by decide +kernel
theorem dL_law_805 : decode cL_law 805 = .ok (.iload 12, 2) := by decide +kernel
theorem dL_law_807 : decode cL_law 807 = .ok (.bipush 6, 2) := by decide +kernel
theorem dL_law_809 : decode cL_law 809 = .ok (.iand, 1) := by decide +kernel
theorem dL_law_810 : decode cL_law 810 = .ok (.ifCond .le 6, 3) := by decide +kernel
theorem dL_law_813 : decode cL_law 813 = .ok (.goto 271, 3) := by decide +kernel
theorem dL_law_816 : decode cL_law 816 = .ok (.iconst 1, 1) := by decide +kernel
theorem dL_law_817 : decode cL_law 817 = .ok (.iload 12, 2) := by decide +kernel
theorem dL_law_819 : decode cL_law 819 = .ok (.iconst 3, 1) := by decide +kernel
theorem dL_law_820 : decode cL_law 820 = .ok (.ishr, 1) := by decide +kernel
theorem dL_law_821 : decode cL_law 821 = .ok (.iconst 5, 1) := by decide +kernel
theorem dL_law_822 : decode cL_law 822 = .ok (.invokestatic 202, 3) := by decide +kernel
theorem dL_law_825 : decode cL_law 825 = .ok (.iadd, 1) := by decide +kernel
theorem dL_law_826 : decode cL_law 826 = .ok (.istore 18, 2) := by decide +kernel
theorem dL_law_828 : decode cL_law 828 = .ok (.aload_n 1, 1) := by decide +kernel
theorem dL_law_829 : decode cL_law 829 = .ok (.iload 18, 2) := by decide +kernel
theorem dL_law_831 : decode cL_law 831 = .ok (.invokestatic 229, 3) := by decide +kernel
theorem dL_law_834 : decode cL_law 834 = .ok (.iload 6, 2) := by decide +kernel
theorem dL_law_836 : decode cL_law 836 = .ok (.if_icmp .ne 7, 3) := by decide +kernel
theorem dL_law_839 : decode cL_law 839 = .ok (.iconst 1, 1) := by decide +kernel
theorem dL_law_840 : decode cL_law 840 = .ok (.goto 4, 3) := by decide +kernel
theorem dL_law_843 : decode cL_law 843 = .ok (.iconst 0, 1) := by decide +kernel
theorem dL_law_844 : decode cL_law 844 = .ok (.istore 13, 2) := by decide +kernel
theorem dL_law_846 : decode cL_law 846 = .ok (.iload 18, 2) := by decide +kernel
theorem dL_law_848 : decode cL_law 848 = .ok (.istore 6, 2) := by decide +kernel
theorem dL_law_850 : decode cL_law 850 = .ok (.iconst 0, 1) := by decide +kernel
theorem dL_law_851 : decode cL_law 851 = .ok (.istore 19, 2) := by decide +kernel
theorem dL_law_853 : decode cL_law 853 = .ok (.iload 19, 2) := by decide +kernel
theorem dL_law_855 : decode cL_law 855 = .ok (.iload 6, 2) := by decide +kernel
theorem dL_law_857 : decode cL_law 857 = .ok (.if_icmp .ge 23, 3) := by decide +kernel
theorem dL_law_860 : decode cL_law 860 = .ok (.aload 7, 2) := by decide +kernel
theorem dL_law_862 : decode cL_law 862 = .ok (.iload 19, 2) := by decide +kernel
theorem dL_law_864 : decode cL_law 864 = .ok (.iload 19, 2) := by decide +kernel
theorem dL_law_866 : decode cL_law 866 = .ok (.iastore, 1) := by decide +kernel
theorem dL_law_867 : decode cL_law 867 = .ok (.aload 8, 2) := by decide +kernel
theorem dL_law_869 : decode cL_law 869 = .ok (.iload 19, 2) := by decide +kernel
theorem dL_law_871 : decode cL_law 871 = .ok (.iload 19, 2) := by decide +kernel
theorem dL_law_873 : decode cL_law 873 = .ok (.iastore, 1) := by decide +kernel
theorem dL_law_874 : decode cL_law 874 = .ok (.iinc 19 1, 3) := by decide +kernel
theorem dL_law_877 : decode cL_law 877 = .ok (.goto (-24), 3) := by decide +kernel
theorem dL_law_880 : decode cL_law 880 = .ok (.goto 204, 3) := by decide +kernel
theorem dL_law_883 : decode cL_law 883 = .ok (.iconst 0, 1) := by decide +kernel
theorem dL_law_884 : decode cL_law 884 = .ok (.istore 19, 2) := by decide +kernel
theorem dL_law_886 : decode cL_law 886 = .ok (.iload 19, 2) := by decide +kernel
theorem dL_law_888 : decode cL_law 888 = .ok (.iconst 4, 1) := by decide +kernel
theorem dL_law_889 : decode cL_law 889 = .ok (.if_icmp .ge 127, 3) := by decide +kernel
theorem dL_law_892 : decode cL_law 892 = .ok (.iload 12, 2) := by decide +kernel
theorem dL_law_894 : decode cL_law 894 = .ok (.iconst 3, 1) := by decide +kernel
theorem dL_law_895 : decode cL_law 895 = .ok (.iload 19, 2) := by decide +kernel
theorem dL_law_897 : decode cL_law 897 = .ok (.imul, 1) := by decide +kernel
theorem dL_law_898 : decode cL_law 898 = .ok (.ishr, 1) := by decide +kernel
theorem dL_law_899 : decode cL_law 899 = .ok (.iload 6, 2) := by decide +kernel
theorem dL_law_901 : decode cL_law 901 = .ok (.invokestatic 202, 3) := by decide +kernel
theorem dL_law_904 : decode cL_law 904 = .ok (.istore 20, 2) := by decide +kernel
theorem dL_law_906 : decode cL_law 906 = .ok (.iload 12, 2) := by decide +kernel
theorem dL_law_908 : decode cL_law 908 = .ok (.iconst 3, 1) := by decide +kernel
theorem dL_law_909 : decode cL_law 909 = .ok (.iload 19, 2) := by decide +kernel
theorem dL_law_911 : decode cL_law 911 = .ok (.imul, 1) := by decide +kernel
theorem dL_law_912 : decode cL_law 912 = .ok (.bipush 7, 2) := by decide +kernel
theorem dL_law_914 : decode cL_law 914 = .ok (.iadd, 1) := by decide +kernel
theorem dL_law_915 : decode cL_law 915 = .ok (.ishr, 1) := by decide +kernel
theorem dL_law_916 : decode cL_law 916 = .ok (.iload 6, 2) := by decide +kernel
theorem dL_law_918 : decode cL_law 918 = .ok (.invokestatic 202, 3) := by decide +kernel
theorem dL_law_921 : decode cL_law 921 = .ok (.istore 21, 2) := by decide +kernel
theorem dL_law_923 : decode cL_law 923 = .ok (.iload 12, 2) := by decide +kernel
theorem dL_law_925 : decode cL_law 925 = .ok (.bipush 24, 2) := by decide +kernel
theorem dL_law_927 : decode cL_law 927 = .ok (.iload 19, 2) := by decide +kernel
theorem dL_law_929 : decode cL_law 929 = .ok (.iadd, 1) := by decide +kernel
theorem dL_law_930 : decode cL_law 930 = .ok (.ishr, 1) := by decide +kernel
theorem dL_law_931 : decode cL_law 931 = .ok (.iconst 1, 1) := by decide +kernel
theorem dL_law_932 : decode cL_law 932 = .ok (.iand, 1) := by decide +kernel
theorem dL_law_933 : decode cL_law 933 = .ok (.iconst 1, 1) := by decide +kernel
theorem dL_law_934 : decode cL_law 934 = .ok (.if_icmp .ne 7, 3) := by decide +kernel
theorem dL_law_937 : decode cL_law 937 = .ok (.iconst 1, 1) := by decide +kernel
theorem dL_law_938 : decode cL_law 938 = .ok (.goto 4, 3) := by decide +kernel
theorem dL_law_941 : decode cL_law 941 = .ok (.iconst 0, 1) := by decide +kernel
theorem dL_law_942 : decode cL_law 942 = .ok (.istore 22, 2) := by decide +kernel
theorem dL_law_944 : decode cL_law 944 = .ok (.iload 22, 2) := by decide +kernel
theorem dL_law_946 : decode cL_law 946 = .ok (.ifCond .eq 8, 3) := by decide +kernel
theorem dL_law_949 : decode cL_law 949 = .ok (.aload 8, 2) := by decide +kernel
theorem dL_law_951 : decode cL_law 951 = .ok (.goto 5, 3) := by decide +kernel
theorem dL_law_954 : decode cL_law 954 = .ok (.aload 7, 2) := by decide +kernel
theorem dL_law_956 : decode cL_law 956 = .ok (.astore 23, 2) := by decide +kernel
theorem dL_law_958 : decode cL_law 958 = .ok (.aload 23, 2) := by decide +kernel
theorem dL_law_960 : decode cL_law 960 = .ok (.iload 20, 2) := by decide +kernel
theorem dL_law_962 : decode cL_law 962 = .ok (.iaload, 1) := by decide +kernel
theorem dL_law_963 : decode cL_law 963 = .ok (.istore 24, 2) := by decide +kernel
theorem dL_law_965 : decode cL_law 965 = .ok (.aload 23, 2) := by decide +kernel
theorem dL_law_967 : decode cL_law 967 = .ok (.iload 20, 2) := by decide +kernel
theorem dL_law_969 : decode cL_law 969 = .ok (.aload 23, 2) := by decide +kernel
theorem dL_law_971 : decode cL_law 971 = .ok (.iload 21, 2) := by decide +kernel
theorem dL_law_973 : decode cL_law 973 = .ok (.iaload, 1) := by decide +kernel
theorem dL_law_974 : decode cL_law 974 = .ok (.iastore, 1) := by decide +kernel
theorem dL_law_975 : decode cL_law 975 = .ok (.aload 23, 2) := by decide +kernel
theorem dL_law_977 : decode cL_law 977 = .ok (.iload 21, 2) := by decide +kernel
theorem dL_law_979 : decode cL_law 979 = .ok (.iload 24, 2) := by decide +kernel
theorem dL_law_981 : decode cL_law 981 = .ok (.iastore, 1) := by decide +kernel
theorem dL_law_982 : decode cL_law 982 = .ok (.iload 13, 2) := by decide +kernel
theorem dL_law_984 : decode cL_law 984 = .ok (.aload_n 1, 1) := by decide +kernel
theorem dL_law_985 : decode cL_law 985 = .ok (.iload 20, 2) := by decide +kernel
theorem dL_law_987 : decode cL_law 987 = .ok (.iload 21, 2) := by decide +kernel
theorem dL_law_989 : decode cL_law 989 = .ok (.iload 22, 2) := by decide +kernel
theorem dL_law_991 : decode cL_law 991 = .ok (.invokestatic 231, 3) := by decide +kernel
theorem dL_law_994 : decode cL_law 994 = .ok (.aload 23, 2) := by decide +kernel
theorem dL_law_996 : decode cL_law 996 = .ok (.iload 20, 2) := by decide +kernel
theorem dL_law_998 : decode cL_law 998 = .ok (.iaload, 1) := by decide +kernel
theorem dL_law_999 : decode cL_law 999 = .ok (.if_icmp .ne 7, 3) := by decide +kernel
theorem dL_law_1002 : decode cL_law 1002 = .ok (.iconst 1, 1) := by decide +kernel
theorem dL_law_1003 : decode cL_law 1003 = .ok (.goto 4, 3) := by decide +kernel
theorem dL_law_1006 : decode cL_law 1006 = .ok (.iconst 0, 1) := by decide +kernel
theorem dL_law_1007 : decode cL_law 1007 = .ok (.iand, 1) := by decide +kernel
theorem dL_law_1008 : decode cL_law 1008 = .ok (.istore 13, 2) := by decide +kernel
theorem dL_law_1010 : decode cL_law 1010 = .ok (.iinc 19 1, 3) := by decide +kernel
theorem dL_law_1013 : decode cL_law 1013 = .ok (.goto (-127), 3) := by decide +kernel
theorem dL_law_1016 : decode cL_law 1016 = .ok (.goto 68, 3) := by decide +kernel
theorem dL_law_1019 : decode cL_law 1019 = .ok (.iload 12, 2) := by decide +kernel
theorem dL_law_1021 : decode cL_law 1021 = .ok (.iconst 2, 1) := by decide +kernel
theorem dL_law_1022 : decode cL_law 1022 = .ok (.iand, 1) := by decide +kernel
theorem dL_law_1023 : decode cL_law 1023 = .ok (.ifCond .le 15, 3) := by decide +kernel
theorem dL_law_1026 : decode cL_law 1026 = .ok (.iload 6, 2) := by decide +kernel
theorem dL_law_1028 : decode cL_law 1028 = .ok (.aload 7, 2) := by decide +kernel
theorem dL_law_1030 : decode cL_law 1030 = .ok (.aload 8, 2) := by decide +kernel
theorem dL_law_1032 : decode cL_law 1032 = .ok (.invokestatic 154, 3) := by decide +kernel
theorem dL_law_1035 : decode cL_law 1035 = .ok (.goto 12, 3) := by decide +kernel
theorem dL_law_1038 : decode cL_law 1038 = .ok (.iload 6, 2) := by decide +kernel
theorem dL_law_1040 : decode cL_law 1040 = .ok (.aload 7, 2) := by decide +kernel
theorem dL_law_1042 : decode cL_law 1042 = .ok (.aload 8, 2) := by decide +kernel
theorem dL_law_1044 : decode cL_law 1044 = .ok (.invokestatic 158, 3) := by decide +kernel
theorem dL_law_1047 : decode cL_law 1047 = .ok (.iload 12, 2) := by decide +kernel
theorem dL_law_1049 : decode cL_law 1049 = .ok (.iconst 2, 1) := by decide +kernel
theorem dL_law_1050 : decode cL_law 1050 = .ok (.iand, 1) := by decide +kernel
theorem dL_law_1051 : decode cL_law 1051 = .ok (.ifCond .le 10, 3) := by decide +kernel
theorem dL_law_1054 : decode cL_law 1054 = .ok (.aload_n 1, 1) := by decide +kernel
theorem dL_law_1055 : decode cL_law 1055 = .ok (.invokevirtual 233, 3) := by decide +kernel
theorem dL_law_1058 : decode cL_law 1058 = .ok (.goto 7, 3) := by decide +kernel
theorem dL_law_1061 : decode cL_law 1061 = .ok (.aload_n 1, 1) := by decide +kernel
theorem dL_law_1062 : decode cL_law 1062 = .ok (.invokevirtual 236, 3) := by decide +kernel
theorem dL_law_1065 : decode cL_law 1065 = .ok (.iload 6, 2) := by decide +kernel
theorem dL_law_1067 : decode cL_law 1067 = .ok (.aload 7, 2) := by decide +kernel
theorem dL_law_1069 : decode cL_law 1069 = .ok (.aload 8, 2) := by decide +kernel
theorem dL_law_1071 : decode cL_law 1071 = .ok (.invokestatic 146, 3) := by decide +kernel
theorem dL_law_1074 : decode cL_law 1074 = .ok (.if_icmp .ne 7, 3) := by decide +kernel
theorem dL_law_1077 : decode cL_law 1077 = .ok (.iconst 1, 1) := by decide +kernel
theorem dL_law_1078 : decode cL_law 1078 = .ok (.goto 4, 3) := by decide +kernel
theorem dL_law_1081 : decode cL_law 1081 = .ok (.iconst 0, 1) := by decide +kernel
theorem dL_law_1082 : decode cL_law 1082 = .ok (.istore 13, 2) := by decide +kernel
theorem dL_law_1084 : decode cL_law 1084 = .ok (.iload 13, 2) := by decide +kernel
theorem dL_law_1086 : decode cL_law 1086 = .ok (.ifCond .eq 26, 3) := by decide +kernel
theorem dL_law_1089 : decode cL_law 1089 = .ok (.aload_n 1, 1) := by decide +kernel
theorem dL_law_1090 : decode cL_law 1090 = .ok (.iload 11, 2) := by decide +kernel
theorem dL_law_1092 : decode cL_law 1092 = .ok (.iconst 3, 1) := by decide +kernel
theorem dL_law_1093 : decode cL_law 1093 = .ok (.ishr, 1) := by decide +kernel
theorem dL_law_1094 : decode cL_law 1094 = .ok (.sipush 512, 3) := by decide +kernel
theorem dL_law_1097 : decode cL_law 1097 = .ok (.invokestatic 202, 3) := by decide +kernel
theorem dL_law_1100 : decode cL_law 1100 = .ok (.iload 12, 2) := by decide +kernel
theorem dL_law_1102 : decode cL_law 1102 = .ok (.ldc 239, 2) := by decide +kernel
theorem dL_law_1104 : decode cL_law 1104 = .ok (.iand, 1) := by decide +kernel
theorem dL_law_1105 : decode cL_law 1105 = .ok (.lload_n 2, 1) := by decide +kernel
theorem dL_law_1106 : decode cL_law 1106 = .ok (.invokestatic 240, 3) := by decide +kernel
theorem dL_law_1109 : decode cL_law 1109 = .ok (.ifCond .ne 5, 3) := by decide +kernel
theorem dL_law_1112 : decode cL_law 1112 = .ok (.iconst 0, 1) := by decide +kernel
theorem dL_law_1113 : decode cL_law 1113 = .ok (.ireturn, 1) := by decide +kernel
theorem dL_law_1114 : decode cL_law 1114 = .ok (.iconst 0, 1) := by decide +kernel
theorem dL_law_1115 : decode cL_law 1115 = .ok (.istore 14, 2) := by decide +kernel
theorem dL_law_1117 : decode cL_law 1117 = .ok (.iload 14, 2) := by decide +kernel
theorem dL_law_1119 : decode cL_law 1119 = .ok (.iconst 4, 1) := by decide +kernel
theorem dL_law_1120 : decode cL_law 1120 = .ok (.if_icmp .ge 133, 3) := by decide +kernel
theorem dL_law_1123 : decode cL_law 1123 = .ok (.iload 11, 2) := by decide +kernel
theorem dL_law_1125 : decode cL_law 1125 = .ok (.iconst 4, 1) := by decide +kernel
theorem dL_law_1126 : decode cL_law 1126 = .ok (.iload 14, 2) := by decide +kernel
theorem dL_law_1128 : decode cL_law 1128 = .ok (.imul, 1) := by decide +kernel
theorem dL_law_1129 : decode cL_law 1129 = .ok (.ishr, 1) := by decide +kernel
theorem dL_law_1130 : decode cL_law 1130 = .ok (.bipush 64, 2) := by decide +kernel
theorem dL_law_1132 : decode cL_law 1132 = .ok (.invokestatic 202, 3) := by decide +kernel
theorem dL_law_1135 : decode cL_law 1135 = .ok (.istore 15, 2) := by decide +kernel
theorem dL_law_1137 : decode cL_law 1137 = .ok (.iload 12, 2) := by decide +kernel
theorem dL_law_1139 : decode cL_law 1139 = .ok (.iconst 4, 1) := by decide +kernel
theorem dL_law_1140 : decode cL_law 1140 = .ok (.iload 14, 2) := by decide +kernel
theorem dL_law_1142 : decode cL_law 1142 = .ok (.imul, 1) := by decide +kernel
theorem dL_law_1143 : decode cL_law 1143 = .ok (.iconst 3, 1) := by decide +kernel
theorem dL_law_1144 : decode cL_law 1144 = .ok (.iadd, 1) := by decide +kernel
theorem dL_law_1145 : decode cL_law 1145 = .ok (.ishr, 1) := by decide +kernel
theorem dL_law_1146 : decode cL_law 1146 = .ok (.bipush 64, 2) := by decide +kernel
theorem dL_law_1148 : decode cL_law 1148 = .ok (.invokestatic 202, 3) := by decide +kernel
theorem dL_law_1151 : decode cL_law 1151 = .ok (.istore 16, 2) := by decide +kernel
theorem dL_law_1153 : decode cL_law 1153 = .ok (.iload 15, 2) := by decide +kernel
theorem dL_law_1155 : decode cL_law 1155 = .ok (.bipush 8, 2) := by decide +kernel
theorem dL_law_1157 : decode cL_law 1157 = .ok (.irem, 1) := by decide +kernel
theorem dL_law_1158 : decode cL_law 1158 = .ok (.iload 15, 2) := by decide +kernel
theorem dL_law_1160 : decode cL_law 1160 = .ok (.bipush 8, 2) := by decide +kernel
theorem dL_law_1162 : decode cL_law 1162 = .ok (.idiv, 1) := by decide +kernel
theorem dL_law_1163 : decode cL_law 1163 = .ok (.iload 16, 2) := by decide +kernel
theorem dL_law_1165 : decode cL_law 1165 = .ok (.bipush 8, 2) := by decide +kernel
theorem dL_law_1167 : decode cL_law 1167 = .ok (.irem, 1) := by decide +kernel
theorem dL_law_1168 : decode cL_law 1168 = .ok (.iload 16, 2) := by decide +kernel
theorem dL_law_1170 : decode cL_law 1170 = .ok (.bipush 8, 2) := by decide +kernel
theorem dL_law_1172 : decode cL_law 1172 = .ok (.idiv, 1) := by decide +kernel
theorem dL_law_1173 : decode cL_law 1173 = .ok (.lload_n 2, 1) := by decide +kernel
theorem dL_law_1174 : decode cL_law 1174 = .ok (.invokestatic 126, 3) := by decide +kernel
theorem dL_law_1177 : decode cL_law 1177 = .ok (.ifCond .eq 7, 3) := by decide +kernel
theorem dL_law_1180 : decode cL_law 1180 = .ok (.iconst 1, 1) := by decide +kernel
theorem dL_law_1181 : decode cL_law 1181 = .ok (.goto 4, 3) := by decide +kernel
theorem dL_law_1184 : decode cL_law 1184 = .ok (.iconst 0, 1) := by decide +kernel
theorem dL_law_1185 : decode cL_law 1185 = .ok (.istore 17, 2) := by decide +kernel
theorem dL_law_1187 : decode cL_law 1187 = .ok (.aload_n 1, 1) := by decide +kernel
theorem dL_law_1188 : decode cL_law 1188 = .ok (.iload 15, 2) := by decide +kernel
theorem dL_law_1190 : decode cL_law 1190 = .ok (.bipush 8, 2) := by decide +kernel
theorem dL_law_1192 : decode cL_law 1192 = .ok (.irem, 1) := by decide +kernel
theorem dL_law_1193 : decode cL_law 1193 = .ok (.iload 15, 2) := by decide +kernel
theorem dL_law_1195 : decode cL_law 1195 = .ok (.bipush 8, 2) := by decide +kernel
theorem dL_law_1197 : decode cL_law 1197 = .ok (.idiv, 1) := by decide +kernel
theorem dL_law_1198 : decode cL_law 1198 = .ok (.iload 16, 2) := by decide +kernel
theorem dL_law_1200 : decode cL_law 1200 = .ok (.bipush 8, 2) := by decide +kernel
theorem dL_law_1202 : decode cL_law 1202 = .ok (.irem, 1) := by decide +kernel
theorem dL_law_1203 : decode cL_law 1203 = .ok (.iload 16, 2) := by decide +kernel
theorem dL_law_1205 : decode cL_law 1205 = .ok (.bipush 8, 2) := by decide +kernel
theorem dL_law_1207 : decode cL_law 1207 = .ok (.idiv, 1) := by decide +kernel
theorem dL_law_1208 : decode cL_law 1208 = .ok (.invokestatic 244, 3) := by decide +kernel
theorem dL_law_1211 : decode cL_law 1211 = .ok (.iload 17, 2) := by decide +kernel
theorem dL_law_1213 : decode cL_law 1213 = .ok (.if_icmp .ne 32, 3) := by decide +kernel
theorem dL_law_1216 : decode cL_law 1216 = .ok (.aload_n 1, 1) := by decide +kernel
theorem dL_law_1217 : decode cL_law 1217 = .ok (.iload 16, 2) := by decide +kernel
theorem dL_law_1219 : decode cL_law 1219 = .ok (.bipush 8, 2) := by decide +kernel
theorem dL_law_1221 : decode cL_law 1221 = .ok (.irem, 1) := by decide +kernel
theorem dL_law_1222 : decode cL_law 1222 = .ok (.iload 16, 2) := by decide +kernel
theorem dL_law_1224 : decode cL_law 1224 = .ok (.bipush 8, 2) := by decide +kernel
theorem dL_law_1226 : decode cL_law 1226 = .ok (.idiv, 1) := by decide +kernel
theorem dL_law_1227 : decode cL_law 1227 = .ok (.iload 15, 2) := by decide +kernel
theorem dL_law_1229 : decode cL_law 1229 = .ok (.bipush 8, 2) := by decide +kernel
theorem dL_law_1231 : decode cL_law 1231 = .ok (.irem, 1) := by decide +kernel
theorem dL_law_1232 : decode cL_law 1232 = .ok (.iload 15, 2) := by decide +kernel
theorem dL_law_1234 : decode cL_law 1234 = .ok (.bipush 8, 2) := by decide +kernel
theorem dL_law_1236 : decode cL_law 1236 = .ok (.idiv, 1) := by decide +kernel
theorem dL_law_1237 : decode cL_law 1237 = .ok (.invokestatic 247, 3) := by decide +kernel
theorem dL_law_1240 : decode cL_law 1240 = .ok (.iload 17, 2) := by decide +kernel
theorem dL_law_1242 : decode cL_law 1242 = .ok (.if_icmp .eq 5, 3) := by decide +kernel
theorem dL_law_1245 : decode cL_law 1245 = .ok (.iconst 0, 1) := by decide +kernel
theorem dL_law_1246 : decode cL_law 1246 = .ok (.ireturn, 1) := by decide +kernel
theorem dL_law_1247 : decode cL_law 1247 = .ok (.iinc 14 1, 3) := by decide +kernel
theorem dL_law_1250 : decode cL_law 1250 = .ok (.goto (-133), 3) := by decide +kernel
theorem dL_law_1253 : decode cL_law 1253 = .ok (.aload_n 1, 1) := by decide +kernel
theorem dL_law_1254 : decode cL_law 1254 = .ok (.aload 4, 2) := by decide +kernel
theorem dL_law_1256 : decode cL_law 1256 = .ok (.iload 5, 2) := by decide +kernel
theorem dL_law_1258 : decode cL_law 1258 = .ok (.lload_n 2, 1) := by decide +kernel
theorem dL_law_1259 : decode cL_law 1259 = .ok (.invokestatic 249, 3) := by decide +kernel
theorem dL_law_1262 : decode cL_law 1262 = .ok (.ifCond .eq 42, 3) := by decide +kernel
theorem dL_law_1265 : decode cL_law 1265 = .ok (.aload_n 1, 1) := by decide +kernel
theorem dL_law_1266 : decode cL_law 1266 = .ok (.iload 6, 2) := by decide +kernel
theorem dL_law_1268 : decode cL_law 1268 = .ok (.aload 7, 2) := by decide +kernel
theorem dL_law_1270 : decode cL_law 1270 = .ok (.aload 8, 2) := by decide +kernel
theorem dL_law_1272 : decode cL_law 1272 = .ok (.iload 10, 2) := by decide +kernel
theorem dL_law_1274 : decode cL_law 1274 = .ok (.bipush 23, 2) := by decide +kernel
theorem dL_law_1276 : decode cL_law 1276 = .ok (.irem, 1) := by decide +kernel
theorem dL_law_1277 : decode cL_law 1277 = .ok (.bipush 22, 2) := by decide +kernel
theorem dL_law_1279 : decode cL_law 1279 = .ok (.if_icmp .ne 7, 3) := by decide +kernel
theorem dL_law_1282 : decode cL_law 1282 = .ok (.iconst 1, 1) := by decide +kernel
theorem dL_law_1283 : decode cL_law 1283 = .ok (.goto 4, 3) := by decide +kernel
theorem dL_law_1286 : decode cL_law 1286 = .ok (.iconst 0, 1) := by decide +kernel
theorem dL_law_1287 : decode cL_law 1287 = .ok (.invokestatic 253, 3) := by decide +kernel
theorem dL_law_1290 : decode cL_law 1290 = .ok (.ifCond .eq 14, 3) := by decide +kernel
theorem dL_law_1293 : decode cL_law 1293 = .ok (.aload_n 1, 1) := by decide +kernel
theorem dL_law_1294 : decode cL_law 1294 = .ok (.iload 12, 2) := by decide +kernel
theorem dL_law_1296 : decode cL_law 1296 = .ok (.aload 9, 2) := by decide +kernel
theorem dL_law_1298 : decode cL_law 1298 = .ok (.invokestatic 257, 3) := by decide +kernel
theorem dL_law_1301 : decode cL_law 1301 = .ok (.ifCond .ne 5, 3) := by decide +kernel
theorem dL_law_1304 : decode cL_law 1304 = .ok (.iconst 0, 1) := by decide +kernel
theorem dL_law_1305 : decode cL_law 1305 = .ok (.ireturn, 1) := by decide +kernel
theorem dL_law_1306 : decode cL_law 1306 = .ok (.iinc 10 1, 3) := by decide +kernel
theorem dL_law_1309 : decode cL_law 1309 = .ok (.goto (-1268), 3) := by decide +kernel
theorem dL_law_1312 : decode cL_law 1312 = .ok (.aload_n 1, 1) := by decide +kernel
theorem dL_law_1313 : decode cL_law 1313 = .ok (.iconst 0, 1) := by decide +kernel
theorem dL_law_1314 : decode cL_law 1314 = .ok (.bipush 8, 2) := by decide +kernel
theorem dL_law_1316 : decode cL_law 1316 = .ok (.iconst 0, 1) := by decide +kernel
theorem dL_law_1317 : decode cL_law 1317 = .ok (.iconst 1, 1) := by decide +kernel
theorem dL_law_1318 : decode cL_law 1318 = .ok (.invokestatic 96, 3) := by decide +kernel
theorem dL_law_1321 : decode cL_law 1321 = .ok (.sipush (-7100), 3) := by decide +kernel
theorem dL_law_1324 : decode cL_law 1324 = .ok (.if_icmp .ne 21, 3) := by decide +kernel
theorem dL_law_1327 : decode cL_law 1327 = .ok (.aload_n 1, 1) := by decide +kernel
theorem dL_law_1328 : decode cL_law 1328 = .ok (.iload 6, 2) := by decide +kernel
theorem dL_law_1330 : decode cL_law 1330 = .ok (.iconst 0, 1) := by decide +kernel
theorem dL_law_1331 : decode cL_law 1331 = .ok (.iconst 1, 1) := by decide +kernel
theorem dL_law_1332 : decode cL_law 1332 = .ok (.invokestatic 231, 3) := by decide +kernel
theorem dL_law_1335 : decode cL_law 1335 = .ok (.sipush (-7100), 3) := by decide +kernel
theorem dL_law_1338 : decode cL_law 1338 = .ok (.if_icmp .ne 7, 3) := by decide +kernel
theorem dL_law_1341 : decode cL_law 1341 = .ok (.iconst 1, 1) := by decide +kernel
theorem dL_law_1342 : decode cL_law 1342 = .ok (.goto 4, 3) := by decide +kernel
theorem dL_law_1345 : decode cL_law 1345 = .ok (.iconst 0, 1) := by decide +kernel
theorem dL_law_1346 : decode cL_law 1346 = .ok (.ireturn, 1) := by decide +kernel
abbrev vwCl : List vw_C := [(RX0, TX0, 5), (RX1, TX1, 3), (RX2, TX2, 2), (RX3, TX3, 1), (RX4, TX4, 2), (RX5, TX5, 9), (RX6, TX6, 5)]
