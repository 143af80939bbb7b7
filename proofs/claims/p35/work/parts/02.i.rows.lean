theorem dL_isSurface_552 : decode cL_isSurface 552 = .ok (.ifCond .eq 16, 3) := by decide +kernel
theorem dL_isSurface_555 : decode cL_isSurface 555 = .ok (.aload_n 0, 1) := by decide +kernel
theorem dL_isSurface_556 : decode cL_isSurface 556 = .ok (.invokevirtual 180, 3) := by decide +kernel
theorem dL_isSurface_559 : decode cL_isSurface 559 = .ok (.iload_n 1, 1) := by decide +kernel
theorem dL_isSurface_560 : decode cL_isSurface 560 = .ok (.aload_n 2, 1) := by decide +kernel
theorem dL_isSurface_561 : decode cL_isSurface 561 = .ok (.aload_n 3, 1) := by decide +kernel
theorem dL_isSurface_562 : decode cL_isSurface 562 = .ok (.invokestatic 183, 3) := by decide +kernel
theorem dL_isSurface_565 : decode cL_isSurface 565 = .ok (.if_icmp .ne 7, 3) := by decide +kernel
theorem dL_isSurface_568 : decode cL_isSurface 568 = .ok (.iconst 1, 1) := by decide +kernel
theorem dL_isSurface_569 : decode cL_isSurface 569 = .ok (.goto 4, 3) := by decide +kernel
theorem dL_isSurface_572 : decode cL_isSurface 572 = .ok (.iconst 0, 1) := by decide +kernel
theorem dL_isSurface_573 : decode cL_isSurface 573 = .ok (.ireturn, 1) := by decide +kernel
theorem dL_goesTo_0 : decode cL_goesTo 0 = .ok (.iload_n 0, 1) := by decide +kernel
theorem dL_goesTo_1 : decode cL_goesTo 1 = .ok (.istore 4, 2) := by decide +kernel
theorem dL_goesTo_3 : decode cL_goesTo 3 = .ok (.iconst 0, 1) := by decide +kernel
theorem dL_goesTo_4 : decode cL_goesTo 4 = .ok (.istore 5, 2) := by decide +kernel
theorem dL_goesTo_6 : decode cL_goesTo 6 = .ok (.iload 4, 2) := by decide +kernel
theorem dL_goesTo_8 : decode cL_goesTo 8 = .ok (.aload_n 3, 1) := by decide +kernel
theorem dL_goesTo_9 : decode cL_goesTo 9 = .ok (.aload_n 3, 1) := by decide +kernel
theorem dL_goesTo_10 : decode cL_goesTo 10 = .ok (.iload_n 1, 1) := by decide +kernel
theorem dL_goesTo_11 : decode cL_goesTo 11 = .ok (.iload 5, 2) := by decide +kernel
theorem dL_goesTo_13 : decode cL_goesTo 13 = .ok (.iadd, 1) := by decide +kernel
theorem dL_goesTo_14 : decode cL_goesTo 14 = .ok (.iaload, 1) := by decide +kernel
theorem dL_goesTo_15 : decode cL_goesTo 15 = .ok (.iaload, 1) := by decide +kernel
theorem dL_goesTo_16 : decode cL_goesTo 16 = .ok (.if_icmp .lt 22, 3) := by decide +kernel
theorem dL_goesTo_19 : decode cL_goesTo 19 = .ok (.iload 4, 2) := by decide +kernel
theorem dL_goesTo_21 : decode cL_goesTo 21 = .ok (.aload_n 3, 1) := by decide +kernel
theorem dL_goesTo_22 : decode cL_goesTo 22 = .ok (.aload_n 3, 1) := by decide +kernel
theorem dL_goesTo_23 : decode cL_goesTo 23 = .ok (.iload_n 1, 1) := by decide +kernel
theorem dL_goesTo_24 : decode cL_goesTo 24 = .ok (.iload 5, 2) := by decide +kernel
theorem dL_goesTo_26 : decode cL_goesTo 26 = .ok (.iadd, 1) := by decide +kernel
theorem dL_goesTo_27 : decode cL_goesTo 27 = .ok (.iaload, 1) := by decide +kernel
theorem dL_goesTo_28 : decode cL_goesTo 28 = .ok (.iaload, 1) := by decide +kernel
theorem dL_goesTo_29 : decode cL_goesTo 29 = .ok (.isub, 1) := by decide +kernel
theorem dL_goesTo_30 : decode cL_goesTo 30 = .ok (.istore 4, 2) := by decide +kernel
theorem dL_goesTo_32 : decode cL_goesTo 32 = .ok (.iinc 5 1, 3) := by decide +kernel
theorem dL_goesTo_35 : decode cL_goesTo 35 = .ok (.goto (-29), 3) := by decide +kernel
theorem dL_goesTo_38 : decode cL_goesTo 38 = .ok (.iconst 0, 1) := by decide +kernel
theorem dL_goesTo_39 : decode cL_goesTo 39 = .ok (.istore 6, 2) := by decide +kernel
theorem dL_goesTo_41 : decode cL_goesTo 41 = .ok (.aload_n 3, 1) := by decide +kernel
theorem dL_goesTo_42 : decode cL_goesTo 42 = .ok (.iload_n 2, 1) := by decide +kernel
theorem dL_goesTo_43 : decode cL_goesTo 43 = .ok (.iload 6, 2) := by decide +kernel
theorem dL_goesTo_45 : decode cL_goesTo 45 = .ok (.iadd, 1) := by decide +kernel
theorem dL_goesTo_46 : decode cL_goesTo 46 = .ok (.iaload, 1) := by decide +kernel
theorem dL_goesTo_47 : decode cL_goesTo 47 = .ok (.aload_n 3, 1) := by decide +kernel
theorem dL_goesTo_48 : decode cL_goesTo 48 = .ok (.iload_n 1, 1) := by decide +kernel
theorem dL_goesTo_49 : decode cL_goesTo 49 = .ok (.iload 5, 2) := by decide +kernel
theorem dL_goesTo_51 : decode cL_goesTo 51 = .ok (.iadd, 1) := by decide +kernel
theorem dL_goesTo_52 : decode cL_goesTo 52 = .ok (.iaload, 1) := by decide +kernel
theorem dL_goesTo_53 : decode cL_goesTo 53 = .ok (.if_icmp .eq 22, 3) := by decide +kernel
theorem dL_goesTo_56 : decode cL_goesTo 56 = .ok (.iload 4, 2) := by decide +kernel
theorem dL_goesTo_58 : decode cL_goesTo 58 = .ok (.aload_n 3, 1) := by decide +kernel
theorem dL_goesTo_59 : decode cL_goesTo 59 = .ok (.aload_n 3, 1) := by decide +kernel
theorem dL_goesTo_60 : decode cL_goesTo 60 = .ok (.iload_n 2, 1) := by decide +kernel
theorem dL_goesTo_61 : decode cL_goesTo 61 = .ok (.iload 6, 2) := by decide +kernel
theorem dL_goesTo_63 : decode cL_goesTo 63 = .ok (.iadd, 1) := by decide +kernel
theorem dL_goesTo_64 : decode cL_goesTo 64 = .ok (.iaload, 1) := by decide +kernel
theorem dL_goesTo_65 : decode cL_goesTo 65 = .ok (.iaload, 1) := by decide +kernel
theorem dL_goesTo_66 : decode cL_goesTo 66 = .ok (.iadd, 1) := by decide +kernel
theorem dL_goesTo_67 : decode cL_goesTo 67 = .ok (.istore 4, 2) := by decide +kernel
theorem dL_goesTo_69 : decode cL_goesTo 69 = .ok (.iinc 6 1, 3) := by decide +kernel
theorem dL_goesTo_72 : decode cL_goesTo 72 = .ok (.goto (-31), 3) := by decide +kernel
theorem dL_goesTo_75 : decode cL_goesTo 75 = .ok (.iload 4, 2) := by decide +kernel
theorem dL_goesTo_77 : decode cL_goesTo 77 = .ok (.ireturn, 1) := by decide +kernel
set_option maxRecDepth 20000 in
theorem ggL_isExchange_L_told : GoodIn wsL_isExchange wsL_told := goodIn_ca (goodIn_ca (goodIn_r _ [4, 5, 6, 7, 8, 9, 10, 11, 12, 13, 14, 15, 16, 17, 18, 19, 20, 21, 22, 23, 24, 25, 26, 27, 28, 29, 30, 31, 32, 33, 34, 35, 36, 37, 38, 39, 40, 41, 42, 43, 44, 45, 134, 135, 136, 137, 138, 139, 140, 141, 142, 143] (by decide +kernel) (by decide +kernel)) (goodIn_sub (fun _ h => List.mem_cons_of_mem _ (List.mem_append_left _ (List.mem_append_right _ h))) (by decide +kernel))) (goodIn_sub (fun _ h => List.mem_cons_of_mem _ (List.mem_append_right _ h)) (by decide +kernel))
set_option maxRecDepth 20000 in
theorem gL_isExchange_L_told : GoodIn wsL_isExchange (va_wsS RL 186 yL_told wsL_told) := goodIn_app (goodIn_of _ (by decide +kernel)) ggL_isExchange_L_told
set_option maxRecDepth 20000 in
theorem ggL_isExchange_L_goesTo : GoodIn wsL_isExchange wsL_goesTo := goodIn_r _ [48] (by decide +kernel) (by decide +kernel)
set_option maxRecDepth 20000 in
theorem gL_isExchange_L_goesTo : GoodIn wsL_isExchange (va_wsS RL 188 yL_goesTo wsL_goesTo) := goodIn_app (goodIn_of _ (by decide +kernel)) ggL_isExchange_L_goesTo
set_option maxRecDepth 20000 in
theorem ggL_isExchange_X6_apart : GoodIn wsL_isExchange wsX6_apart := goodIn_r _ [52, 12, 53, 54, 55, 16, 56, 18, 33, 40, 34, 10, 35, 134, 135, 136, 137, 138, 139, 140, 141, 142, 143] (by decide +kernel) (by decide +kernel)
set_option maxRecDepth 20000 in
theorem gL_isExchange_X6_apart : GoodIn wsL_isExchange (wsV RL 192 RX6 yX6_apart wsX6_apart) := goodIn_app (goodIn_of _ (by decide +kernel)) ggL_isExchange_X6_apart
set_option maxRecDepth 20000 in
theorem ggL_isExchange_X6_cycles : GoodIn wsL_isExchange wsX6_cycles := goodIn_r _ [60, 12, 61, 62, 63, 16, 64, 65, 66, 67, 68, 69, 70, 71, 72, 73, 74, 75, 18, 45, 34, 10, 35, 76, 77, 78, 79, 80, 81, 82, 83, 84, 85, 86, 87, 88, 89, 90, 91, 33, 40, 92, 93, 94, 95, 96, 97, 98, 99, 134, 135, 136, 137, 138, 139, 140, 141, 142, 143, 144] (by decide +kernel) (by decide +kernel)
set_option maxRecDepth 20000 in
theorem gL_isExchange_X6_cycles : GoodIn wsL_isExchange (wsV RL 195 RX6 yX6_cycles wsX6_cycles) := goodIn_app (goodIn_of _ (by decide +kernel)) ggL_isExchange_X6_cycles
set_option maxRecDepth 20000 in
theorem ggL_isExchange_L_image : GoodIn wsL_isExchange wsL_image := goodIn_ca (goodIn_r _ [102, 5, 103, 104, 105, 10, 106, 12, 107, 73, 74, 16, 75, 18, 45, 34, 35, 19, 20, 21, 22, 23, 108, 89, 90, 91, 33, 40, 92, 93, 94, 95, 96, 97, 98, 99, 134, 135, 136, 137, 138, 139, 140, 141, 142, 143] (by decide +kernel) (by decide +kernel)) (goodIn_sub (fun _ h => List.mem_cons_of_mem _ (List.mem_append_left _ (List.mem_append_right _ h))) (by decide +kernel))
set_option maxRecDepth 20000 in
theorem gL_isExchange_L_image : GoodIn wsL_isExchange (va_wsS RL 198 yL_image wsL_image) := goodIn_app (goodIn_of _ (by decide +kernel)) ggL_isExchange_L_image
set_option maxRecDepth 20000 in
theorem ggL_isExchange_L_back : GoodIn wsL_isExchange wsL_back := goodIn_ca (goodIn_r _ [111, 5, 112, 113, 114, 10, 115, 12, 107, 73, 74, 16, 75, 18, 45, 34, 35, 19, 20, 21, 22, 23, 116, 117, 118, 119, 40, 33, 92, 93, 94, 95, 96, 97, 98, 99, 134, 135, 136, 137, 138, 139, 140, 141, 142, 143] (by decide +kernel) (by decide +kernel)) (goodIn_sub (fun _ h => List.mem_cons_of_mem _ (List.mem_append_left _ (List.mem_append_right _ h))) (by decide +kernel))
set_option maxRecDepth 20000 in
theorem gL_isExchange_L_back : GoodIn wsL_isExchange (va_wsS RL 200 yL_back wsL_back) := goodIn_app (goodIn_of _ (by decide +kernel)) ggL_isExchange_L_back
set_option maxRecDepth 20000 in
theorem ggL_isExchange_L_low : GoodIn wsL_isExchange wsL_low := goodIn_r _ [122] (by decide +kernel) (by decide +kernel)
set_option maxRecDepth 20000 in
theorem gL_isExchange_L_low : GoodIn wsL_isExchange (va_wsS RL 202 yL_low wsL_low) := goodIn_app (goodIn_of _ (by decide +kernel)) ggL_isExchange_L_low
set_option maxRecDepth 20000 in
theorem ggL_isExchange_L_cycle : GoodIn wsL_isExchange wsL_cycle := goodIn_ca (goodIn_r _ [125, 5, 126, 127, 128, 10, 129, 12, 107, 73, 74, 16, 75, 18, 45, 34, 35, 19, 20, 21, 22, 23, 130, 131, 132, 133, 88, 89, 90, 91, 33, 40, 92, 93, 94, 95, 96, 97, 98, 99, 134, 135, 136, 137, 138, 139, 140, 141, 142, 143] (by decide +kernel) (by decide +kernel)) (goodIn_sub (fun _ h => List.mem_cons_of_mem _ (List.mem_append_left _ (List.mem_append_right _ h))) (by decide +kernel))
set_option maxRecDepth 20000 in
theorem gL_isExchange_L_cycle : GoodIn wsL_isExchange (va_wsS RL 205 yL_cycle wsL_cycle) := goodIn_app (goodIn_of _ (by decide +kernel)) ggL_isExchange_L_cycle
theorem dL_isExchange_0 : decode cL_isExchange 0 = .ok (.iconst 0, 1) := by decide +kernel
theorem dL_isExchange_1 : decode cL_isExchange 1 = .ok (.istore_n 3, 1) := by decide +kernel
theorem dL_isExchange_2 : decode cL_isExchange 2 = .ok (.iconst 0, 1) := by decide +kernel
theorem dL_isExchange_3 : decode cL_isExchange 3 = .ok (.istore 4, 2) := by decide +kernel
theorem dL_isExchange_5 : decode cL_isExchange 5 = .ok (.iload 4, 2) := by decide +kernel
theorem dL_isExchange_7 : decode cL_isExchange 7 = .ok (.aload_n 2, 1) := by decide +kernel
theorem dL_isExchange_8 : decode cL_isExchange 8 = .ok (.bipush 18, 2) := by decide +kernel
theorem dL_isExchange_10 : decode cL_isExchange 10 = .ok (.iaload, 1) := by decide +kernel
theorem dL_isExchange_11 : decode cL_isExchange 11 = .ok (.if_icmp .ge 71, 3) := by decide +kernel
theorem dL_isExchange_14 : decode cL_isExchange 14 = .ok (.iload_n 3, 1) := by decide +kernel
theorem dL_isExchange_15 : decode cL_isExchange 15 = .ok (.aload_n 2, 1) := by decide +kernel
theorem dL_isExchange_16 : decode cL_isExchange 16 = .ok (.iload 4, 2) := by decide +kernel
theorem dL_isExchange_18 : decode cL_isExchange 18 = .ok (.iaload, 1) := by decide +kernel
theorem dL_isExchange_19 : decode cL_isExchange 19 = .ok (.iadd, 1) := by decide +kernel
theorem dL_isExchange_20 : decode cL_isExchange 20 = .ok (.istore_n 3, 1) := by decide +kernel
theorem dL_isExchange_21 : decode cL_isExchange 21 = .ok (.aload_n 0, 1) := by decide +kernel
theorem dL_isExchange_22 : decode cL_isExchange 22 = .ok (.iload 4, 2) := by decide +kernel
theorem dL_isExchange_24 : decode cL_isExchange 24 = .ok (.iconst 0, 1) := by decide +kernel
theorem dL_isExchange_25 : decode cL_isExchange 25 = .ok (.invokestatic 186, 3) := by decide +kernel
theorem dL_isExchange_28 : decode cL_isExchange 28 = .ok (.aload_n 2, 1) := by decide +kernel
theorem dL_isExchange_29 : decode cL_isExchange 29 = .ok (.bipush 6, 2) := by decide +kernel
theorem dL_isExchange_31 : decode cL_isExchange 31 = .ok (.iload 4, 2) := by decide +kernel
theorem dL_isExchange_33 : decode cL_isExchange 33 = .ok (.iadd, 1) := by decide +kernel
theorem dL_isExchange_34 : decode cL_isExchange 34 = .ok (.iaload, 1) := by decide +kernel
theorem dL_isExchange_35 : decode cL_isExchange 35 = .ok (.if_icmp .ne 39, 3) := by decide +kernel
theorem dL_isExchange_38 : decode cL_isExchange 38 = .ok (.aload_n 0, 1) := by decide +kernel
theorem dL_isExchange_39 : decode cL_isExchange 39 = .ok (.iload 4, 2) := by decide +kernel
theorem dL_isExchange_41 : decode cL_isExchange 41 = .ok (.iconst 1, 1) := by decide +kernel
theorem dL_isExchange_42 : decode cL_isExchange 42 = .ok (.invokestatic 186, 3) := by decide +kernel
theorem dL_isExchange_45 : decode cL_isExchange 45 = .ok (.aload_n 2, 1) := by decide +kernel
theorem dL_isExchange_46 : decode cL_isExchange 46 = .ok (.bipush 12, 2) := by decide +kernel
theorem dL_isExchange_48 : decode cL_isExchange 48 = .ok (.iload 4, 2) := by decide +kernel
theorem dL_isExchange_50 : decode cL_isExchange 50 = .ok (.iadd, 1) := by decide +kernel
theorem dL_isExchange_51 : decode cL_isExchange 51 = .ok (.iaload, 1) := by decide +kernel
theorem dL_isExchange_52 : decode cL_isExchange 52 = .ok (.if_icmp .ne 22, 3) := by decide +kernel
theorem dL_isExchange_55 : decode cL_isExchange 55 = .ok (.aload_n 0, 1) := by decide +kernel
theorem dL_isExchange_56 : decode cL_isExchange 56 = .ok (.iload 4, 2) := by decide +kernel
theorem dL_isExchange_58 : decode cL_isExchange 58 = .ok (.iconst 2, 1) := by decide +kernel
theorem dL_isExchange_59 : decode cL_isExchange 59 = .ok (.invokestatic 186, 3) := by decide +kernel
theorem dL_isExchange_62 : decode cL_isExchange 62 = .ok (.aload_n 2, 1) := by decide +kernel
theorem dL_isExchange_63 : decode cL_isExchange 63 = .ok (.aload_n 2, 1) := by decide +kernel
theorem dL_isExchange_64 : decode cL_isExchange 64 = .ok (.bipush 6, 2) := by decide +kernel
theorem dL_isExchange_66 : decode cL_isExchange 66 = .ok (.iload 4, 2) := by decide +kernel
theorem dL_isExchange_68 : decode cL_isExchange 68 = .ok (.iadd, 1) := by decide +kernel
theorem dL_isExchange_69 : decode cL_isExchange 69 = .ok (.iaload, 1) := by decide +kernel
theorem dL_isExchange_70 : decode cL_isExchange 70 = .ok (.iaload, 1) := by decide +kernel
theorem dL_isExchange_71 : decode cL_isExchange 71 = .ok (.if_icmp .eq 5, 3) := by decide +kernel
theorem dL_isExchange_74 : decode cL_isExchange 74 = .ok (.iconst 0, 1) := by decide +kernel
theorem dL_isExchange_75 : decode cL_isExchange 75 = .ok (.ireturn, 1) := by decide +kernel
theorem dL_isExchange_76 : decode cL_isExchange 76 = .ok (.iinc 4 1, 3) := by decide +kernel
theorem dL_isExchange_79 : decode cL_isExchange 79 = .ok (.goto (-74), 3) := by decide +kernel
theorem dL_isExchange_82 : decode cL_isExchange 82 = .ok (.iconst 0, 1) := by decide +kernel
theorem dL_isExchange_83 : decode cL_isExchange 83 = .ok (.istore 4, 2) := by decide +kernel
theorem dL_isExchange_85 : decode cL_isExchange 85 = .ok (.aload_n 2, 1) := by decide +kernel
theorem dL_isExchange_86 : decode cL_isExchange 86 = .ok (.bipush 18, 2) := by decide +kernel
theorem dL_isExchange_88 : decode cL_isExchange 88 = .ok (.iaload, 1) := by decide +kernel
theorem dL_isExchange_89 : decode cL_isExchange 89 = .ok (.istore 5, 2) := by decide +kernel
theorem dL_isExchange_91 : decode cL_isExchange 91 = .ok (.iload 5, 2) := by decide +kernel
theorem dL_isExchange_93 : decode cL_isExchange 93 = .ok (.ifCond .le 66, 3) := by decide +kernel
theorem dL_isExchange_96 : decode cL_isExchange 96 = .ok (.iconst 0, 1) := by decide +kernel
theorem dL_isExchange_97 : decode cL_isExchange 97 = .ok (.istore 6, 2) := by decide +kernel
theorem dL_isExchange_99 : decode cL_isExchange 99 = .ok (.iconst 0, 1) := by decide +kernel
theorem dL_isExchange_100 : decode cL_isExchange 100 = .ok (.istore 7, 2) := by decide +kernel
theorem dL_isExchange_102 : decode cL_isExchange 102 = .ok (.iload 7, 2) := by decide +kernel
theorem dL_isExchange_104 : decode cL_isExchange 104 = .ok (.iload 5, 2) := by decide +kernel
theorem dL_isExchange_106 : decode cL_isExchange 106 = .ok (.if_icmp .ge 33, 3) := by decide +kernel
theorem dL_isExchange_109 : decode cL_isExchange 109 = .ok (.iload 6, 2) := by decide +kernel
theorem dL_isExchange_111 : decode cL_isExchange 111 = .ok (.iconst 1, 1) := by decide +kernel
theorem dL_isExchange_112 : decode cL_isExchange 112 = .ok (.aload_n 2, 1) := by decide +kernel
theorem dL_isExchange_113 : decode cL_isExchange 113 = .ok (.bipush 6, 2) := by decide +kernel
theorem dL_isExchange_115 : decode cL_isExchange 115 = .ok (.iload 7, 2) := by decide +kernel
theorem dL_isExchange_117 : decode cL_isExchange 117 = .ok (.iadd, 1) := by decide +kernel
theorem dL_isExchange_118 : decode cL_isExchange 118 = .ok (.iaload, 1) := by decide +kernel
theorem dL_isExchange_119 : decode cL_isExchange 119 = .ok (.ishl, 1) := by decide +kernel
theorem dL_isExchange_120 : decode cL_isExchange 120 = .ok (.iconst 1, 1) := by decide +kernel
theorem dL_isExchange_121 : decode cL_isExchange 121 = .ok (.aload_n 2, 1) := by decide +kernel
theorem dL_isExchange_122 : decode cL_isExchange 122 = .ok (.bipush 12, 2) := by decide +kernel
theorem dL_isExchange_124 : decode cL_isExchange 124 = .ok (.iload 7, 2) := by decide +kernel
theorem dL_isExchange_126 : decode cL_isExchange 126 = .ok (.iadd, 1) := by decide +kernel
theorem dL_isExchange_127 : decode cL_isExchange 127 = .ok (.iaload, 1) := by decide +kernel
theorem dL_isExchange_128 : decode cL_isExchange 128 = .ok (.ishl, 1) := by decide +kernel
theorem dL_isExchange_129 : decode cL_isExchange 129 = .ok (.isub, 1) := by decide +kernel
theorem dL_isExchange_130 : decode cL_isExchange 130 = .ok (.iadd, 1) := by decide +kernel
theorem dL_isExchange_131 : decode cL_isExchange 131 = .ok (.istore 6, 2) := by decide +kernel
theorem dL_isExchange_133 : decode cL_isExchange 133 = .ok (.iinc 7 1, 3) := by decide +kernel
theorem dL_isExchange_136 : decode cL_isExchange 136 = .ok (.goto (-34), 3) := by decide +kernel
theorem dL_isExchange_139 : decode cL_isExchange 139 = .ok (.iload 6, 2) := by decide +kernel
theorem dL_isExchange_141 : decode cL_isExchange 141 = .ok (.ifCond .ne 8, 3) := by decide +kernel
theorem dL_isExchange_144 : decode cL_isExchange 144 = .ok (.iload 5, 2) := by decide +kernel
theorem dL_isExchange_146 : decode cL_isExchange 146 = .ok (.goto 5, 3) := by decide +kernel
theorem dL_isExchange_149 : decode cL_isExchange 149 = .ok (.iload 4, 2) := by decide +kernel
theorem dL_isExchange_151 : decode cL_isExchange 151 = .ok (.istore 4, 2) := by decide +kernel
theorem dL_isExchange_153 : decode cL_isExchange 153 = .ok (.iinc 5 (-1), 3) := by decide +kernel
theorem dL_isExchange_156 : decode cL_isExchange 156 = .ok (.goto (-65), 3) := by decide +kernel
theorem dL_isExchange_159 : decode cL_isExchange 159 = .ok (.iconst 0, 1) := by decide +kernel
theorem dL_isExchange_160 : decode cL_isExchange 160 = .ok (.istore 5, 2) := by decide +kernel
theorem dL_isExchange_162 : decode cL_isExchange 162 = .ok (.iconst 0, 1) := by decide +kernel
theorem dL_isExchange_163 : decode cL_isExchange 163 = .ok (.istore 6, 2) := by decide +kernel
theorem dL_isExchange_165 : decode cL_isExchange 165 = .ok (.iload 6, 2) := by decide +kernel
theorem dL_isExchange_167 : decode cL_isExchange 167 = .ok (.iload_n 3, 1) := by decide +kernel
theorem dL_isExchange_168 : decode cL_isExchange 168 = .ok (.if_icmp .ge 60, 3) := by decide +kernel
theorem dL_isExchange_171 : decode cL_isExchange 171 = .ok (.iload 6, 2) := by decide +kernel
theorem dL_isExchange_173 : decode cL_isExchange 173 = .ok (.bipush 6, 2) := by decide +kernel
theorem dL_isExchange_175 : decode cL_isExchange 175 = .ok (.bipush 12, 2) := by decide +kernel
theorem dL_isExchange_177 : decode cL_isExchange 177 = .ok (.aload_n 2, 1) := by decide +kernel
theorem dL_isExchange_178 : decode cL_isExchange 178 = .ok (.invokestatic 188, 3) := by decide +kernel
theorem dL_isExchange_181 : decode cL_isExchange 181 = .ok (.istore 7, 2) := by decide +kernel
theorem dL_isExchange_183 : decode cL_isExchange 183 = .ok (.iload 7, 2) := by decide +kernel
theorem dL_isExchange_185 : decode cL_isExchange 185 = .ok (.iload 6, 2) := by decide +kernel
theorem dL_isExchange_187 : decode cL_isExchange 187 = .ok (.if_icmp .le 18, 3) := by decide +kernel
theorem dL_isExchange_190 : decode cL_isExchange 190 = .ok (.iload 7, 2) := by decide +kernel
theorem dL_isExchange_192 : decode cL_isExchange 192 = .ok (.bipush 6, 2) := by decide +kernel
theorem dL_isExchange_194 : decode cL_isExchange 194 = .ok (.bipush 12, 2) := by decide +kernel
theorem dL_isExchange_196 : decode cL_isExchange 196 = .ok (.aload_n 2, 1) := by decide +kernel
theorem dL_isExchange_197 : decode cL_isExchange 197 = .ok (.invokestatic 188, 3) := by decide +kernel
theorem dL_isExchange_200 : decode cL_isExchange 200 = .ok (.istore 7, 2) := by decide +kernel
theorem dL_isExchange_202 : decode cL_isExchange 202 = .ok (.goto (-19), 3) := by decide +kernel
theorem dL_isExchange_205 : decode cL_isExchange 205 = .ok (.iload 5, 2) := by decide +kernel
theorem dL_isExchange_207 : decode cL_isExchange 207 = .ok (.iload 7, 2) := by decide +kernel
theorem dL_isExchange_209 : decode cL_isExchange 209 = .ok (.iload 6, 2) := by decide +kernel
theorem dL_isExchange_211 : decode cL_isExchange 211 = .ok (.if_icmp .ne 7, 3) := by decide +kernel
theorem dL_isExchange_214 : decode cL_isExchange 214 = .ok (.iconst 1, 1) := by decide +kernel
theorem dL_isExchange_215 : decode cL_isExchange 215 = .ok (.goto 4, 3) := by decide +kernel
theorem dL_isExchange_218 : decode cL_isExchange 218 = .ok (.iconst 0, 1) := by decide +kernel
theorem dL_isExchange_219 : decode cL_isExchange 219 = .ok (.iadd, 1) := by decide +kernel
theorem dL_isExchange_220 : decode cL_isExchange 220 = .ok (.istore 5, 2) := by decide +kernel
theorem dL_isExchange_222 : decode cL_isExchange 222 = .ok (.iinc 6 1, 3) := by decide +kernel
theorem dL_isExchange_225 : decode cL_isExchange 225 = .ok (.goto (-60), 3) := by decide +kernel
theorem dL_isExchange_228 : decode cL_isExchange 228 = .ok (.aload_n 0, 1) := by decide +kernel
theorem dL_isExchange_229 : decode cL_isExchange 229 = .ok (.invokevirtual 192, 3) := by decide +kernel
theorem dL_isExchange_232 : decode cL_isExchange 232 = .ok (.iload 4, 2) := by decide +kernel
theorem dL_isExchange_234 : decode cL_isExchange 234 = .ok (.if_icmp .ne 49, 3) := by decide +kernel
theorem dL_isExchange_237 : decode cL_isExchange 237 = .ok (.aload_n 0, 1) := by decide +kernel
theorem dL_isExchange_238 : decode cL_isExchange 238 = .ok (.invokevirtual 195, 3) := by decide +kernel
theorem dL_isExchange_241 : decode cL_isExchange 241 = .ok (.iload 5, 2) := by decide +kernel
theorem dL_isExchange_243 : decode cL_isExchange 243 = .ok (.if_icmp .ne 40, 3) := by decide +kernel
theorem dL_isExchange_246 : decode cL_isExchange 246 = .ok (.aload_n 0, 1) := by decide +kernel
theorem dL_isExchange_247 : decode cL_isExchange 247 = .ok (.iload_n 3, 1) := by decide +kernel
theorem dL_isExchange_248 : decode cL_isExchange 248 = .ok (.invokestatic 198, 3) := by decide +kernel
theorem dL_isExchange_251 : decode cL_isExchange 251 = .ok (.sipush (-7100), 3) := by decide +kernel
theorem dL_isExchange_254 : decode cL_isExchange 254 = .ok (.if_icmp .ne 29, 3) := by decide +kernel
theorem dL_isExchange_257 : decode cL_isExchange 257 = .ok (.aload_n 0, 1) := by decide +kernel
theorem dL_isExchange_258 : decode cL_isExchange 258 = .ok (.iconst (-1), 1) := by decide +kernel
theorem dL_isExchange_259 : decode cL_isExchange 259 = .ok (.invokestatic 200, 3) := by decide +kernel
theorem dL_isExchange_262 : decode cL_isExchange 262 = .ok (.sipush (-7100), 3) := by decide +kernel
theorem dL_isExchange_265 : decode cL_isExchange 265 = .ok (.if_icmp .ne 18, 3) := by decide +kernel
theorem dL_isExchange_268 : decode cL_isExchange 268 = .ok (.aload_n 0, 1) := by decide +kernel
theorem dL_isExchange_269 : decode cL_isExchange 269 = .ok (.aload_n 2, 1) := by decide +kernel
theorem dL_isExchange_270 : decode cL_isExchange 270 = .ok (.bipush 18, 2) := by decide +kernel
theorem dL_isExchange_272 : decode cL_isExchange 272 = .ok (.iaload, 1) := by decide +kernel
theorem dL_isExchange_273 : decode cL_isExchange 273 = .ok (.iconst 0, 1) := by decide +kernel
theorem dL_isExchange_274 : decode cL_isExchange 274 = .ok (.invokestatic 186, 3) := by decide +kernel
theorem dL_isExchange_277 : decode cL_isExchange 277 = .ok (.sipush (-7100), 3) := by decide +kernel
theorem dL_isExchange_280 : decode cL_isExchange 280 = .ok (.if_icmp .eq 5, 3) := by decide +kernel
theorem dL_isExchange_283 : decode cL_isExchange 283 = .ok (.iconst 0, 1) := by decide +kernel
theorem dL_isExchange_284 : decode cL_isExchange 284 = .ok (.ireturn, 1) := by decide +kernel
theorem dL_isExchange_285 : decode cL_isExchange 285 = .ok (.iload_n 3, 1) := by decide +kernel
theorem dL_isExchange_286 : decode cL_isExchange 286 = .ok (.ifCond .ne 5, 3) := by decide +kernel
theorem dL_isExchange_289 : decode cL_isExchange 289 = .ok (.iconst 1, 1) := by decide +kernel
theorem dL_isExchange_290 : decode cL_isExchange 290 = .ok (.ireturn, 1) := by decide +kernel
theorem dL_isExchange_291 : decode cL_isExchange 291 = .ok (.iload_n 1, 1) := by decide +kernel
theorem dL_isExchange_292 : decode cL_isExchange 292 = .ok (.iload_n 3, 1) := by decide +kernel
theorem dL_isExchange_293 : decode cL_isExchange 293 = .ok (.invokestatic 202, 3) := by decide +kernel
theorem dL_isExchange_296 : decode cL_isExchange 296 = .ok (.istore 6, 2) := by decide +kernel
theorem dL_isExchange_298 : decode cL_isExchange 298 = .ok (.iconst 1, 1) := by decide +kernel
theorem dL_isExchange_299 : decode cL_isExchange 299 = .ok (.istore 7, 2) := by decide +kernel
theorem dL_isExchange_301 : decode cL_isExchange 301 = .ok (.iload 6, 2) := by decide +kernel
theorem dL_isExchange_303 : decode cL_isExchange 303 = .ok (.bipush 6, 2) := by decide +kernel
theorem dL_isExchange_305 : decode cL_isExchange 305 = .ok (.bipush 12, 2) := by decide +kernel
theorem dL_isExchange_307 : decode cL_isExchange 307 = .ok (.aload_n 2, 1) := by decide +kernel
theorem dL_isExchange_308 : decode cL_isExchange 308 = .ok (.invokestatic 188, 3) := by decide +kernel
theorem dL_isExchange_311 : decode cL_isExchange 311 = .ok (.istore 8, 2) := by decide +kernel
theorem dL_isExchange_313 : decode cL_isExchange 313 = .ok (.iload 8, 2) := by decide +kernel
theorem dL_isExchange_315 : decode cL_isExchange 315 = .ok (.iload 6, 2) := by decide +kernel
theorem dL_isExchange_317 : decode cL_isExchange 317 = .ok (.if_icmp .eq 21, 3) := by decide +kernel
theorem dL_isExchange_320 : decode cL_isExchange 320 = .ok (.iinc 7 1, 3) := by decide +kernel
theorem dL_isExchange_323 : decode cL_isExchange 323 = .ok (.iload 8, 2) := by decide +kernel
theorem dL_isExchange_325 : decode cL_isExchange 325 = .ok (.bipush 6, 2) := by decide +kernel
theorem dL_isExchange_327 : decode cL_isExchange 327 = .ok (.bipush 12, 2) := by decide +kernel
theorem dL_isExchange_329 : decode cL_isExchange 329 = .ok (.aload_n 2, 1) := by decide +kernel
theorem dL_isExchange_330 : decode cL_isExchange 330 = .ok (.invokestatic 188, 3) := by decide +kernel
theorem dL_isExchange_333 : decode cL_isExchange 333 = .ok (.istore 8, 2) := by decide +kernel
theorem dL_isExchange_335 : decode cL_isExchange 335 = .ok (.goto (-22), 3) := by decide +kernel
theorem dL_isExchange_338 : decode cL_isExchange 338 = .ok (.aload_n 0, 1) := by decide +kernel
theorem dL_isExchange_339 : decode cL_isExchange 339 = .ok (.iload 6, 2) := by decide +kernel
theorem dL_isExchange_341 : decode cL_isExchange 341 = .ok (.invokestatic 198, 3) := by decide +kernel
theorem dL_isExchange_344 : decode cL_isExchange 344 = .ok (.iload 6, 2) := by decide +kernel
theorem dL_isExchange_346 : decode cL_isExchange 346 = .ok (.bipush 6, 2) := by decide +kernel
theorem dL_isExchange_348 : decode cL_isExchange 348 = .ok (.bipush 12, 2) := by decide +kernel
theorem dL_isExchange_350 : decode cL_isExchange 350 = .ok (.aload_n 2, 1) := by decide +kernel
theorem dL_isExchange_351 : decode cL_isExchange 351 = .ok (.invokestatic 188, 3) := by decide +kernel
theorem dL_isExchange_354 : decode cL_isExchange 354 = .ok (.if_icmp .ne 37, 3) := by decide +kernel
theorem dL_isExchange_357 : decode cL_isExchange 357 = .ok (.aload_n 0, 1) := by decide +kernel
theorem dL_isExchange_358 : decode cL_isExchange 358 = .ok (.iload 6, 2) := by decide +kernel
theorem dL_isExchange_360 : decode cL_isExchange 360 = .ok (.invokestatic 200, 3) := by decide +kernel
theorem dL_isExchange_363 : decode cL_isExchange 363 = .ok (.iload 6, 2) := by decide +kernel
theorem dL_isExchange_365 : decode cL_isExchange 365 = .ok (.bipush 12, 2) := by decide +kernel
theorem dL_isExchange_367 : decode cL_isExchange 367 = .ok (.bipush 6, 2) := by decide +kernel
theorem dL_isExchange_369 : decode cL_isExchange 369 = .ok (.aload_n 2, 1) := by decide +kernel
theorem dL_isExchange_370 : decode cL_isExchange 370 = .ok (.invokestatic 188, 3) := by decide +kernel
theorem dL_isExchange_373 : decode cL_isExchange 373 = .ok (.if_icmp .ne 18, 3) := by decide +kernel
theorem dL_isExchange_376 : decode cL_isExchange 376 = .ok (.aload_n 0, 1) := by decide +kernel
theorem dL_isExchange_377 : decode cL_isExchange 377 = .ok (.iload 6, 2) := by decide +kernel
theorem dL_isExchange_379 : decode cL_isExchange 379 = .ok (.invokestatic 205, 3) := by decide +kernel
theorem dL_isExchange_382 : decode cL_isExchange 382 = .ok (.iload 7, 2) := by decide +kernel
theorem dL_isExchange_384 : decode cL_isExchange 384 = .ok (.if_icmp .ne 7, 3) := by decide +kernel
theorem dL_isExchange_387 : decode cL_isExchange 387 = .ok (.iconst 1, 1) := by decide +kernel
theorem dL_isExchange_388 : decode cL_isExchange 388 = .ok (.goto 4, 3) := by decide +kernel
theorem dL_isExchange_391 : decode cL_isExchange 391 = .ok (.iconst 0, 1) := by decide +kernel
theorem dL_isExchange_392 : decode cL_isExchange 392 = .ok (.ireturn, 1) := by decide +kernel
theorem dL_puts_0 : decode cL_puts 0 = .ok (.aload_n 2, 1) := by decide +kernel
theorem dL_puts_1 : decode cL_puts 1 = .ok (.iload_n 0, 1) := by decide +kernel
theorem dL_puts_2 : decode cL_puts 2 = .ok (.aload_n 2, 1) := by decide +kernel
theorem dL_puts_3 : decode cL_puts 3 = .ok (.bipush 18, 2) := by decide +kernel
theorem dL_puts_5 : decode cL_puts 5 = .ok (.iaload, 1) := by decide +kernel
theorem dL_puts_6 : decode cL_puts 6 = .ok (.iadd, 1) := by decide +kernel
theorem dL_puts_7 : decode cL_puts 7 = .ok (.iconst 1, 1) := by decide +kernel
theorem dL_puts_8 : decode cL_puts 8 = .ok (.isub, 1) := by decide +kernel
theorem dL_puts_9 : decode cL_puts 9 = .ok (.iaload, 1) := by decide +kernel
theorem dL_puts_10 : decode cL_puts 10 = .ok (.istore_n 3, 1) := by decide +kernel
theorem dL_puts_11 : decode cL_puts 11 = .ok (.aload_n 2, 1) := by decide +kernel
theorem dL_puts_12 : decode cL_puts 12 = .ok (.bipush 18, 2) := by decide +kernel
theorem dL_puts_14 : decode cL_puts 14 = .ok (.iaload, 1) := by decide +kernel
theorem dL_puts_15 : decode cL_puts 15 = .ok (.iconst 1, 1) := by decide +kernel
theorem dL_puts_16 : decode cL_puts 16 = .ok (.isub, 1) := by decide +kernel
theorem dL_puts_17 : decode cL_puts 17 = .ok (.istore 4, 2) := by decide +kernel
theorem dL_puts_19 : decode cL_puts 19 = .ok (.aload_n 2, 1) := by decide +kernel
theorem dL_puts_20 : decode cL_puts 20 = .ok (.iload_n 0, 1) := by decide +kernel
theorem dL_puts_21 : decode cL_puts 21 = .ok (.iload 4, 2) := by decide +kernel
theorem dL_puts_23 : decode cL_puts 23 = .ok (.iadd, 1) := by decide +kernel
theorem dL_puts_24 : decode cL_puts 24 = .ok (.iconst 1, 1) := by decide +kernel
theorem dL_puts_25 : decode cL_puts 25 = .ok (.isub, 1) := by decide +kernel
theorem dL_puts_26 : decode cL_puts 26 = .ok (.iaload, 1) := by decide +kernel
theorem dL_puts_27 : decode cL_puts 27 = .ok (.iload_n 1, 1) := by decide +kernel
theorem dL_puts_28 : decode cL_puts 28 = .ok (.if_icmp .eq 32, 3) := by decide +kernel
theorem dL_puts_31 : decode cL_puts 31 = .ok (.aload_n 2, 1) := by decide +kernel
theorem dL_puts_32 : decode cL_puts 32 = .ok (.iload_n 0, 1) := by decide +kernel
theorem dL_puts_33 : decode cL_puts 33 = .ok (.iload 4, 2) := by decide +kernel
theorem dL_puts_35 : decode cL_puts 35 = .ok (.iadd, 1) := by decide +kernel
theorem dL_puts_36 : decode cL_puts 36 = .ok (.aload_n 2, 1) := by decide +kernel
theorem dL_puts_37 : decode cL_puts 37 = .ok (.iload_n 0, 1) := by decide +kernel
theorem dL_puts_38 : decode cL_puts 38 = .ok (.iload 4, 2) := by decide +kernel
theorem dL_puts_40 : decode cL_puts 40 = .ok (.iadd, 1) := by decide +kernel
theorem dL_puts_41 : decode cL_puts 41 = .ok (.iconst 1, 1) := by decide +kernel
theorem dL_puts_42 : decode cL_puts 42 = .ok (.isub, 1) := by decide +kernel
theorem dL_puts_43 : decode cL_puts 43 = .ok (.iaload, 1) := by decide +kernel
theorem dL_puts_44 : decode cL_puts 44 = .ok (.iastore, 1) := by decide +kernel
theorem dL_puts_45 : decode cL_puts 45 = .ok (.aload_n 2, 1) := by decide +kernel
theorem dL_puts_46 : decode cL_puts 46 = .ok (.iload_n 0, 1) := by decide +kernel
theorem dL_puts_47 : decode cL_puts 47 = .ok (.iload 4, 2) := by decide +kernel
theorem dL_puts_49 : decode cL_puts 49 = .ok (.iadd, 1) := by decide +kernel
theorem dL_puts_50 : decode cL_puts 50 = .ok (.iconst 1, 1) := by decide +kernel
theorem dL_puts_51 : decode cL_puts 51 = .ok (.isub, 1) := by decide +kernel
theorem dL_puts_52 : decode cL_puts 52 = .ok (.iload_n 3, 1) := by decide +kernel
theorem dL_puts_53 : decode cL_puts 53 = .ok (.iastore, 1) := by decide +kernel
theorem dL_puts_54 : decode cL_puts 54 = .ok (.iinc 4 (-1), 3) := by decide +kernel
theorem dL_puts_57 : decode cL_puts 57 = .ok (.goto (-38), 3) := by decide +kernel
theorem dL_puts_60 : decode cL_puts 60 = .ok (.return_, 1) := by decide +kernel
