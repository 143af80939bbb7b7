theorem dX4_stateOf_22 : decode cX4_stateOf 22 = .ok (.iadd, 1) := by decide +kernel
theorem dX4_stateOf_23 : decode cX4_stateOf 23 = .ok (.ireturn, 1) := by decide +kernel
theorem dX4_xOf_0 : decode cX4_xOf 0 = .ok (.iload_n 0, 1) := by decide +kernel
theorem dX4_xOf_1 : decode cX4_xOf 1 = .ok (.bipush 7, 2) := by decide +kernel
theorem dX4_xOf_3 : decode cX4_xOf 3 = .ok (.iand, 1) := by decide +kernel
theorem dX4_xOf_4 : decode cX4_xOf 4 = .ok (.ireturn, 1) := by decide +kernel
theorem dX4_yOf_0 : decode cX4_yOf 0 = .ok (.iload_n 0, 1) := by decide +kernel
theorem dX4_yOf_1 : decode cX4_yOf 1 = .ok (.iconst 3, 1) := by decide +kernel
theorem dX4_yOf_2 : decode cX4_yOf 2 = .ok (.ishr, 1) := by decide +kernel
theorem dX4_yOf_3 : decode cX4_yOf 3 = .ok (.bipush 7, 2) := by decide +kernel
theorem dX4_yOf_5 : decode cX4_yOf 5 = .ok (.iand, 1) := by decide +kernel
theorem dX4_yOf_6 : decode cX4_yOf 6 = .ok (.ireturn, 1) := by decide +kernel
theorem dX4_sideOf_0 : decode cX4_sideOf 0 = .ok (.iload_n 0, 1) := by decide +kernel
theorem dX4_sideOf_1 : decode cX4_sideOf 1 = .ok (.bipush 6, 2) := by decide +kernel
theorem dX4_sideOf_3 : decode cX4_sideOf 3 = .ok (.ishr, 1) := by decide +kernel
theorem dX4_sideOf_4 : decode cX4_sideOf 4 = .ok (.iconst 3, 1) := by decide +kernel
theorem dX4_sideOf_5 : decode cX4_sideOf 5 = .ok (.iand, 1) := by decide +kernel
theorem dX4_sideOf_6 : decode cX4_sideOf 6 = .ok (.ireturn, 1) := by decide +kernel
theorem dX4_isUpOf_0 : decode cX4_isUpOf 0 = .ok (.iload_n 0, 1) := by decide +kernel
theorem dX4_isUpOf_1 : decode cX4_isUpOf 1 = .ok (.sipush 256, 3) := by decide +kernel
theorem dX4_isUpOf_4 : decode cX4_isUpOf 4 = .ok (.iand, 1) := by decide +kernel
theorem dX4_isUpOf_5 : decode cX4_isUpOf 5 = .ok (.ifCond .eq 7, 3) := by decide +kernel
theorem dX4_isUpOf_8 : decode cX4_isUpOf 8 = .ok (.iconst 1, 1) := by decide +kernel
theorem dX4_isUpOf_9 : decode cX4_isUpOf 9 = .ok (.goto 4, 3) := by decide +kernel
theorem dX4_isUpOf_12 : decode cX4_isUpOf 12 = .ok (.iconst 0, 1) := by decide +kernel
theorem dX4_isUpOf_13 : decode cX4_isUpOf 13 = .ok (.ireturn, 1) := by decide +kernel
theorem dX4_isLow_0 : decode cX4_isLow 0 = .ok (.iload_n 0, 1) := by decide +kernel
theorem dX4_isLow_1 : decode cX4_isLow 1 = .ok (.ifCond .eq 8, 3) := by decide +kernel
theorem dX4_isLow_4 : decode cX4_isLow 4 = .ok (.iload_n 0, 1) := by decide +kernel
theorem dX4_isLow_5 : decode cX4_isLow 5 = .ok (.iconst 1, 1) := by decide +kernel
theorem dX4_isLow_6 : decode cX4_isLow 6 = .ok (.if_icmp .ne 7, 3) := by decide +kernel
theorem dX4_isLow_9 : decode cX4_isLow 9 = .ok (.iconst 1, 1) := by decide +kernel
theorem dX4_isLow_10 : decode cX4_isLow 10 = .ok (.goto 4, 3) := by decide +kernel
theorem dX4_isLow_13 : decode cX4_isLow 13 = .ok (.iconst 0, 1) := by decide +kernel
theorem dX4_isLow_14 : decode cX4_isLow 14 = .ok (.ireturn, 1) := by decide +kernel
theorem dX4_isAcrossX_0 : decode cX4_isAcrossX 0 = .ok (.iload_n 0, 1) := by decide +kernel
theorem dX4_isAcrossX_1 : decode cX4_isAcrossX 1 = .ok (.ifCond .eq 8, 3) := by decide +kernel
theorem dX4_isAcrossX_4 : decode cX4_isAcrossX 4 = .ok (.iload_n 0, 1) := by decide +kernel
theorem dX4_isAcrossX_5 : decode cX4_isAcrossX 5 = .ok (.iconst 2, 1) := by decide +kernel
theorem dX4_isAcrossX_6 : decode cX4_isAcrossX 6 = .ok (.if_icmp .ne 7, 3) := by decide +kernel
theorem dX4_isAcrossX_9 : decode cX4_isAcrossX 9 = .ok (.iconst 1, 1) := by decide +kernel
theorem dX4_isAcrossX_10 : decode cX4_isAcrossX 10 = .ok (.goto 4, 3) := by decide +kernel
theorem dX4_isAcrossX_13 : decode cX4_isAcrossX 13 = .ok (.iconst 0, 1) := by decide +kernel
theorem dX4_isAcrossX_14 : decode cX4_isAcrossX 14 = .ok (.ireturn, 1) := by decide +kernel
theorem dX4_opposite_0 : decode cX4_opposite 0 = .ok (.iload_n 0, 1) := by decide +kernel
theorem dX4_opposite_1 : decode cX4_opposite 1 = .ok (.iconst 2, 1) := by decide +kernel
theorem dX4_opposite_2 : decode cX4_opposite 2 = .ok (.iadd, 1) := by decide +kernel
theorem dX4_opposite_3 : decode cX4_opposite 3 = .ok (.iconst 3, 1) := by decide +kernel
theorem dX4_opposite_4 : decode cX4_opposite 4 = .ok (.iand, 1) := by decide +kernel
theorem dX4_opposite_5 : decode cX4_opposite 5 = .ok (.ireturn, 1) := by decide +kernel
set_option maxRecDepth 20000 in
theorem ggX4_xBehind_X4_xOf : GoodIn wsX4_xBehind wsX4_xOf := goodIn_r _ [4] (by decide +kernel) (by decide +kernel)
set_option maxRecDepth 20000 in
theorem gX4_xBehind_X4_xOf : GoodIn wsX4_xBehind (va_wsS RX4 38 yX4_xOf wsX4_xOf) := goodIn_app (goodIn_of _ (by decide +kernel)) ggX4_xBehind_X4_xOf
theorem dX4_xBehind_0 : decode cX4_xBehind 0 = .ok (.iload_n 0, 1) := by decide +kernel
theorem dX4_xBehind_1 : decode cX4_xBehind 1 = .ok (.invokestatic 38, 3) := by decide +kernel
theorem dX4_xBehind_4 : decode cX4_xBehind 4 = .ok (.iload_n 1, 1) := by decide +kernel
theorem dX4_xBehind_5 : decode cX4_xBehind 5 = .ok (.iconst 2, 1) := by decide +kernel
theorem dX4_xBehind_6 : decode cX4_xBehind 6 = .ok (.if_icmp .ne 7, 3) := by decide +kernel
theorem dX4_xBehind_9 : decode cX4_xBehind 9 = .ok (.iconst 1, 1) := by decide +kernel
theorem dX4_xBehind_10 : decode cX4_xBehind 10 = .ok (.goto 12, 3) := by decide +kernel
theorem dX4_xBehind_13 : decode cX4_xBehind 13 = .ok (.iload_n 1, 1) := by decide +kernel
theorem dX4_xBehind_14 : decode cX4_xBehind 14 = .ok (.ifCond .ne 7, 3) := by decide +kernel
theorem dX4_xBehind_17 : decode cX4_xBehind 17 = .ok (.iconst (-1), 1) := by decide +kernel
theorem dX4_xBehind_18 : decode cX4_xBehind 18 = .ok (.goto 4, 3) := by decide +kernel
theorem dX4_xBehind_21 : decode cX4_xBehind 21 = .ok (.iconst 0, 1) := by decide +kernel
theorem dX4_xBehind_22 : decode cX4_xBehind 22 = .ok (.iadd, 1) := by decide +kernel
theorem dX4_xBehind_23 : decode cX4_xBehind 23 = .ok (.ireturn, 1) := by decide +kernel
set_option maxRecDepth 20000 in
theorem ggX4_yBehind_X4_yOf : GoodIn wsX4_yBehind wsX4_yOf := goodIn_r _ [4] (by decide +kernel) (by decide +kernel)
set_option maxRecDepth 20000 in
theorem gX4_yBehind_X4_yOf : GoodIn wsX4_yBehind (va_wsS RX4 42 yX4_yOf wsX4_yOf) := goodIn_app (goodIn_of _ (by decide +kernel)) ggX4_yBehind_X4_yOf
theorem dX4_yBehind_0 : decode cX4_yBehind 0 = .ok (.iload_n 0, 1) := by decide +kernel
theorem dX4_yBehind_1 : decode cX4_yBehind 1 = .ok (.invokestatic 42, 3) := by decide +kernel
theorem dX4_yBehind_4 : decode cX4_yBehind 4 = .ok (.iload_n 1, 1) := by decide +kernel
theorem dX4_yBehind_5 : decode cX4_yBehind 5 = .ok (.iconst 3, 1) := by decide +kernel
theorem dX4_yBehind_6 : decode cX4_yBehind 6 = .ok (.if_icmp .ne 7, 3) := by decide +kernel
theorem dX4_yBehind_9 : decode cX4_yBehind 9 = .ok (.iconst 1, 1) := by decide +kernel
theorem dX4_yBehind_10 : decode cX4_yBehind 10 = .ok (.goto 13, 3) := by decide +kernel
theorem dX4_yBehind_13 : decode cX4_yBehind 13 = .ok (.iload_n 1, 1) := by decide +kernel
theorem dX4_yBehind_14 : decode cX4_yBehind 14 = .ok (.iconst 1, 1) := by decide +kernel
theorem dX4_yBehind_15 : decode cX4_yBehind 15 = .ok (.if_icmp .ne 7, 3) := by decide +kernel
theorem dX4_yBehind_18 : decode cX4_yBehind 18 = .ok (.iconst (-1), 1) := by decide +kernel
theorem dX4_yBehind_19 : decode cX4_yBehind 19 = .ok (.goto 4, 3) := by decide +kernel
theorem dX4_yBehind_22 : decode cX4_yBehind 22 = .ok (.iconst 0, 1) := by decide +kernel
theorem dX4_yBehind_23 : decode cX4_yBehind 23 = .ok (.iadd, 1) := by decide +kernel
theorem dX4_yBehind_24 : decode cX4_yBehind 24 = .ok (.ireturn, 1) := by decide +kernel
set_option maxRecDepth 20000 in
theorem ggX4_isBlockBehind_X4_xBehind : GoodIn wsX4_isBlockBehind wsX4_xBehind := goodIn_r _ [4, 5, 6, 3, 7] (by decide +kernel) (by decide +kernel)
set_option maxRecDepth 20000 in
theorem gX4_isBlockBehind_X4_xBehind : GoodIn wsX4_isBlockBehind (va_wsS RX4 45 yX4_xBehind wsX4_xBehind) := goodIn_app (goodIn_of _ (by decide +kernel)) ggX4_isBlockBehind_X4_xBehind
set_option maxRecDepth 20000 in
theorem ggX4_isBlockBehind_X4_yBehind : GoodIn wsX4_isBlockBehind wsX4_yBehind := goodIn_r _ [10, 11, 12, 3, 13] (by decide +kernel) (by decide +kernel)
set_option maxRecDepth 20000 in
theorem gX4_isBlockBehind_X4_yBehind : GoodIn wsX4_isBlockBehind (va_wsS RX4 49 yX4_yBehind wsX4_yBehind) := goodIn_app (goodIn_of _ (by decide +kernel)) ggX4_isBlockBehind_X4_yBehind
set_option maxRecDepth 20000 in
theorem ggX4_isBlockBehind_X4_isBlock : GoodIn wsX4_isBlockBehind wsX4_isBlock := goodIn_r _ [17, 18, 19, 20, 21, 22, 23] (by decide +kernel) (by decide +kernel)
set_option maxRecDepth 20000 in
theorem gX4_isBlockBehind_X4_isBlock : GoodIn wsX4_isBlockBehind (wsV RX4 52 RX4 yX4_isBlock wsX4_isBlock) := goodIn_app (goodIn_of _ (by decide +kernel)) ggX4_isBlockBehind_X4_isBlock
theorem dX4_isBlockBehind_0 : decode cX4_isBlockBehind 0 = .ok (.aload_n 0, 1) := by decide +kernel
theorem dX4_isBlockBehind_1 : decode cX4_isBlockBehind 1 = .ok (.iload_n 1, 1) := by decide +kernel
theorem dX4_isBlockBehind_2 : decode cX4_isBlockBehind 2 = .ok (.iload_n 2, 1) := by decide +kernel
theorem dX4_isBlockBehind_3 : decode cX4_isBlockBehind 3 = .ok (.invokestatic 45, 3) := by decide +kernel
theorem dX4_isBlockBehind_6 : decode cX4_isBlockBehind 6 = .ok (.iload_n 1, 1) := by decide +kernel
theorem dX4_isBlockBehind_7 : decode cX4_isBlockBehind 7 = .ok (.iload_n 2, 1) := by decide +kernel
theorem dX4_isBlockBehind_8 : decode cX4_isBlockBehind 8 = .ok (.invokestatic 49, 3) := by decide +kernel
theorem dX4_isBlockBehind_11 : decode cX4_isBlockBehind 11 = .ok (.invokevirtual 52, 3) := by decide +kernel
theorem dX4_isBlockBehind_14 : decode cX4_isBlockBehind 14 = .ok (.ireturn, 1) := by decide +kernel
set_option maxRecDepth 20000 in
theorem ggX4_goalOf_X4_sideOf : GoodIn wsX4_goalOf wsX4_sideOf := goodIn_r _ [4] (by decide +kernel) (by decide +kernel)
set_option maxRecDepth 20000 in
theorem gX4_goalOf_X4_sideOf : GoodIn wsX4_goalOf (va_wsS RX4 55 yX4_sideOf wsX4_sideOf) := goodIn_app (goodIn_of _ (by decide +kernel)) ggX4_goalOf_X4_sideOf
set_option maxRecDepth 20000 in
theorem ggX4_goalOf_X4_isAcrossX : GoodIn wsX4_goalOf wsX4_isAcrossX := goodIn_r _ [7] (by decide +kernel) (by decide +kernel)
set_option maxRecDepth 20000 in
theorem gX4_goalOf_X4_isAcrossX : GoodIn wsX4_goalOf (va_wsS RX4 58 yX4_isAcrossX wsX4_isAcrossX) := goodIn_app (goodIn_of _ (by decide +kernel)) ggX4_goalOf_X4_isAcrossX
set_option maxRecDepth 20000 in
theorem ggX4_goalOf_X4_isUpOf : GoodIn wsX4_goalOf wsX4_isUpOf := goodIn_r _ [10] (by decide +kernel) (by decide +kernel)
set_option maxRecDepth 20000 in
theorem gX4_goalOf_X4_isUpOf : GoodIn wsX4_goalOf (va_wsS RX4 62 yX4_isUpOf wsX4_isUpOf) := goodIn_app (goodIn_of _ (by decide +kernel)) ggX4_goalOf_X4_isUpOf
theorem dX4_goalOf_0 : decode cX4_goalOf 0 = .ok (.iload_n 0, 1) := by decide +kernel
theorem dX4_goalOf_1 : decode cX4_goalOf 1 = .ok (.invokestatic 55, 3) := by decide +kernel
theorem dX4_goalOf_4 : decode cX4_goalOf 4 = .ok (.invokestatic 58, 3) := by decide +kernel
theorem dX4_goalOf_7 : decode cX4_goalOf 7 = .ok (.ifCond .eq 16, 3) := by decide +kernel
theorem dX4_goalOf_10 : decode cX4_goalOf 10 = .ok (.iload_n 0, 1) := by decide +kernel
theorem dX4_goalOf_11 : decode cX4_goalOf 11 = .ok (.invokestatic 62, 3) := by decide +kernel
theorem dX4_goalOf_14 : decode cX4_goalOf 14 = .ok (.ifCond .eq 7, 3) := by decide +kernel
theorem dX4_goalOf_17 : decode cX4_goalOf 17 = .ok (.iconst 3, 1) := by decide +kernel
theorem dX4_goalOf_18 : decode cX4_goalOf 18 = .ok (.goto 4, 3) := by decide +kernel
theorem dX4_goalOf_21 : decode cX4_goalOf 21 = .ok (.iconst 1, 1) := by decide +kernel
theorem dX4_goalOf_22 : decode cX4_goalOf 22 = .ok (.ireturn, 1) := by decide +kernel
theorem dX4_goalOf_23 : decode cX4_goalOf 23 = .ok (.iload_n 0, 1) := by decide +kernel
theorem dX4_goalOf_24 : decode cX4_goalOf 24 = .ok (.invokestatic 62, 3) := by decide +kernel
theorem dX4_goalOf_27 : decode cX4_goalOf 27 = .ok (.ifCond .eq 7, 3) := by decide +kernel
theorem dX4_goalOf_30 : decode cX4_goalOf 30 = .ok (.iconst 2, 1) := by decide +kernel
theorem dX4_goalOf_31 : decode cX4_goalOf 31 = .ok (.goto 4, 3) := by decide +kernel
theorem dX4_goalOf_34 : decode cX4_goalOf 34 = .ok (.iconst 0, 1) := by decide +kernel
theorem dX4_goalOf_35 : decode cX4_goalOf 35 = .ok (.ireturn, 1) := by decide +kernel
set_option maxRecDepth 20000 in
theorem ggX4_doesBounce_X4_goalOf : GoodIn wsX4_doesBounce wsX4_goalOf := goodIn_r _ [4, 5, 6, 3, 7, 8, 9, 10, 11, 12, 13] (by decide +kernel) (by decide +kernel)
set_option maxRecDepth 20000 in
theorem gX4_doesBounce_X4_goalOf : GoodIn wsX4_doesBounce (va_wsS RX4 65 yX4_goalOf wsX4_goalOf) := goodIn_app (goodIn_of _ (by decide +kernel)) ggX4_doesBounce_X4_goalOf
set_option maxRecDepth 20000 in
theorem ggX4_doesBounce_X4_isBlockBehind : GoodIn wsX4_doesBounce wsX4_isBlockBehind := goodIn_r _ [17, 18, 19, 3, 20, 21, 22, 23, 24, 25, 26, 27, 28, 29, 30, 31, 32, 33, 34, 35, 36, 37, 38, 39] (by decide +kernel) (by decide +kernel)
set_option maxRecDepth 20000 in
theorem gX4_doesBounce_X4_isBlockBehind : GoodIn wsX4_doesBounce (wsV RX4 68 RX4 yX4_isBlockBehind wsX4_isBlockBehind) := goodIn_app (goodIn_of _ (by decide +kernel)) ggX4_doesBounce_X4_isBlockBehind
theorem dX4_doesBounce_0 : decode cX4_doesBounce 0 = .ok (.aload_n 0, 1) := by decide +kernel
theorem dX4_doesBounce_1 : decode cX4_doesBounce 1 = .ok (.iload_n 1, 1) := by decide +kernel
theorem dX4_doesBounce_2 : decode cX4_doesBounce 2 = .ok (.iload_n 1, 1) := by decide +kernel
theorem dX4_doesBounce_3 : decode cX4_doesBounce 3 = .ok (.invokestatic 65, 3) := by decide +kernel
theorem dX4_doesBounce_6 : decode cX4_doesBounce 6 = .ok (.invokevirtual 68, 3) := by decide +kernel
theorem dX4_doesBounce_9 : decode cX4_doesBounce 9 = .ok (.ireturn, 1) := by decide +kernel
set_option maxRecDepth 20000 in
theorem ggX4_after_X4_goalOf : GoodIn wsX4_after wsX4_goalOf := goodIn_r _ [4, 5, 6, 3, 7, 8, 9, 10, 11, 12, 13] (by decide +kernel) (by decide +kernel)
set_option maxRecDepth 20000 in
theorem gX4_after_X4_goalOf : GoodIn wsX4_after (va_wsS RX4 65 yX4_goalOf wsX4_goalOf) := goodIn_app (goodIn_of _ (by decide +kernel)) ggX4_after_X4_goalOf
set_option maxRecDepth 20000 in
theorem ggX4_after_X4_sideOf : GoodIn wsX4_after wsX4_sideOf := goodIn_r _ [7] (by decide +kernel) (by decide +kernel)
set_option maxRecDepth 20000 in
theorem gX4_after_X4_sideOf : GoodIn wsX4_after (va_wsS RX4 55 yX4_sideOf wsX4_sideOf) := goodIn_app (goodIn_of _ (by decide +kernel)) ggX4_after_X4_sideOf
set_option maxRecDepth 20000 in
theorem ggX4_after_X4_isLow : GoodIn wsX4_after wsX4_isLow := goodIn_r _ [16] (by decide +kernel) (by decide +kernel)
set_option maxRecDepth 20000 in
theorem gX4_after_X4_isLow : GoodIn wsX4_after (va_wsS RX4 71 yX4_isLow wsX4_isLow) := goodIn_app (goodIn_of _ (by decide +kernel)) ggX4_after_X4_isLow
set_option maxRecDepth 20000 in
theorem ggX4_after_X4_isBlockBehind : GoodIn wsX4_after wsX4_isBlockBehind := goodIn_r _ [20, 21, 22, 3, 23, 24, 25, 26, 27, 28, 29, 30, 31, 32, 33, 34, 35, 36, 37, 38, 39, 40, 47, 48] (by decide +kernel) (by decide +kernel)
set_option maxRecDepth 20000 in
theorem gX4_after_X4_isBlockBehind : GoodIn wsX4_after (wsV RX4 68 RX4 yX4_isBlockBehind wsX4_isBlockBehind) := goodIn_app (goodIn_of _ (by decide +kernel)) ggX4_after_X4_isBlockBehind
set_option maxRecDepth 20000 in
theorem ggX4_after_X4_xOf : GoodIn wsX4_after wsX4_xOf := goodIn_r _ [26] (by decide +kernel) (by decide +kernel)
set_option maxRecDepth 20000 in
theorem gX4_after_X4_xOf : GoodIn wsX4_after (va_wsS RX4 38 yX4_xOf wsX4_xOf) := goodIn_app (goodIn_of _ (by decide +kernel)) ggX4_after_X4_xOf
set_option maxRecDepth 20000 in
theorem ggX4_after_X4_yOf : GoodIn wsX4_after wsX4_yOf := goodIn_r _ [32] (by decide +kernel) (by decide +kernel)
set_option maxRecDepth 20000 in
theorem gX4_after_X4_yOf : GoodIn wsX4_after (va_wsS RX4 42 yX4_yOf wsX4_yOf) := goodIn_app (goodIn_of _ (by decide +kernel)) ggX4_after_X4_yOf
set_option maxRecDepth 20000 in
theorem ggX4_after_X4_stateOf : GoodIn wsX4_after wsX4_stateOf := goodIn_r _ [43] (by decide +kernel) (by decide +kernel)
set_option maxRecDepth 20000 in
theorem gX4_after_X4_stateOf : GoodIn wsX4_after (va_wsS RX4 74 yX4_stateOf wsX4_stateOf) := goodIn_app (goodIn_of _ (by decide +kernel)) ggX4_after_X4_stateOf
set_option maxRecDepth 20000 in
theorem ggX4_after_X4_xBehind : GoodIn wsX4_after wsX4_xBehind := goodIn_r _ [23, 24, 25, 3, 26] (by decide +kernel) (by decide +kernel)
set_option maxRecDepth 20000 in
theorem gX4_after_X4_xBehind : GoodIn wsX4_after (va_wsS RX4 45 yX4_xBehind wsX4_xBehind) := goodIn_app (goodIn_of _ (by decide +kernel)) ggX4_after_X4_xBehind
set_option maxRecDepth 20000 in
theorem ggX4_after_X4_yBehind : GoodIn wsX4_after wsX4_yBehind := goodIn_r _ [29, 30, 31, 3, 32] (by decide +kernel) (by decide +kernel)
set_option maxRecDepth 20000 in
theorem gX4_after_X4_yBehind : GoodIn wsX4_after (va_wsS RX4 49 yX4_yBehind wsX4_yBehind) := goodIn_app (goodIn_of _ (by decide +kernel)) ggX4_after_X4_yBehind
set_option maxRecDepth 20000 in
theorem ggX4_after_X4_opposite : GoodIn wsX4_after wsX4_opposite := goodIn_r _ [46] (by decide +kernel) (by decide +kernel)
set_option maxRecDepth 20000 in
theorem gX4_after_X4_opposite : GoodIn wsX4_after (va_wsS RX4 78 yX4_opposite wsX4_opposite) := goodIn_app (goodIn_of _ (by decide +kernel)) ggX4_after_X4_opposite
theorem dX4_after_0 : decode cX4_after 0 = .ok (.iload_n 1, 1) := by decide +kernel
theorem dX4_after_1 : decode cX4_after 1 = .ok (.invokestatic 65, 3) := by decide +kernel
theorem dX4_after_4 : decode cX4_after 4 = .ok (.istore_n 2, 1) := by decide +kernel
theorem dX4_after_5 : decode cX4_after 5 = .ok (.iload_n 1, 1) := by decide +kernel
theorem dX4_after_6 : decode cX4_after 6 = .ok (.invokestatic 55, 3) := by decide +kernel
theorem dX4_after_9 : decode cX4_after 9 = .ok (.invokestatic 71, 3) := by decide +kernel
theorem dX4_after_12 : decode cX4_after 12 = .ok (.istore_n 3, 1) := by decide +kernel
theorem dX4_after_13 : decode cX4_after 13 = .ok (.aload_n 0, 1) := by decide +kernel
theorem dX4_after_14 : decode cX4_after 14 = .ok (.iload_n 1, 1) := by decide +kernel
theorem dX4_after_15 : decode cX4_after 15 = .ok (.iload_n 2, 1) := by decide +kernel
theorem dX4_after_16 : decode cX4_after 16 = .ok (.invokevirtual 68, 3) := by decide +kernel
theorem dX4_after_19 : decode cX4_after 19 = .ok (.ifCond .eq 17, 3) := by decide +kernel
theorem dX4_after_22 : decode cX4_after 22 = .ok (.iload_n 1, 1) := by decide +kernel
theorem dX4_after_23 : decode cX4_after 23 = .ok (.invokestatic 38, 3) := by decide +kernel
theorem dX4_after_26 : decode cX4_after 26 = .ok (.iload_n 1, 1) := by decide +kernel
theorem dX4_after_27 : decode cX4_after 27 = .ok (.invokestatic 42, 3) := by decide +kernel
theorem dX4_after_30 : decode cX4_after 30 = .ok (.iload_n 2, 1) := by decide +kernel
theorem dX4_after_31 : decode cX4_after 31 = .ok (.iload_n 3, 1) := by decide +kernel
theorem dX4_after_32 : decode cX4_after 32 = .ok (.invokestatic 74, 3) := by decide +kernel
theorem dX4_after_35 : decode cX4_after 35 = .ok (.ireturn, 1) := by decide +kernel
theorem dX4_after_36 : decode cX4_after 36 = .ok (.iload_n 1, 1) := by decide +kernel
theorem dX4_after_37 : decode cX4_after 37 = .ok (.iload_n 2, 1) := by decide +kernel
theorem dX4_after_38 : decode cX4_after 38 = .ok (.invokestatic 45, 3) := by decide +kernel
theorem dX4_after_41 : decode cX4_after 41 = .ok (.iload_n 1, 1) := by decide +kernel
theorem dX4_after_42 : decode cX4_after 42 = .ok (.iload_n 2, 1) := by decide +kernel
theorem dX4_after_43 : decode cX4_after 43 = .ok (.invokestatic 49, 3) := by decide +kernel
theorem dX4_after_46 : decode cX4_after 46 = .ok (.iload_n 2, 1) := by decide +kernel
theorem dX4_after_47 : decode cX4_after 47 = .ok (.invokestatic 78, 3) := by decide +kernel
theorem dX4_after_50 : decode cX4_after 50 = .ok (.iload_n 3, 1) := by decide +kernel
theorem dX4_after_51 : decode cX4_after 51 = .ok (.invokestatic 74, 3) := by decide +kernel
theorem dX4_after_54 : decode cX4_after 54 = .ok (.ireturn, 1) := by decide +kernel
set_option maxRecDepth 20000 in
theorem ggX4_before_X4_sideOf : GoodIn wsX4_before wsX4_sideOf := goodIn_r _ [4] (by decide +kernel) (by decide +kernel)
set_option maxRecDepth 20000 in
theorem gX4_before_X4_sideOf : GoodIn wsX4_before (va_wsS RX4 55 yX4_sideOf wsX4_sideOf) := goodIn_app (goodIn_of _ (by decide +kernel)) ggX4_before_X4_sideOf
set_option maxRecDepth 20000 in
theorem ggX4_before_X4_isAcrossX : GoodIn wsX4_before wsX4_isAcrossX := goodIn_r _ [7] (by decide +kernel) (by decide +kernel)
set_option maxRecDepth 20000 in
theorem gX4_before_X4_isAcrossX : GoodIn wsX4_before (va_wsS RX4 58 yX4_isAcrossX wsX4_isAcrossX) := goodIn_app (goodIn_of _ (by decide +kernel)) ggX4_before_X4_isAcrossX
set_option maxRecDepth 20000 in
theorem ggX4_before_X4_isUpOf : GoodIn wsX4_before wsX4_isUpOf := goodIn_r _ [10] (by decide +kernel) (by decide +kernel)
set_option maxRecDepth 20000 in
theorem gX4_before_X4_isUpOf : GoodIn wsX4_before (va_wsS RX4 62 yX4_isUpOf wsX4_isUpOf) := goodIn_app (goodIn_of _ (by decide +kernel)) ggX4_before_X4_isUpOf
set_option maxRecDepth 20000 in
theorem ggX4_before_X4_opposite : GoodIn wsX4_before wsX4_opposite := goodIn_r _ [13] (by decide +kernel) (by decide +kernel)
set_option maxRecDepth 20000 in
theorem gX4_before_X4_opposite : GoodIn wsX4_before (va_wsS RX4 78 yX4_opposite wsX4_opposite) := goodIn_app (goodIn_of _ (by decide +kernel)) ggX4_before_X4_opposite
set_option maxRecDepth 20000 in
theorem ggX4_before_X4_isBlockBehind : GoodIn wsX4_before wsX4_isBlockBehind := goodIn_r _ [17, 18, 19, 3, 20, 21, 22, 23, 24, 25, 26, 27, 28, 29, 30, 31, 32, 33, 34, 35, 36, 37, 44, 45] (by decide +kernel) (by decide +kernel)
set_option maxRecDepth 20000 in
theorem gX4_before_X4_isBlockBehind : GoodIn wsX4_before (wsV RX4 68 RX4 yX4_isBlockBehind wsX4_isBlockBehind) := goodIn_app (goodIn_of _ (by decide +kernel)) ggX4_before_X4_isBlockBehind
set_option maxRecDepth 20000 in
theorem ggX4_before_X4_xOf : GoodIn wsX4_before wsX4_xOf := goodIn_r _ [23] (by decide +kernel) (by decide +kernel)
set_option maxRecDepth 20000 in
theorem gX4_before_X4_xOf : GoodIn wsX4_before (va_wsS RX4 38 yX4_xOf wsX4_xOf) := goodIn_app (goodIn_of _ (by decide +kernel)) ggX4_before_X4_xOf
set_option maxRecDepth 20000 in
theorem ggX4_before_X4_yOf : GoodIn wsX4_before wsX4_yOf := goodIn_r _ [29] (by decide +kernel) (by decide +kernel)
set_option maxRecDepth 20000 in
theorem gX4_before_X4_yOf : GoodIn wsX4_before (va_wsS RX4 42 yX4_yOf wsX4_yOf) := goodIn_app (goodIn_of _ (by decide +kernel)) ggX4_before_X4_yOf
set_option maxRecDepth 20000 in
theorem ggX4_before_X4_isLow : GoodIn wsX4_before wsX4_isLow := goodIn_r _ [40] (by decide +kernel) (by decide +kernel)
set_option maxRecDepth 20000 in
theorem gX4_before_X4_isLow : GoodIn wsX4_before (va_wsS RX4 71 yX4_isLow wsX4_isLow) := goodIn_app (goodIn_of _ (by decide +kernel)) ggX4_before_X4_isLow
set_option maxRecDepth 20000 in
theorem ggX4_before_X4_stateOf : GoodIn wsX4_before wsX4_stateOf := goodIn_r _ [43] (by decide +kernel) (by decide +kernel)
set_option maxRecDepth 20000 in
theorem gX4_before_X4_stateOf : GoodIn wsX4_before (va_wsS RX4 74 yX4_stateOf wsX4_stateOf) := goodIn_app (goodIn_of _ (by decide +kernel)) ggX4_before_X4_stateOf
set_option maxRecDepth 20000 in
theorem ggX4_before_X4_xBehind : GoodIn wsX4_before wsX4_xBehind := goodIn_r _ [20, 21, 22, 3, 23] (by decide +kernel) (by decide +kernel)
set_option maxRecDepth 20000 in
theorem gX4_before_X4_xBehind : GoodIn wsX4_before (va_wsS RX4 45 yX4_xBehind wsX4_xBehind) := goodIn_app (goodIn_of _ (by decide +kernel)) ggX4_before_X4_xBehind
set_option maxRecDepth 20000 in
theorem ggX4_before_X4_yBehind : GoodIn wsX4_before wsX4_yBehind := goodIn_r _ [26, 27, 28, 3, 29] (by decide +kernel) (by decide +kernel)
set_option maxRecDepth 20000 in
theorem gX4_before_X4_yBehind : GoodIn wsX4_before (va_wsS RX4 49 yX4_yBehind wsX4_yBehind) := goodIn_app (goodIn_of _ (by decide +kernel)) ggX4_before_X4_yBehind
theorem dX4_before_0 : decode cX4_before 0 = .ok (.iload_n 1, 1) := by decide +kernel
theorem dX4_before_1 : decode cX4_before 1 = .ok (.invokestatic 55, 3) := by decide +kernel
theorem dX4_before_4 : decode cX4_before 4 = .ok (.istore_n 2, 1) := by decide +kernel
theorem dX4_before_5 : decode cX4_before 5 = .ok (.iload_n 2, 1) := by decide +kernel
theorem dX4_before_6 : decode cX4_before 6 = .ok (.invokestatic 58, 3) := by decide +kernel
theorem dX4_before_9 : decode cX4_before 9 = .ok (.ifCond .eq 7, 3) := by decide +kernel
theorem dX4_before_12 : decode cX4_before 12 = .ok (.iconst 1, 1) := by decide +kernel
theorem dX4_before_13 : decode cX4_before 13 = .ok (.goto 4, 3) := by decide +kernel
theorem dX4_before_16 : decode cX4_before 16 = .ok (.iconst 0, 1) := by decide +kernel
theorem dX4_before_17 : decode cX4_before 17 = .ok (.istore_n 3, 1) := by decide +kernel
theorem dX4_before_18 : decode cX4_before 18 = .ok (.iload_n 1, 1) := by decide +kernel
theorem dX4_before_19 : decode cX4_before 19 = .ok (.invokestatic 62, 3) := by decide +kernel
theorem dX4_before_22 : decode cX4_before 22 = .ok (.ifCond .eq 7, 3) := by decide +kernel
theorem dX4_before_25 : decode cX4_before 25 = .ok (.iload_n 3, 1) := by decide +kernel
theorem dX4_before_26 : decode cX4_before 26 = .ok (.goto 7, 3) := by decide +kernel
theorem dX4_before_29 : decode cX4_before 29 = .ok (.iload_n 3, 1) := by decide +kernel
theorem dX4_before_30 : decode cX4_before 30 = .ok (.invokestatic 78, 3) := by decide +kernel
theorem dX4_before_33 : decode cX4_before 33 = .ok (.istore 4, 2) := by decide +kernel
theorem dX4_before_35 : decode cX4_before 35 = .ok (.aload_n 0, 1) := by decide +kernel
theorem dX4_before_36 : decode cX4_before 36 = .ok (.iload_n 1, 1) := by decide +kernel
theorem dX4_before_37 : decode cX4_before 37 = .ok (.iload_n 2, 1) := by decide +kernel
theorem dX4_before_38 : decode cX4_before 38 = .ok (.invokevirtual 68, 3) := by decide +kernel
theorem dX4_before_41 : decode cX4_before 41 = .ok (.ifCond .eq 29, 3) := by decide +kernel
theorem dX4_before_44 : decode cX4_before 44 = .ok (.iload_n 1, 1) := by decide +kernel
theorem dX4_before_45 : decode cX4_before 45 = .ok (.invokestatic 38, 3) := by decide +kernel
theorem dX4_before_48 : decode cX4_before 48 = .ok (.iload_n 1, 1) := by decide +kernel
theorem dX4_before_49 : decode cX4_before 49 = .ok (.invokestatic 42, 3) := by decide +kernel
theorem dX4_before_52 : decode cX4_before 52 = .ok (.iload 4, 2) := by decide +kernel
theorem dX4_before_54 : decode cX4_before 54 = .ok (.iload_n 2, 1) := by decide +kernel
theorem dX4_before_55 : decode cX4_before 55 = .ok (.invokestatic 71, 3) := by decide +kernel
theorem dX4_before_58 : decode cX4_before 58 = .ok (.ifCond .ne 7, 3) := by decide +kernel
theorem dX4_before_61 : decode cX4_before 61 = .ok (.iconst 1, 1) := by decide +kernel
theorem dX4_before_62 : decode cX4_before 62 = .ok (.goto 4, 3) := by decide +kernel
theorem dX4_before_65 : decode cX4_before 65 = .ok (.iconst 0, 1) := by decide +kernel
theorem dX4_before_66 : decode cX4_before 66 = .ok (.invokestatic 74, 3) := by decide +kernel
theorem dX4_before_69 : decode cX4_before 69 = .ok (.ireturn, 1) := by decide +kernel
theorem dX4_before_70 : decode cX4_before 70 = .ok (.iload_n 1, 1) := by decide +kernel
theorem dX4_before_71 : decode cX4_before 71 = .ok (.iload_n 2, 1) := by decide +kernel
theorem dX4_before_72 : decode cX4_before 72 = .ok (.invokestatic 45, 3) := by decide +kernel
theorem dX4_before_75 : decode cX4_before 75 = .ok (.iload_n 1, 1) := by decide +kernel
theorem dX4_before_76 : decode cX4_before 76 = .ok (.iload_n 2, 1) := by decide +kernel
theorem dX4_before_77 : decode cX4_before 77 = .ok (.invokestatic 49, 3) := by decide +kernel
theorem dX4_before_80 : decode cX4_before 80 = .ok (.iload 4, 2) := by decide +kernel
theorem dX4_before_82 : decode cX4_before 82 = .ok (.iload_n 2, 1) := by decide +kernel
theorem dX4_before_83 : decode cX4_before 83 = .ok (.invokestatic 71, 3) := by decide +kernel
theorem dX4_before_86 : decode cX4_before 86 = .ok (.invokestatic 74, 3) := by decide +kernel
theorem dX4_before_89 : decode cX4_before 89 = .ok (.ireturn, 1) := by decide +kernel
set_option maxRecDepth 20000 in
theorem ggX4_stepsRound_X4_after : GoodIn wsX4_stepsRound wsX4_after := goodIn_r _ [5, 6, 7, 4, 8, 9, 10, 11, 12, 13, 14, 15, 16, 17, 18, 19, 20, 21, 22, 23, 24, 25, 26, 27, 28, 29, 30, 31, 32, 33, 34, 35, 36, 37, 38, 39, 40, 41, 42, 43, 44, 45, 46, 47, 48, 49, 50, 51, 52] (by decide +kernel) (by decide +kernel)
set_option maxRecDepth 20000 in
theorem gX4_stepsRound_X4_after : GoodIn wsX4_stepsRound (wsV RX4 81 RX4 yX4_after wsX4_after) := goodIn_app (goodIn_of _ (by decide +kernel)) ggX4_stepsRound_X4_after
theorem dX4_stepsRound_0 : decode cX4_stepsRound 0 = .ok (.iconst 1, 1) := by decide +kernel
theorem dX4_stepsRound_1 : decode cX4_stepsRound 1 = .ok (.istore_n 2, 1) := by decide +kernel
theorem dX4_stepsRound_2 : decode cX4_stepsRound 2 = .ok (.aload_n 0, 1) := by decide +kernel
theorem dX4_stepsRound_3 : decode cX4_stepsRound 3 = .ok (.iload_n 1, 1) := by decide +kernel
theorem dX4_stepsRound_4 : decode cX4_stepsRound 4 = .ok (.invokevirtual 81, 3) := by decide +kernel
theorem dX4_stepsRound_7 : decode cX4_stepsRound 7 = .ok (.istore_n 3, 1) := by decide +kernel
theorem dX4_stepsRound_8 : decode cX4_stepsRound 8 = .ok (.iload_n 3, 1) := by decide +kernel
theorem dX4_stepsRound_9 : decode cX4_stepsRound 9 = .ok (.iload_n 1, 1) := by decide +kernel
theorem dX4_stepsRound_10 : decode cX4_stepsRound 10 = .ok (.if_icmp .eq 22, 3) := by decide +kernel
theorem dX4_stepsRound_13 : decode cX4_stepsRound 13 = .ok (.iload_n 2, 1) := by decide +kernel
theorem dX4_stepsRound_14 : decode cX4_stepsRound 14 = .ok (.sipush 512, 3) := by decide +kernel
theorem dX4_stepsRound_17 : decode cX4_stepsRound 17 = .ok (.if_icmp .ge 15, 3) := by decide +kernel
theorem dX4_stepsRound_20 : decode cX4_stepsRound 20 = .ok (.iinc 2 1, 3) := by decide +kernel
theorem dX4_stepsRound_23 : decode cX4_stepsRound 23 = .ok (.aload_n 0, 1) := by decide +kernel
theorem dX4_stepsRound_24 : decode cX4_stepsRound 24 = .ok (.iload_n 3, 1) := by decide +kernel
theorem dX4_stepsRound_25 : decode cX4_stepsRound 25 = .ok (.invokevirtual 81, 3) := by decide +kernel
theorem dX4_stepsRound_28 : decode cX4_stepsRound 28 = .ok (.istore_n 3, 1) := by decide +kernel
theorem dX4_stepsRound_29 : decode cX4_stepsRound 29 = .ok (.goto (-21), 3) := by decide +kernel
theorem dX4_stepsRound_32 : decode cX4_stepsRound 32 = .ok (.iload_n 2, 1) := by decide +kernel
theorem dX4_stepsRound_33 : decode cX4_stepsRound 33 = .ok (.ireturn, 1) := by decide +kernel
set_option maxRecDepth 20000 in
theorem ggX4_stepsRoundBackwards_X4_before : GoodIn wsX4_stepsRoundBackwards wsX4_before := goodIn_r _ [5, 6, 7, 4, 8, 9, 10, 11, 12, 13, 14, 15, 16, 17, 18, 19, 20, 21, 22, 23, 24, 25, 26, 27, 28, 29, 30, 31, 32, 33, 34, 35, 36, 37, 38, 39, 40, 41, 42, 43, 44, 45, 46, 47, 48, 49] (by decide +kernel) (by decide +kernel)
set_option maxRecDepth 20000 in
theorem gX4_stepsRoundBackwards_X4_before : GoodIn wsX4_stepsRoundBackwards (wsV RX4 84 RX4 yX4_before wsX4_before) := goodIn_app (goodIn_of _ (by decide +kernel)) ggX4_stepsRoundBackwards_X4_before
theorem dX4_stepsRoundBackwards_0 : decode cX4_stepsRoundBackwards 0 = .ok (.iconst 1, 1) := by decide +kernel
theorem dX4_stepsRoundBackwards_1 : decode cX4_stepsRoundBackwards 1 = .ok (.istore_n 2, 1) := by decide +kernel
theorem dX4_stepsRoundBackwards_2 : decode cX4_stepsRoundBackwards 2 = .ok (.aload_n 0, 1) := by decide +kernel
theorem dX4_stepsRoundBackwards_3 : decode cX4_stepsRoundBackwards 3 = .ok (.iload_n 1, 1) := by decide +kernel
theorem dX4_stepsRoundBackwards_4 : decode cX4_stepsRoundBackwards 4 = .ok (.invokevirtual 84, 3) := by decide +kernel
theorem dX4_stepsRoundBackwards_7 : decode cX4_stepsRoundBackwards 7 = .ok (.istore_n 3, 1) := by decide +kernel
theorem dX4_stepsRoundBackwards_8 : decode cX4_stepsRoundBackwards 8 = .ok (.iload_n 3, 1) := by decide +kernel
theorem dX4_stepsRoundBackwards_9 : decode cX4_stepsRoundBackwards 9 = .ok (.iload_n 1, 1) := by decide +kernel
theorem dX4_stepsRoundBackwards_10 : decode cX4_stepsRoundBackwards 10 = .ok (.if_icmp .eq 22, 3) := by decide +kernel
theorem dX4_stepsRoundBackwards_13 : decode cX4_stepsRoundBackwards 13 = .ok (.iload_n 2, 1) := by decide +kernel
theorem dX4_stepsRoundBackwards_14 : decode cX4_stepsRoundBackwards 14 = .ok (.sipush 512, 3) := by decide +kernel
theorem dX4_stepsRoundBackwards_17 : decode cX4_stepsRoundBackwards 17 = .ok (.if_icmp .ge 15, 3) := by decide +kernel
theorem dX4_stepsRoundBackwards_20 : decode cX4_stepsRoundBackwards 20 = .ok (.iinc 2 1, 3) := by decide +kernel
theorem dX4_stepsRoundBackwards_23 : decode cX4_stepsRoundBackwards 23 = .ok (.aload_n 0, 1) := by decide +kernel
theorem dX4_stepsRoundBackwards_24 : decode cX4_stepsRoundBackwards 24 = .ok (.iload_n 3, 1) := by decide +kernel
theorem dX4_stepsRoundBackwards_25 : decode cX4_stepsRoundBackwards 25 = .ok (.invokevirtual 84, 3) := by decide +kernel
theorem dX4_stepsRoundBackwards_28 : decode cX4_stepsRoundBackwards 28 = .ok (.istore_n 3, 1) := by decide +kernel
theorem dX4_stepsRoundBackwards_29 : decode cX4_stepsRoundBackwards 29 = .ok (.goto (-21), 3) := by decide +kernel
theorem dX4_stepsRoundBackwards_32 : decode cX4_stepsRoundBackwards 32 = .ok (.iload_n 2, 1) := by decide +kernel
theorem dX4_stepsRoundBackwards_33 : decode cX4_stepsRoundBackwards 33 = .ok (.ireturn, 1) := by decide +kernel
set_option maxRecDepth 20000 in
theorem ggX4_bouncesRound_X4_doesBounce : GoodIn wsX4_bouncesRound wsX4_doesBounce := goodIn_r _ [5, 6, 7, 4, 8, 9, 10, 11, 12, 13, 14, 15, 16, 17, 18, 19, 20, 21, 22, 23, 24, 25, 26, 27, 28, 29, 30, 31, 32, 33, 34, 35, 36, 37, 38, 39, 40, 41, 55, 56] (by decide +kernel) (by decide +kernel)
set_option maxRecDepth 20000 in
theorem gX4_bouncesRound_X4_doesBounce : GoodIn wsX4_bouncesRound (wsV RX4 87 RX4 yX4_doesBounce wsX4_doesBounce) := goodIn_app (goodIn_of _ (by decide +kernel)) ggX4_bouncesRound_X4_doesBounce
set_option maxRecDepth 20000 in
theorem ggX4_bouncesRound_X4_after : GoodIn wsX4_bouncesRound wsX4_after := goodIn_r _ [45, 6, 7, 4, 8, 9, 10, 11, 12, 13, 14, 15, 16, 17, 46, 47, 48, 18, 19, 20, 21, 22, 23, 24, 25, 26, 27, 28, 29, 30, 31, 32, 33, 34, 35, 36, 37, 38, 39, 40, 41, 49, 50, 51, 52, 53, 54, 55, 56] (by decide +kernel) (by decide +kernel)
set_option maxRecDepth 20000 in
theorem gX4_bouncesRound_X4_after : GoodIn wsX4_bouncesRound (wsV RX4 81 RX4 yX4_after wsX4_after) := goodIn_app (goodIn_of _ (by decide +kernel)) ggX4_bouncesRound_X4_after
theorem dX4_bouncesRound_0 : decode cX4_bouncesRound 0 = .ok (.iconst 0, 1) := by decide +kernel
theorem dX4_bouncesRound_1 : decode cX4_bouncesRound 1 = .ok (.istore_n 2, 1) := by decide +kernel
theorem dX4_bouncesRound_2 : decode cX4_bouncesRound 2 = .ok (.iload_n 1, 1) := by decide +kernel
theorem dX4_bouncesRound_3 : decode cX4_bouncesRound 3 = .ok (.istore_n 3, 1) := by decide +kernel
theorem dX4_bouncesRound_4 : decode cX4_bouncesRound 4 = .ok (.iconst 0, 1) := by decide +kernel
theorem dX4_bouncesRound_5 : decode cX4_bouncesRound 5 = .ok (.istore 4, 2) := by decide +kernel
theorem dX4_bouncesRound_7 : decode cX4_bouncesRound 7 = .ok (.iload 4, 2) := by decide +kernel
theorem dX4_bouncesRound_9 : decode cX4_bouncesRound 9 = .ok (.sipush 512, 3) := by decide +kernel
theorem dX4_bouncesRound_12 : decode cX4_bouncesRound 12 = .ok (.if_icmp .ge 36, 3) := by decide +kernel
theorem dX4_bouncesRound_15 : decode cX4_bouncesRound 15 = .ok (.iload 4, 2) := by decide +kernel
theorem dX4_bouncesRound_17 : decode cX4_bouncesRound 17 = .ok (.ifCond .eq 8, 3) := by decide +kernel
theorem dX4_bouncesRound_20 : decode cX4_bouncesRound 20 = .ok (.iload_n 3, 1) := by decide +kernel
theorem dX4_bouncesRound_21 : decode cX4_bouncesRound 21 = .ok (.iload_n 1, 1) := by decide +kernel
theorem dX4_bouncesRound_22 : decode cX4_bouncesRound 22 = .ok (.if_icmp .eq 26, 3) := by decide +kernel
theorem dX4_bouncesRound_25 : decode cX4_bouncesRound 25 = .ok (.aload_n 0, 1) := by decide +kernel
theorem dX4_bouncesRound_26 : decode cX4_bouncesRound 26 = .ok (.iload_n 3, 1) := by decide +kernel
theorem dX4_bouncesRound_27 : decode cX4_bouncesRound 27 = .ok (.invokevirtual 87, 3) := by decide +kernel
theorem dX4_bouncesRound_30 : decode cX4_bouncesRound 30 = .ok (.ifCond .eq 6, 3) := by decide +kernel
theorem dX4_bouncesRound_33 : decode cX4_bouncesRound 33 = .ok (.iinc 2 1, 3) := by decide +kernel
theorem dX4_bouncesRound_36 : decode cX4_bouncesRound 36 = .ok (.aload_n 0, 1) := by decide +kernel
theorem dX4_bouncesRound_37 : decode cX4_bouncesRound 37 = .ok (.iload_n 3, 1) := by decide +kernel
theorem dX4_bouncesRound_38 : decode cX4_bouncesRound 38 = .ok (.invokevirtual 81, 3) := by decide +kernel
theorem dX4_bouncesRound_41 : decode cX4_bouncesRound 41 = .ok (.istore_n 3, 1) := by decide +kernel
theorem dX4_bouncesRound_42 : decode cX4_bouncesRound 42 = .ok (.iinc 4 1, 3) := by decide +kernel
theorem dX4_bouncesRound_45 : decode cX4_bouncesRound 45 = .ok (.goto (-38), 3) := by decide +kernel
theorem dX4_bouncesRound_48 : decode cX4_bouncesRound 48 = .ok (.iload_n 2, 1) := by decide +kernel
theorem dX4_bouncesRound_49 : decode cX4_bouncesRound 49 = .ok (.ireturn, 1) := by decide +kernel
set_option maxRecDepth 20000 in
theorem ggX4_cellsRound_X4_xOf : GoodIn wsX4_cellsRound wsX4_xOf := goodIn_r _ [4] (by decide +kernel) (by decide +kernel)
set_option maxRecDepth 20000 in
theorem gX4_cellsRound_X4_xOf : GoodIn wsX4_cellsRound (va_wsS RX4 38 yX4_xOf wsX4_xOf) := goodIn_app (goodIn_of _ (by decide +kernel)) ggX4_cellsRound_X4_xOf
set_option maxRecDepth 20000 in
theorem ggX4_cellsRound_X4_yOf : GoodIn wsX4_cellsRound wsX4_yOf := goodIn_r _ [7] (by decide +kernel) (by decide +kernel)
set_option maxRecDepth 20000 in
theorem gX4_cellsRound_X4_yOf : GoodIn wsX4_cellsRound (va_wsS RX4 42 yX4_yOf wsX4_yOf) := goodIn_app (goodIn_of _ (by decide +kernel)) ggX4_cellsRound_X4_yOf
set_option maxRecDepth 20000 in
theorem ggX4_cellsRound_X4_after : GoodIn wsX4_cellsRound wsX4_after := goodIn_r _ [11, 12, 13, 3, 14, 15, 16, 17, 18, 19, 20, 21, 22, 23, 24, 25, 26, 27, 28, 29, 30, 31, 32, 33, 1, 2, 4, 34, 35, 36, 5, 6, 7, 37, 38, 39, 40, 41, 42, 43, 44, 45, 46, 47, 48, 49, 50, 58, 59] (by decide +kernel) (by decide +kernel)
set_option maxRecDepth 20000 in
theorem gX4_cellsRound_X4_after : GoodIn wsX4_cellsRound (wsV RX4 81 RX4 yX4_after wsX4_after) := goodIn_app (goodIn_of _ (by decide +kernel)) ggX4_cellsRound_X4_after
set_option maxRecDepth 20000 in
theorem ggX4_cellsRound_J13_bitCount_95d88 : GoodIn wsX4_cellsRound wsJ13_bitCount_95d88 := goodIn_r _ [54, 55, 56, 57] (by decide +kernel) (by decide +kernel)
set_option maxRecDepth 20000 in
theorem gX4_cellsRound_J13_bitCount_95d88 : GoodIn wsX4_cellsRound (va_wsS RX4 28 yJ13_bitCount_95d88 wsJ13_bitCount_95d88) := goodIn_app (goodIn_of _ (by decide +kernel)) ggX4_cellsRound_J13_bitCount_95d88
theorem dX4_cellsRound_0 : decode cX4_cellsRound 0 = .ok (.lconst 0, 1) := by decide +kernel
theorem dX4_cellsRound_1 : decode cX4_cellsRound 1 = .ok (.lstore_n 2, 1) := by decide +kernel
theorem dX4_cellsRound_2 : decode cX4_cellsRound 2 = .ok (.iload_n 1, 1) := by decide +kernel
theorem dX4_cellsRound_3 : decode cX4_cellsRound 3 = .ok (.istore 4, 2) := by decide +kernel
theorem dX4_cellsRound_5 : decode cX4_cellsRound 5 = .ok (.iconst 0, 1) := by decide +kernel
theorem dX4_cellsRound_6 : decode cX4_cellsRound 6 = .ok (.istore 5, 2) := by decide +kernel
theorem dX4_cellsRound_8 : decode cX4_cellsRound 8 = .ok (.iload 5, 2) := by decide +kernel
theorem dX4_cellsRound_10 : decode cX4_cellsRound 10 = .ok (.sipush 512, 3) := by decide +kernel
theorem dX4_cellsRound_13 : decode cX4_cellsRound 13 = .ok (.if_icmp .ge 47, 3) := by decide +kernel
theorem dX4_cellsRound_16 : decode cX4_cellsRound 16 = .ok (.iload 5, 2) := by decide +kernel
theorem dX4_cellsRound_18 : decode cX4_cellsRound 18 = .ok (.ifCond .eq 9, 3) := by decide +kernel
theorem dX4_cellsRound_21 : decode cX4_cellsRound 21 = .ok (.iload 4, 2) := by decide +kernel
theorem dX4_cellsRound_23 : decode cX4_cellsRound 23 = .ok (.iload_n 1, 1) := by decide +kernel
theorem dX4_cellsRound_24 : decode cX4_cellsRound 24 = .ok (.if_icmp .eq 36, 3) := by decide +kernel
theorem dX4_cellsRound_27 : decode cX4_cellsRound 27 = .ok (.lload_n 2, 1) := by decide +kernel
theorem dX4_cellsRound_28 : decode cX4_cellsRound 28 = .ok (.lconst 1, 1) := by decide +kernel
theorem dX4_cellsRound_29 : decode cX4_cellsRound 29 = .ok (.iload 4, 2) := by decide +kernel
theorem dX4_cellsRound_31 : decode cX4_cellsRound 31 = .ok (.invokestatic 38, 3) := by decide +kernel
theorem dX4_cellsRound_34 : decode cX4_cellsRound 34 = .ok (.bipush 8, 2) := by decide +kernel
theorem dX4_cellsRound_36 : decode cX4_cellsRound 36 = .ok (.iload 4, 2) := by decide +kernel
theorem dX4_cellsRound_38 : decode cX4_cellsRound 38 = .ok (.invokestatic 42, 3) := by decide +kernel
theorem dX4_cellsRound_41 : decode cX4_cellsRound 41 = .ok (.imul, 1) := by decide +kernel
theorem dX4_cellsRound_42 : decode cX4_cellsRound 42 = .ok (.iadd, 1) := by decide +kernel
theorem dX4_cellsRound_43 : decode cX4_cellsRound 43 = .ok (.lshl, 1) := by decide +kernel
theorem dX4_cellsRound_44 : decode cX4_cellsRound 44 = .ok (.lor, 1) := by decide +kernel
theorem dX4_cellsRound_45 : decode cX4_cellsRound 45 = .ok (.lstore_n 2, 1) := by decide +kernel
theorem dX4_cellsRound_46 : decode cX4_cellsRound 46 = .ok (.aload_n 0, 1) := by decide +kernel
theorem dX4_cellsRound_47 : decode cX4_cellsRound 47 = .ok (.iload 4, 2) := by decide +kernel
theorem dX4_cellsRound_49 : decode cX4_cellsRound 49 = .ok (.invokevirtual 81, 3) := by decide +kernel
theorem dX4_cellsRound_52 : decode cX4_cellsRound 52 = .ok (.istore 4, 2) := by decide +kernel
theorem dX4_cellsRound_54 : decode cX4_cellsRound 54 = .ok (.iinc 5 1, 3) := by decide +kernel
theorem dX4_cellsRound_57 : decode cX4_cellsRound 57 = .ok (.goto (-49), 3) := by decide +kernel
theorem dX4_cellsRound_60 : decode cX4_cellsRound 60 = .ok (.lload_n 2, 1) := by decide +kernel
theorem dX4_cellsRound_61 : decode cX4_cellsRound 61 = .ok (.invokestatic 28, 3) := by decide +kernel
theorem dX4_cellsRound_64 : decode cX4_cellsRound 64 = .ok (.ireturn, 1) := by decide +kernel
set_option maxRecDepth 20000 in
theorem ggX4_sideOfBounce_X4_bouncesRound : GoodIn wsX4_sideOfBounce wsX4_bouncesRound := goodIn_r _ [5, 6, 7, 8, 4, 9, 10, 11, 12, 13, 14, 15, 16, 17, 18, 19, 20, 21, 22, 23, 24, 25, 26, 27, 28, 29, 30, 31, 32, 33, 34, 35, 36, 37, 38, 39, 40, 41, 42, 43, 44, 45, 46, 47, 48, 49, 50, 51, 52, 53, 54, 55, 56, 57, 58, 59, 60] (by decide +kernel) (by decide +kernel)
set_option maxRecDepth 20000 in
theorem gX4_sideOfBounce_X4_bouncesRound : GoodIn wsX4_sideOfBounce (wsV RX4 90 RX4 yX4_bouncesRound wsX4_bouncesRound) := goodIn_app (goodIn_of _ (by decide +kernel)) ggX4_sideOfBounce_X4_bouncesRound
set_option maxRecDepth 20000 in
theorem ggX4_sideOfBounce_X4_doesBounce : GoodIn wsX4_sideOfBounce wsX4_doesBounce := goodIn_r _ [9, 10, 11, 4, 12, 13, 14, 15, 16, 17, 18, 19, 20, 21, 22, 23, 24, 25, 26, 27, 28, 29, 30, 31, 32, 33, 34, 35, 36, 37, 38, 39, 40, 41, 42, 43, 44, 45, 59, 60] (by decide +kernel) (by decide +kernel)
set_option maxRecDepth 20000 in
theorem gX4_sideOfBounce_X4_doesBounce : GoodIn wsX4_sideOfBounce (wsV RX4 87 RX4 yX4_doesBounce wsX4_doesBounce) := goodIn_app (goodIn_of _ (by decide +kernel)) ggX4_sideOfBounce_X4_doesBounce
set_option maxRecDepth 20000 in
theorem ggX4_sideOfBounce_X4_goalOf : GoodIn wsX4_sideOfBounce wsX4_goalOf := goodIn_r _ [12, 13, 14, 4, 15, 16, 17, 18, 19, 20, 21] (by decide +kernel) (by decide +kernel)
set_option maxRecDepth 20000 in
theorem gX4_sideOfBounce_X4_goalOf : GoodIn wsX4_sideOfBounce (va_wsS RX4 65 yX4_goalOf wsX4_goalOf) := goodIn_app (goodIn_of _ (by decide +kernel)) ggX4_sideOfBounce_X4_goalOf
set_option maxRecDepth 20000 in
theorem ggX4_sideOfBounce_X4_after : GoodIn wsX4_sideOfBounce wsX4_after := goodIn_r _ [49, 10, 11, 4, 12, 13, 14, 15, 16, 17, 18, 19, 20, 21, 50, 51, 52, 22, 23, 24, 25, 26, 27, 28, 29, 30, 31, 32, 33, 34, 35, 36, 37, 38, 39, 40, 41, 42, 43, 44, 45, 53, 54, 55, 56, 57, 58, 59, 60] (by decide +kernel) (by decide +kernel)
set_option maxRecDepth 20000 in
theorem gX4_sideOfBounce_X4_after : GoodIn wsX4_sideOfBounce (wsV RX4 81 RX4 yX4_after wsX4_after) := goodIn_app (goodIn_of _ (by decide +kernel)) ggX4_sideOfBounce_X4_after
theorem dX4_sideOfBounce_0 : decode cX4_sideOfBounce 0 = .ok (.aload_n 0, 1) := by decide +kernel
theorem dX4_sideOfBounce_1 : decode cX4_sideOfBounce 1 = .ok (.iload_n 1, 1) := by decide +kernel
theorem dX4_sideOfBounce_2 : decode cX4_sideOfBounce 2 = .ok (.invokevirtual 90, 3) := by decide +kernel
theorem dX4_sideOfBounce_5 : decode cX4_sideOfBounce 5 = .ok (.istore_n 3, 1) := by decide +kernel
theorem dX4_sideOfBounce_6 : decode cX4_sideOfBounce 6 = .ok (.iload_n 3, 1) := by decide +kernel
theorem dX4_sideOfBounce_7 : decode cX4_sideOfBounce 7 = .ok (.ifCond .le 9, 3) := by decide +kernel
theorem dX4_sideOfBounce_10 : decode cX4_sideOfBounce 10 = .ok (.iload_n 2, 1) := by decide +kernel
theorem dX4_sideOfBounce_11 : decode cX4_sideOfBounce 11 = .ok (.iload_n 3, 1) := by decide +kernel
theorem dX4_sideOfBounce_12 : decode cX4_sideOfBounce 12 = .ok (.irem, 1) := by decide +kernel
theorem dX4_sideOfBounce_13 : decode cX4_sideOfBounce 13 = .ok (.goto 4, 3) := by decide +kernel
theorem dX4_sideOfBounce_16 : decode cX4_sideOfBounce 16 = .ok (.iconst 0, 1) := by decide +kernel
theorem dX4_sideOfBounce_17 : decode cX4_sideOfBounce 17 = .ok (.istore 4, 2) := by decide +kernel
theorem dX4_sideOfBounce_19 : decode cX4_sideOfBounce 19 = .ok (.iload_n 1, 1) := by decide +kernel
theorem dX4_sideOfBounce_20 : decode cX4_sideOfBounce 20 = .ok (.istore 5, 2) := by decide +kernel
theorem dX4_sideOfBounce_22 : decode cX4_sideOfBounce 22 = .ok (.iconst 0, 1) := by decide +kernel
theorem dX4_sideOfBounce_23 : decode cX4_sideOfBounce 23 = .ok (.istore 6, 2) := by decide +kernel
theorem dX4_sideOfBounce_25 : decode cX4_sideOfBounce 25 = .ok (.iload 6, 2) := by decide +kernel
theorem dX4_sideOfBounce_27 : decode cX4_sideOfBounce 27 = .ok (.sipush 512, 3) := by decide +kernel
theorem dX4_sideOfBounce_30 : decode cX4_sideOfBounce 30 = .ok (.if_icmp .ge 40, 3) := by decide +kernel
theorem dX4_sideOfBounce_33 : decode cX4_sideOfBounce 33 = .ok (.aload_n 0, 1) := by decide +kernel
theorem dX4_sideOfBounce_34 : decode cX4_sideOfBounce 34 = .ok (.iload 5, 2) := by decide +kernel
theorem dX4_sideOfBounce_36 : decode cX4_sideOfBounce 36 = .ok (.invokevirtual 87, 3) := by decide +kernel
theorem dX4_sideOfBounce_39 : decode cX4_sideOfBounce 39 = .ok (.ifCond .eq 17, 3) := by decide +kernel
theorem dX4_sideOfBounce_42 : decode cX4_sideOfBounce 42 = .ok (.iload 4, 2) := by decide +kernel
theorem dX4_sideOfBounce_44 : decode cX4_sideOfBounce 44 = .ok (.ifCond .ne 9, 3) := by decide +kernel
theorem dX4_sideOfBounce_47 : decode cX4_sideOfBounce 47 = .ok (.iload 5, 2) := by decide +kernel
theorem dX4_sideOfBounce_49 : decode cX4_sideOfBounce 49 = .ok (.invokestatic 65, 3) := by decide +kernel
theorem dX4_sideOfBounce_52 : decode cX4_sideOfBounce 52 = .ok (.ireturn, 1) := by decide +kernel
theorem dX4_sideOfBounce_53 : decode cX4_sideOfBounce 53 = .ok (.iinc 4 (-1), 3) := by decide +kernel
theorem dX4_sideOfBounce_56 : decode cX4_sideOfBounce 56 = .ok (.aload_n 0, 1) := by decide +kernel
theorem dX4_sideOfBounce_57 : decode cX4_sideOfBounce 57 = .ok (.iload 5, 2) := by decide +kernel
theorem dX4_sideOfBounce_59 : decode cX4_sideOfBounce 59 = .ok (.invokevirtual 81, 3) := by decide +kernel
theorem dX4_sideOfBounce_62 : decode cX4_sideOfBounce 62 = .ok (.istore 5, 2) := by decide +kernel
theorem dX4_sideOfBounce_64 : decode cX4_sideOfBounce 64 = .ok (.iinc 6 1, 3) := by decide +kernel
theorem dX4_sideOfBounce_67 : decode cX4_sideOfBounce 67 = .ok (.goto (-42), 3) := by decide +kernel
theorem dX4_sideOfBounce_70 : decode cX4_sideOfBounce 70 = .ok (.iload 5, 2) := by decide +kernel
theorem dX4_sideOfBounce_72 : decode cX4_sideOfBounce 72 = .ok (.invokestatic 65, 3) := by decide +kernel
theorem dX4_sideOfBounce_75 : decode cX4_sideOfBounce 75 = .ok (.ireturn, 1) := by decide +kernel
set_option maxRecDepth 20000 in
theorem ggX4_stateBehind_X4_stepsRound : GoodIn wsX4_stateBehind wsX4_stepsRound := goodIn_r _ [5, 6, 7, 8, 4, 9, 10, 11, 12, 13, 14, 15, 16, 17, 18, 19, 20, 21, 22, 23, 24, 25, 26, 27, 28, 29, 30, 31, 32, 33, 34, 35, 36, 37, 38, 39, 40, 41, 42, 43, 44, 45, 46, 47, 48, 49, 50, 51, 52, 53, 54, 55, 56] (by decide +kernel) (by decide +kernel)
set_option maxRecDepth 20000 in
theorem gX4_stateBehind_X4_stepsRound : GoodIn wsX4_stateBehind (wsV RX4 93 RX4 yX4_stepsRound wsX4_stepsRound) := goodIn_app (goodIn_of _ (by decide +kernel)) ggX4_stateBehind_X4_stepsRound
set_option maxRecDepth 20000 in
theorem ggX4_stateBehind_X4_after : GoodIn wsX4_stateBehind wsX4_after := goodIn_r _ [9, 10, 11, 4, 12, 13, 14, 15, 16, 17, 18, 19, 20, 21, 22, 23, 24, 25, 26, 27, 28, 29, 30, 31, 32, 33, 34, 35, 36, 37, 38, 39, 40, 41, 42, 43, 44, 45, 46, 47, 48, 49, 50, 51, 52, 53, 54, 55, 56] (by decide +kernel) (by decide +kernel)
set_option maxRecDepth 20000 in
theorem gX4_stateBehind_X4_after : GoodIn wsX4_stateBehind (wsV RX4 81 RX4 yX4_after wsX4_after) := goodIn_app (goodIn_of _ (by decide +kernel)) ggX4_stateBehind_X4_after
theorem dX4_stateBehind_0 : decode cX4_stateBehind 0 = .ok (.aload_n 0, 1) := by decide +kernel
theorem dX4_stateBehind_1 : decode cX4_stateBehind 1 = .ok (.iload_n 1, 1) := by decide +kernel
theorem dX4_stateBehind_2 : decode cX4_stateBehind 2 = .ok (.invokevirtual 93, 3) := by decide +kernel
theorem dX4_stateBehind_5 : decode cX4_stateBehind 5 = .ok (.istore_n 3, 1) := by decide +kernel
theorem dX4_stateBehind_6 : decode cX4_stateBehind 6 = .ok (.iload_n 3, 1) := by decide +kernel
theorem dX4_stateBehind_7 : decode cX4_stateBehind 7 = .ok (.ifCond .le 9, 3) := by decide +kernel
theorem dX4_stateBehind_10 : decode cX4_stateBehind 10 = .ok (.iload_n 2, 1) := by decide +kernel
theorem dX4_stateBehind_11 : decode cX4_stateBehind 11 = .ok (.iload_n 3, 1) := by decide +kernel
theorem dX4_stateBehind_12 : decode cX4_stateBehind 12 = .ok (.irem, 1) := by decide +kernel
theorem dX4_stateBehind_13 : decode cX4_stateBehind 13 = .ok (.goto 4, 3) := by decide +kernel
theorem dX4_stateBehind_16 : decode cX4_stateBehind 16 = .ok (.iconst 0, 1) := by decide +kernel
theorem dX4_stateBehind_17 : decode cX4_stateBehind 17 = .ok (.istore 4, 2) := by decide +kernel
theorem dX4_stateBehind_19 : decode cX4_stateBehind 19 = .ok (.iload_n 1, 1) := by decide +kernel
theorem dX4_stateBehind_20 : decode cX4_stateBehind 20 = .ok (.istore 5, 2) := by decide +kernel
theorem dX4_stateBehind_22 : decode cX4_stateBehind 22 = .ok (.iconst 0, 1) := by decide +kernel
theorem dX4_stateBehind_23 : decode cX4_stateBehind 23 = .ok (.istore 6, 2) := by decide +kernel
theorem dX4_stateBehind_25 : decode cX4_stateBehind 25 = .ok (.iload 6, 2) := by decide +kernel
theorem dX4_stateBehind_27 : decode cX4_stateBehind 27 = .ok (.iload 4, 2) := by decide +kernel
theorem dX4_stateBehind_29 : decode cX4_stateBehind 29 = .ok (.if_icmp .ge 17, 3) := by decide +kernel
theorem dX4_stateBehind_32 : decode cX4_stateBehind 32 = .ok (.aload_n 0, 1) := by decide +kernel
theorem dX4_stateBehind_33 : decode cX4_stateBehind 33 = .ok (.iload 5, 2) := by decide +kernel
theorem dX4_stateBehind_35 : decode cX4_stateBehind 35 = .ok (.invokevirtual 81, 3) := by decide +kernel
theorem dX4_stateBehind_38 : decode cX4_stateBehind 38 = .ok (.istore 5, 2) := by decide +kernel
theorem dX4_stateBehind_40 : decode cX4_stateBehind 40 = .ok (.iinc 6 1, 3) := by decide +kernel
theorem dX4_stateBehind_43 : decode cX4_stateBehind 43 = .ok (.goto (-18), 3) := by decide +kernel
theorem dX4_stateBehind_46 : decode cX4_stateBehind 46 = .ok (.iload 5, 2) := by decide +kernel
theorem dX4_stateBehind_48 : decode cX4_stateBehind 48 = .ok (.ireturn, 1) := by decide +kernel
theorem dX5_init_0 : decode cX5_init 0 = .ok (.aload_n 0, 1) := by decide +kernel
theorem dX5_init_1 : decode cX5_init 1 = .ok (.invokespecial 3, 3) := by decide +kernel
theorem dX5_init_4 : decode cX5_init 4 = .ok (.aload_n 0, 1) := by decide +kernel
theorem dX5_init_5 : decode cX5_init 5 = .ok (.iconst 5, 1) := by decide +kernel
theorem dX5_init_6 : decode cX5_init 6 = .ok (.newarray .int, 2) := by decide +kernel
theorem dX5_init_8 : decode cX5_init 8 = .ok (.putfield 9, 3) := by decide +kernel
theorem dX5_init_11 : decode cX5_init 11 = .ok (.aload_n 0, 1) := by decide +kernel
theorem dX5_init_12 : decode cX5_init 12 = .ok (.iconst 5, 1) := by decide +kernel
theorem dX5_init_13 : decode cX5_init 13 = .ok (.newarray .int, 2) := by decide +kernel
theorem dX5_init_15 : decode cX5_init 15 = .ok (.putfield 15, 3) := by decide +kernel
theorem dX5_init_18 : decode cX5_init 18 = .ok (.aload_n 0, 1) := by decide +kernel
theorem dX5_init_19 : decode cX5_init 19 = .ok (.iconst 5, 1) := by decide +kernel
theorem dX5_init_20 : decode cX5_init 20 = .ok (.newarray .int, 2) := by decide +kernel
theorem dX5_init_22 : decode cX5_init 22 = .ok (.putfield 18, 3) := by decide +kernel
theorem dX5_init_25 : decode cX5_init 25 = .ok (.aload_n 0, 1) := by decide +kernel
theorem dX5_init_26 : decode cX5_init 26 = .ok (.iconst 5, 1) := by decide +kernel
theorem dX5_init_27 : decode cX5_init 27 = .ok (.newarray .int, 2) := by decide +kernel
theorem dX5_init_29 : decode cX5_init 29 = .ok (.putfield 21, 3) := by decide +kernel
theorem dX5_init_32 : decode cX5_init 32 = .ok (.aload_n 0, 1) := by decide +kernel
theorem dX5_init_33 : decode cX5_init 33 = .ok (.iconst 5, 1) := by decide +kernel
theorem dX5_init_34 : decode cX5_init 34 = .ok (.newarray .int, 2) := by decide +kernel
theorem dX5_init_36 : decode cX5_init 36 = .ok (.putfield 24, 3) := by decide +kernel
theorem dX5_init_39 : decode cX5_init 39 = .ok (.aload_n 0, 1) := by decide +kernel
theorem dX5_init_40 : decode cX5_init 40 = .ok (.iconst 5, 1) := by decide +kernel
theorem dX5_init_41 : decode cX5_init 41 = .ok (.newarray .int, 2) := by decide +kernel
theorem dX5_init_43 : decode cX5_init 43 = .ok (.putfield 27, 3) := by decide +kernel
theorem dX5_init_46 : decode cX5_init 46 = .ok (.aload_n 0, 1) := by decide +kernel
theorem dX5_init_47 : decode cX5_init 47 = .ok (.iconst 5, 1) := by decide +kernel
theorem dX5_init_48 : decode cX5_init 48 = .ok (.newarray .int, 2) := by decide +kernel
theorem dX5_init_50 : decode cX5_init 50 = .ok (.putfield 30, 3) := by decide +kernel
theorem dX5_init_53 : decode cX5_init 53 = .ok (.aload_n 0, 1) := by decide +kernel
theorem dX5_init_54 : decode cX5_init 54 = .ok (.iconst 0, 1) := by decide +kernel
theorem dX5_init_55 : decode cX5_init 55 = .ok (.putfield 33, 3) := by decide +kernel
theorem dX5_init_58 : decode cX5_init 58 = .ok (.aload_n 0, 1) := by decide +kernel
theorem dX5_init_59 : decode cX5_init 59 = .ok (.iconst 1, 1) := by decide +kernel
theorem dX5_init_60 : decode cX5_init 60 = .ok (.putfield 37, 3) := by decide +kernel
theorem dX5_init_63 : decode cX5_init 63 = .ok (.return_, 1) := by decide +kernel
theorem dX5_squares_0 : decode cX5_squares 0 = .ok (.aload_n 0, 1) := by decide +kernel
theorem dX5_squares_1 : decode cX5_squares 1 = .ok (.getfield 37, 3) := by decide +kernel
theorem dX5_squares_4 : decode cX5_squares 4 = .ok (.ireturn, 1) := by decide +kernel
set_option maxRecDepth 20000 in
theorem ggX5_begin_X6_put : GoodIn wsX5_begin wsX6_put := goodIn_r _ [6] (by decide +kernel) (by decide +kernel)
set_option maxRecDepth 20000 in
theorem gX5_begin_X6_put_n40 : GoodIn wsX5_begin (wsX6_put) := ggX5_begin_X6_put
set_option maxRecDepth 20000 in
theorem ggX5_begin_X5_glueBack : GoodIn wsX5_begin wsX5_glueBack := goodIn_r _ [11, 1, 12, 13, 14, 15, 16, 10, 17, 2, 18, 5, 19, 4, 6, 20, 21, 22, 23, 3, 24, 25, 26, 27, 28, 29, 30, 31, 32] (by decide +kernel) (by decide +kernel)
set_option maxRecDepth 20000 in
theorem gX5_begin_X5_glueBack : GoodIn wsX5_begin (wsV RX5 44 RX5 yX5_glueBack wsX5_glueBack) := goodIn_app (goodIn_of _ (by decide +kernel)) ggX5_begin_X5_glueBack
theorem dX5_begin_0 : decode cX5_begin 0 = .ok (.aload_n 0, 1) := by decide +kernel
theorem dX5_begin_1 : decode cX5_begin 1 = .ok (.iload_n 1, 1) := by decide +kernel
theorem dX5_begin_2 : decode cX5_begin 2 = .ok (.putfield 37, 3) := by decide +kernel
theorem dX5_begin_5 : decode cX5_begin 5 = .ok (.iconst 0, 1) := by decide +kernel
theorem dX5_begin_6 : decode cX5_begin 6 = .ok (.istore_n 2, 1) := by decide +kernel
theorem dX5_begin_7 : decode cX5_begin 7 = .ok (.iload_n 2, 1) := by decide +kernel
theorem dX5_begin_8 : decode cX5_begin 8 = .ok (.iconst 5, 1) := by decide +kernel
theorem dX5_begin_9 : decode cX5_begin 9 = .ok (.if_icmp .ge 27, 3) := by decide +kernel
theorem dX5_begin_12 : decode cX5_begin 12 = .ok (.aload_n 0, 1) := by decide +kernel
theorem dX5_begin_13 : decode cX5_begin 13 = .ok (.getfield 9, 3) := by decide +kernel
theorem dX5_begin_16 : decode cX5_begin 16 = .ok (.iload_n 2, 1) := by decide +kernel
theorem dX5_begin_17 : decode cX5_begin 17 = .ok (.iload_n 2, 1) := by decide +kernel
theorem dX5_begin_18 : decode cX5_begin 18 = .ok (.invokestatic 40, 3) := by decide +kernel
theorem dX5_begin_21 : decode cX5_begin 21 = .ok (.aload_n 0, 1) := by decide +kernel
theorem dX5_begin_22 : decode cX5_begin 22 = .ok (.getfield 15, 3) := by decide +kernel
theorem dX5_begin_25 : decode cX5_begin 25 = .ok (.iload_n 2, 1) := by decide +kernel
theorem dX5_begin_26 : decode cX5_begin 26 = .ok (.iload_n 2, 1) := by decide +kernel
theorem dX5_begin_27 : decode cX5_begin 27 = .ok (.invokestatic 40, 3) := by decide +kernel
theorem dX5_begin_30 : decode cX5_begin 30 = .ok (.iinc 2 1, 3) := by decide +kernel
theorem dX5_begin_33 : decode cX5_begin 33 = .ok (.goto (-26), 3) := by decide +kernel
theorem dX5_begin_36 : decode cX5_begin 36 = .ok (.aload_n 0, 1) := by decide +kernel
theorem dX5_begin_37 : decode cX5_begin 37 = .ok (.invokevirtual 44, 3) := by decide +kernel
theorem dX5_begin_40 : decode cX5_begin 40 = .ok (.return_, 1) := by decide +kernel
set_option maxRecDepth 20000 in
theorem ggX5_beginFrom_X6_put : GoodIn wsX5_beginFrom wsX6_put := goodIn_r _ [6] (by decide +kernel) (by decide +kernel)
set_option maxRecDepth 20000 in
theorem gX5_beginFrom_X6_put_n40 : GoodIn wsX5_beginFrom (wsX6_put) := ggX5_beginFrom_X6_put
set_option maxRecDepth 20000 in
theorem ggX5_beginFrom_X5_glueBack : GoodIn wsX5_beginFrom wsX5_glueBack := goodIn_r _ [11, 1, 12, 13, 14, 15, 16, 10, 17, 3, 18, 5, 19, 4, 6, 20, 21, 22, 23, 2, 24, 25, 26, 27, 28, 29, 30, 31, 32] (by decide +kernel) (by decide +kernel)
set_option maxRecDepth 20000 in
theorem gX5_beginFrom_X5_glueBack : GoodIn wsX5_beginFrom (wsV RX5 44 RX5 yX5_glueBack wsX5_glueBack) := goodIn_app (goodIn_of _ (by decide +kernel)) ggX5_beginFrom_X5_glueBack
theorem dX5_beginFrom_0 : decode cX5_beginFrom 0 = .ok (.aload_n 0, 1) := by decide +kernel
theorem dX5_beginFrom_1 : decode cX5_beginFrom 1 = .ok (.iload_n 2, 1) := by decide +kernel
theorem dX5_beginFrom_2 : decode cX5_beginFrom 2 = .ok (.putfield 37, 3) := by decide +kernel
theorem dX5_beginFrom_5 : decode cX5_beginFrom 5 = .ok (.iload_n 1, 1) := by decide +kernel
theorem dX5_beginFrom_6 : decode cX5_beginFrom 6 = .ok (.istore_n 3, 1) := by decide +kernel
theorem dX5_beginFrom_7 : decode cX5_beginFrom 7 = .ok (.iload_n 2, 1) := by decide +kernel
theorem dX5_beginFrom_8 : decode cX5_beginFrom 8 = .ok (.iconst 1, 1) := by decide +kernel
theorem dX5_beginFrom_9 : decode cX5_beginFrom 9 = .ok (.isub, 1) := by decide +kernel
theorem dX5_beginFrom_10 : decode cX5_beginFrom 10 = .ok (.istore 4, 2) := by decide +kernel
theorem dX5_beginFrom_12 : decode cX5_beginFrom 12 = .ok (.iload 4, 2) := by decide +kernel
theorem dX5_beginFrom_14 : decode cX5_beginFrom 14 = .ok (.ifCond .lt 41, 3) := by decide +kernel
theorem dX5_beginFrom_17 : decode cX5_beginFrom 17 = .ok (.aload_n 0, 1) := by decide +kernel
theorem dX5_beginFrom_18 : decode cX5_beginFrom 18 = .ok (.getfield 15, 3) := by decide +kernel
theorem dX5_beginFrom_21 : decode cX5_beginFrom 21 = .ok (.iload 4, 2) := by decide +kernel
theorem dX5_beginFrom_23 : decode cX5_beginFrom 23 = .ok (.iload_n 3, 1) := by decide +kernel
theorem dX5_beginFrom_24 : decode cX5_beginFrom 24 = .ok (.iconst 5, 1) := by decide +kernel
theorem dX5_beginFrom_25 : decode cX5_beginFrom 25 = .ok (.irem, 1) := by decide +kernel
theorem dX5_beginFrom_26 : decode cX5_beginFrom 26 = .ok (.invokestatic 40, 3) := by decide +kernel
theorem dX5_beginFrom_29 : decode cX5_beginFrom 29 = .ok (.iload_n 3, 1) := by decide +kernel
theorem dX5_beginFrom_30 : decode cX5_beginFrom 30 = .ok (.iconst 5, 1) := by decide +kernel
theorem dX5_beginFrom_31 : decode cX5_beginFrom 31 = .ok (.idiv, 1) := by decide +kernel
theorem dX5_beginFrom_32 : decode cX5_beginFrom 32 = .ok (.istore_n 3, 1) := by decide +kernel
theorem dX5_beginFrom_33 : decode cX5_beginFrom 33 = .ok (.aload_n 0, 1) := by decide +kernel
theorem dX5_beginFrom_34 : decode cX5_beginFrom 34 = .ok (.getfield 9, 3) := by decide +kernel
theorem dX5_beginFrom_37 : decode cX5_beginFrom 37 = .ok (.iload 4, 2) := by decide +kernel
theorem dX5_beginFrom_39 : decode cX5_beginFrom 39 = .ok (.iload_n 3, 1) := by decide +kernel
theorem dX5_beginFrom_40 : decode cX5_beginFrom 40 = .ok (.iconst 5, 1) := by decide +kernel
theorem dX5_beginFrom_41 : decode cX5_beginFrom 41 = .ok (.irem, 1) := by decide +kernel
theorem dX5_beginFrom_42 : decode cX5_beginFrom 42 = .ok (.invokestatic 40, 3) := by decide +kernel
theorem dX5_beginFrom_45 : decode cX5_beginFrom 45 = .ok (.iload_n 3, 1) := by decide +kernel
theorem dX5_beginFrom_46 : decode cX5_beginFrom 46 = .ok (.iconst 5, 1) := by decide +kernel
theorem dX5_beginFrom_47 : decode cX5_beginFrom 47 = .ok (.idiv, 1) := by decide +kernel
theorem dX5_beginFrom_48 : decode cX5_beginFrom 48 = .ok (.istore_n 3, 1) := by decide +kernel
theorem dX5_beginFrom_49 : decode cX5_beginFrom 49 = .ok (.iinc 4 (-1), 3) := by decide +kernel
theorem dX5_beginFrom_52 : decode cX5_beginFrom 52 = .ok (.goto (-40), 3) := by decide +kernel
theorem dX5_beginFrom_55 : decode cX5_beginFrom 55 = .ok (.aload_n 0, 1) := by decide +kernel
theorem dX5_beginFrom_56 : decode cX5_beginFrom 56 = .ok (.invokevirtual 44, 3) := by decide +kernel
theorem dX5_beginFrom_59 : decode cX5_beginFrom 59 = .ok (.return_, 1) := by decide +kernel
set_option maxRecDepth 20000 in
theorem ggX5_glueBack_X5_rightOf : GoodIn wsX5_glueBack wsX5_rightOf := goodIn_r _ [8, 9, 10, 11, 12, 20, 21, 22, 23, 24, 25, 26, 27, 28] (by decide +kernel) (by decide +kernel)
set_option maxRecDepth 20000 in
theorem gX5_glueBack_X5_rightOf : GoodIn wsX5_glueBack (wsV RX5 47 RX5 yX5_rightOf wsX5_rightOf) := goodIn_app (goodIn_of _ (by decide +kernel)) ggX5_glueBack_X5_rightOf
set_option maxRecDepth 20000 in
theorem ggX5_glueBack_X6_put : GoodIn wsX5_glueBack wsX6_put := goodIn_r _ [14] (by decide +kernel) (by decide +kernel)
set_option maxRecDepth 20000 in
theorem gX5_glueBack_X6_put_n40 : GoodIn wsX5_glueBack (wsX6_put) := ggX5_glueBack_X6_put
set_option maxRecDepth 20000 in
theorem ggX5_glueBack_X5_upOf : GoodIn wsX5_glueBack wsX5_upOf := goodIn_r _ [18, 19, 10, 11, 12, 20, 21, 22, 23, 24, 25, 26, 27, 28] (by decide +kernel) (by decide +kernel)
set_option maxRecDepth 20000 in
theorem gX5_glueBack_X5_upOf : GoodIn wsX5_glueBack (wsV RX5 51 RX5 yX5_upOf wsX5_upOf) := goodIn_app (goodIn_of _ (by decide +kernel)) ggX5_glueBack_X5_upOf
theorem dX5_glueBack_0 : decode cX5_glueBack 0 = .ok (.iconst 0, 1) := by decide +kernel
theorem dX5_glueBack_1 : decode cX5_glueBack 1 = .ok (.istore_n 1, 1) := by decide +kernel
theorem dX5_glueBack_2 : decode cX5_glueBack 2 = .ok (.iload_n 1, 1) := by decide +kernel
theorem dX5_glueBack_3 : decode cX5_glueBack 3 = .ok (.aload_n 0, 1) := by decide +kernel
theorem dX5_glueBack_4 : decode cX5_glueBack 4 = .ok (.getfield 37, 3) := by decide +kernel
theorem dX5_glueBack_7 : decode cX5_glueBack 7 = .ok (.if_icmp .ge 35, 3) := by decide +kernel
theorem dX5_glueBack_10 : decode cX5_glueBack 10 = .ok (.aload_n 0, 1) := by decide +kernel
theorem dX5_glueBack_11 : decode cX5_glueBack 11 = .ok (.getfield 18, 3) := by decide +kernel
theorem dX5_glueBack_14 : decode cX5_glueBack 14 = .ok (.aload_n 0, 1) := by decide +kernel
theorem dX5_glueBack_15 : decode cX5_glueBack 15 = .ok (.iload_n 1, 1) := by decide +kernel
theorem dX5_glueBack_16 : decode cX5_glueBack 16 = .ok (.invokevirtual 47, 3) := by decide +kernel
theorem dX5_glueBack_19 : decode cX5_glueBack 19 = .ok (.iload_n 1, 1) := by decide +kernel
theorem dX5_glueBack_20 : decode cX5_glueBack 20 = .ok (.invokestatic 40, 3) := by decide +kernel
theorem dX5_glueBack_23 : decode cX5_glueBack 23 = .ok (.aload_n 0, 1) := by decide +kernel
theorem dX5_glueBack_24 : decode cX5_glueBack 24 = .ok (.getfield 21, 3) := by decide +kernel
theorem dX5_glueBack_27 : decode cX5_glueBack 27 = .ok (.aload_n 0, 1) := by decide +kernel
theorem dX5_glueBack_28 : decode cX5_glueBack 28 = .ok (.iload_n 1, 1) := by decide +kernel
theorem dX5_glueBack_29 : decode cX5_glueBack 29 = .ok (.invokevirtual 51, 3) := by decide +kernel
theorem dX5_glueBack_32 : decode cX5_glueBack 32 = .ok (.iload_n 1, 1) := by decide +kernel
theorem dX5_glueBack_33 : decode cX5_glueBack 33 = .ok (.invokestatic 40, 3) := by decide +kernel
theorem dX5_glueBack_36 : decode cX5_glueBack 36 = .ok (.iinc 1 1, 3) := by decide +kernel
theorem dX5_glueBack_39 : decode cX5_glueBack 39 = .ok (.goto (-37), 3) := by decide +kernel
theorem dX5_glueBack_42 : decode cX5_glueBack 42 = .ok (.return_, 1) := by decide +kernel
set_option maxRecDepth 20000 in
theorem ggX5_rightOf_X6_at : GoodIn wsX5_rightOf wsX6_at := goodIn_r _ [4] (by decide +kernel) (by decide +kernel)
set_option maxRecDepth 20000 in
theorem gX5_rightOf_X6_at_n54 : GoodIn wsX5_rightOf (wsX6_at) := ggX5_rightOf_X6_at
theorem dX5_rightOf_0 : decode cX5_rightOf 0 = .ok (.aload_n 0, 1) := by decide +kernel
theorem dX5_rightOf_1 : decode cX5_rightOf 1 = .ok (.getfield 9, 3) := by decide +kernel
theorem dX5_rightOf_4 : decode cX5_rightOf 4 = .ok (.iload_n 1, 1) := by decide +kernel
theorem dX5_rightOf_5 : decode cX5_rightOf 5 = .ok (.invokestatic 54, 3) := by decide +kernel
theorem dX5_rightOf_8 : decode cX5_rightOf 8 = .ok (.ireturn, 1) := by decide +kernel
set_option maxRecDepth 20000 in
theorem ggX5_upOf_X6_at : GoodIn wsX5_upOf wsX6_at := goodIn_r _ [4] (by decide +kernel) (by decide +kernel)
set_option maxRecDepth 20000 in
theorem gX5_upOf_X6_at_n54 : GoodIn wsX5_upOf (wsX6_at) := ggX5_upOf_X6_at
theorem dX5_upOf_0 : decode cX5_upOf 0 = .ok (.aload_n 0, 1) := by decide +kernel
theorem dX5_upOf_1 : decode cX5_upOf 1 = .ok (.getfield 15, 3) := by decide +kernel
theorem dX5_upOf_4 : decode cX5_upOf 4 = .ok (.iload_n 1, 1) := by decide +kernel
theorem dX5_upOf_5 : decode cX5_upOf 5 = .ok (.invokestatic 54, 3) := by decide +kernel
theorem dX5_upOf_8 : decode cX5_upOf 8 = .ok (.ireturn, 1) := by decide +kernel
set_option maxRecDepth 20000 in
theorem ggX5_leftOf_X6_at : GoodIn wsX5_leftOf wsX6_at := goodIn_r _ [4] (by decide +kernel) (by decide +kernel)
set_option maxRecDepth 20000 in
theorem gX5_leftOf_X6_at_n54 : GoodIn wsX5_leftOf (wsX6_at) := ggX5_leftOf_X6_at
theorem dX5_leftOf_0 : decode cX5_leftOf 0 = .ok (.aload_n 0, 1) := by decide +kernel
theorem dX5_leftOf_1 : decode cX5_leftOf 1 = .ok (.getfield 18, 3) := by decide +kernel
theorem dX5_leftOf_4 : decode cX5_leftOf 4 = .ok (.iload_n 1, 1) := by decide +kernel
theorem dX5_leftOf_5 : decode cX5_leftOf 5 = .ok (.invokestatic 54, 3) := by decide +kernel
theorem dX5_leftOf_8 : decode cX5_leftOf 8 = .ok (.ireturn, 1) := by decide +kernel
set_option maxRecDepth 20000 in
theorem ggX5_downOf_X6_at : GoodIn wsX5_downOf wsX6_at := goodIn_r _ [4] (by decide +kernel) (by decide +kernel)
set_option maxRecDepth 20000 in
theorem gX5_downOf_X6_at_n54 : GoodIn wsX5_downOf (wsX6_at) := ggX5_downOf_X6_at
theorem dX5_downOf_0 : decode cX5_downOf 0 = .ok (.aload_n 0, 1) := by decide +kernel
theorem dX5_downOf_1 : decode cX5_downOf 1 = .ok (.getfield 21, 3) := by decide +kernel
theorem dX5_downOf_4 : decode cX5_downOf 4 = .ok (.iload_n 1, 1) := by decide +kernel
theorem dX5_downOf_5 : decode cX5_downOf 5 = .ok (.invokestatic 54, 3) := by decide +kernel
theorem dX5_downOf_8 : decode cX5_downOf 8 = .ok (.ireturn, 1) := by decide +kernel
set_option maxRecDepth 20000 in
theorem ggX5_exchangeTwo_X6_exchangeIn : GoodIn wsX5_exchangeTwo wsX6_exchangeIn := goodIn_r _ [5, 6, 7, 4, 8, 9, 10, 11] (by decide +kernel) (by decide +kernel)
set_option maxRecDepth 20000 in
theorem gX5_exchangeTwo_X6_exchangeIn_n58 : GoodIn wsX5_exchangeTwo (wsX6_exchangeIn) := ggX5_exchangeTwo_X6_exchangeIn
set_option maxRecDepth 20000 in
theorem ggX5_exchangeTwo_X5_glueBack : GoodIn wsX5_exchangeTwo wsX5_glueBack := goodIn_r _ [16, 17, 18, 19, 20, 21, 22, 15, 23, 2, 7, 4, 8, 10, 11, 24, 25, 26, 27, 1, 28, 29, 30, 31, 32, 33, 34, 35, 36] (by decide +kernel) (by decide +kernel)
set_option maxRecDepth 20000 in
theorem gX5_exchangeTwo_X5_glueBack : GoodIn wsX5_exchangeTwo (wsV RX5 44 RX5 yX5_glueBack wsX5_glueBack) := goodIn_app (goodIn_of _ (by decide +kernel)) ggX5_exchangeTwo_X5_glueBack
set_option maxRecDepth 20000 in
theorem ggX5_exchangeTwo_X6_at : GoodIn wsX5_exchangeTwo wsX6_at := goodIn_r _ [8] (by decide +kernel) (by decide +kernel)
set_option maxRecDepth 20000 in
theorem gX5_exchangeTwo_X6_at_n54 : GoodIn wsX5_exchangeTwo (wsX6_at) := ggX5_exchangeTwo_X6_at
theorem dX5_exchangeTwo_0 : decode cX5_exchangeTwo 0 = .ok (.iload_n 3, 1) := by decide +kernel
theorem dX5_exchangeTwo_1 : decode cX5_exchangeTwo 1 = .ok (.ifCond .eq 10, 3) := by decide +kernel
theorem dX5_exchangeTwo_4 : decode cX5_exchangeTwo 4 = .ok (.aload_n 0, 1) := by decide +kernel
theorem dX5_exchangeTwo_5 : decode cX5_exchangeTwo 5 = .ok (.getfield 15, 3) := by decide +kernel
theorem dX5_exchangeTwo_8 : decode cX5_exchangeTwo 8 = .ok (.goto 7, 3) := by decide +kernel
theorem dX5_exchangeTwo_11 : decode cX5_exchangeTwo 11 = .ok (.aload_n 0, 1) := by decide +kernel
theorem dX5_exchangeTwo_12 : decode cX5_exchangeTwo 12 = .ok (.getfield 9, 3) := by decide +kernel
theorem dX5_exchangeTwo_15 : decode cX5_exchangeTwo 15 = .ok (.astore 4, 2) := by decide +kernel
theorem dX5_exchangeTwo_17 : decode cX5_exchangeTwo 17 = .ok (.aload 4, 2) := by decide +kernel
theorem dX5_exchangeTwo_19 : decode cX5_exchangeTwo 19 = .ok (.iload_n 1, 1) := by decide +kernel
theorem dX5_exchangeTwo_20 : decode cX5_exchangeTwo 20 = .ok (.iload_n 2, 1) := by decide +kernel
theorem dX5_exchangeTwo_21 : decode cX5_exchangeTwo 21 = .ok (.invokestatic 58, 3) := by decide +kernel
theorem dX5_exchangeTwo_24 : decode cX5_exchangeTwo 24 = .ok (.aload_n 0, 1) := by decide +kernel
theorem dX5_exchangeTwo_25 : decode cX5_exchangeTwo 25 = .ok (.invokevirtual 44, 3) := by decide +kernel
theorem dX5_exchangeTwo_28 : decode cX5_exchangeTwo 28 = .ok (.aload 4, 2) := by decide +kernel
theorem dX5_exchangeTwo_30 : decode cX5_exchangeTwo 30 = .ok (.iload_n 1, 1) := by decide +kernel
theorem dX5_exchangeTwo_31 : decode cX5_exchangeTwo 31 = .ok (.invokestatic 54, 3) := by decide +kernel
theorem dX5_exchangeTwo_34 : decode cX5_exchangeTwo 34 = .ok (.ireturn, 1) := by decide +kernel
set_option maxRecDepth 20000 in
theorem ggX5_shearAll_X5_rightOf : GoodIn wsX5_shearAll wsX5_rightOf := goodIn_r _ [8, 9, 10, 11, 12, 25, 26, 27, 28, 29, 30, 31, 32, 33] (by decide +kernel) (by decide +kernel)
set_option maxRecDepth 20000 in
theorem gX5_shearAll_X5_rightOf : GoodIn wsX5_shearAll (wsV RX5 47 RX5 yX5_rightOf wsX5_rightOf) := goodIn_app (goodIn_of _ (by decide +kernel)) ggX5_shearAll_X5_rightOf
set_option maxRecDepth 20000 in
theorem ggX5_shearAll_X5_upOf : GoodIn wsX5_shearAll wsX5_upOf := goodIn_r _ [16, 3, 10, 11, 12, 25, 26, 27, 28, 29, 30, 31, 32, 33] (by decide +kernel) (by decide +kernel)
set_option maxRecDepth 20000 in
theorem gX5_shearAll_X5_upOf : GoodIn wsX5_shearAll (wsV RX5 51 RX5 yX5_upOf wsX5_upOf) := goodIn_app (goodIn_of _ (by decide +kernel)) ggX5_shearAll_X5_upOf
set_option maxRecDepth 20000 in
theorem ggX5_shearAll_X6_put : GoodIn wsX5_shearAll wsX6_put := goodIn_r _ [18] (by decide +kernel) (by decide +kernel)
set_option maxRecDepth 20000 in
theorem gX5_shearAll_X6_put_n40 : GoodIn wsX5_shearAll (wsX6_put) := ggX5_shearAll_X6_put
set_option maxRecDepth 20000 in
theorem ggX5_shearAll_X6_at : GoodIn wsX5_shearAll wsX6_at := goodIn_r _ [12] (by decide +kernel) (by decide +kernel)
set_option maxRecDepth 20000 in
theorem gX5_shearAll_X6_at_n54 : GoodIn wsX5_shearAll (wsX6_at) := ggX5_shearAll_X6_at
set_option maxRecDepth 20000 in
theorem ggX5_shearAll_X5_glueBack : GoodIn wsX5_shearAll wsX5_glueBack := goodIn_r _ [22, 1, 23, 24, 4, 5, 6, 7, 8, 9, 10, 11, 12, 17, 18, 13, 14, 15, 16, 3, 25, 26, 27, 28, 29, 30, 31, 32, 33] (by decide +kernel) (by decide +kernel)
set_option maxRecDepth 20000 in
theorem gX5_shearAll_X5_glueBack : GoodIn wsX5_shearAll (wsV RX5 44 RX5 yX5_glueBack wsX5_glueBack) := goodIn_app (goodIn_of _ (by decide +kernel)) ggX5_shearAll_X5_glueBack
theorem dX5_shearAll_0 : decode cX5_shearAll 0 = .ok (.iconst 0, 1) := by decide +kernel
theorem dX5_shearAll_1 : decode cX5_shearAll 1 = .ok (.istore_n 1, 1) := by decide +kernel
theorem dX5_shearAll_2 : decode cX5_shearAll 2 = .ok (.iload_n 1, 1) := by decide +kernel
theorem dX5_shearAll_3 : decode cX5_shearAll 3 = .ok (.aload_n 0, 1) := by decide +kernel
theorem dX5_shearAll_4 : decode cX5_shearAll 4 = .ok (.getfield 37, 3) := by decide +kernel
theorem dX5_shearAll_7 : decode cX5_shearAll 7 = .ok (.if_icmp .ge 26, 3) := by decide +kernel
theorem dX5_shearAll_10 : decode cX5_shearAll 10 = .ok (.aload_n 0, 1) := by decide +kernel
theorem dX5_shearAll_11 : decode cX5_shearAll 11 = .ok (.getfield 24, 3) := by decide +kernel
theorem dX5_shearAll_14 : decode cX5_shearAll 14 = .ok (.iload_n 1, 1) := by decide +kernel
theorem dX5_shearAll_15 : decode cX5_shearAll 15 = .ok (.aload_n 0, 1) := by decide +kernel
theorem dX5_shearAll_16 : decode cX5_shearAll 16 = .ok (.aload_n 0, 1) := by decide +kernel
theorem dX5_shearAll_17 : decode cX5_shearAll 17 = .ok (.iload_n 1, 1) := by decide +kernel
theorem dX5_shearAll_18 : decode cX5_shearAll 18 = .ok (.invokevirtual 47, 3) := by decide +kernel
theorem dX5_shearAll_21 : decode cX5_shearAll 21 = .ok (.invokevirtual 51, 3) := by decide +kernel
theorem dX5_shearAll_24 : decode cX5_shearAll 24 = .ok (.invokestatic 40, 3) := by decide +kernel
theorem dX5_shearAll_27 : decode cX5_shearAll 27 = .ok (.iinc 1 1, 3) := by decide +kernel
theorem dX5_shearAll_30 : decode cX5_shearAll 30 = .ok (.goto (-28), 3) := by decide +kernel
theorem dX5_shearAll_33 : decode cX5_shearAll 33 = .ok (.iconst 0, 1) := by decide +kernel
theorem dX5_shearAll_34 : decode cX5_shearAll 34 = .ok (.istore_n 1, 1) := by decide +kernel
theorem dX5_shearAll_35 : decode cX5_shearAll 35 = .ok (.iload_n 1, 1) := by decide +kernel
theorem dX5_shearAll_36 : decode cX5_shearAll 36 = .ok (.aload_n 0, 1) := by decide +kernel
theorem dX5_shearAll_37 : decode cX5_shearAll 37 = .ok (.getfield 37, 3) := by decide +kernel
theorem dX5_shearAll_40 : decode cX5_shearAll 40 = .ok (.if_icmp .ge 25, 3) := by decide +kernel
theorem dX5_shearAll_43 : decode cX5_shearAll 43 = .ok (.aload_n 0, 1) := by decide +kernel
theorem dX5_shearAll_44 : decode cX5_shearAll 44 = .ok (.getfield 15, 3) := by decide +kernel
theorem dX5_shearAll_47 : decode cX5_shearAll 47 = .ok (.iload_n 1, 1) := by decide +kernel
theorem dX5_shearAll_48 : decode cX5_shearAll 48 = .ok (.aload_n 0, 1) := by decide +kernel
theorem dX5_shearAll_49 : decode cX5_shearAll 49 = .ok (.getfield 24, 3) := by decide +kernel
theorem dX5_shearAll_52 : decode cX5_shearAll 52 = .ok (.iload_n 1, 1) := by decide +kernel
theorem dX5_shearAll_53 : decode cX5_shearAll 53 = .ok (.invokestatic 54, 3) := by decide +kernel
theorem dX5_shearAll_56 : decode cX5_shearAll 56 = .ok (.invokestatic 40, 3) := by decide +kernel
theorem dX5_shearAll_59 : decode cX5_shearAll 59 = .ok (.iinc 1 1, 3) := by decide +kernel
theorem dX5_shearAll_62 : decode cX5_shearAll 62 = .ok (.goto (-27), 3) := by decide +kernel
theorem dX5_shearAll_65 : decode cX5_shearAll 65 = .ok (.aload_n 0, 1) := by decide +kernel
theorem dX5_shearAll_66 : decode cX5_shearAll 66 = .ok (.invokevirtual 44, 3) := by decide +kernel
theorem dX5_shearAll_69 : decode cX5_shearAll 69 = .ok (.return_, 1) := by decide +kernel
set_option maxRecDepth 20000 in
theorem ggX5_turnAll_X5_leftOf : GoodIn wsX5_turnAll wsX5_leftOf := goodIn_r _ [9, 10, 11, 12, 13, 29, 30, 31, 32, 33, 34, 35, 36, 37] (by decide +kernel) (by decide +kernel)
set_option maxRecDepth 20000 in
theorem gX5_turnAll_X5_leftOf : GoodIn wsX5_turnAll (wsV RX5 61 RX5 yX5_leftOf wsX5_leftOf) := goodIn_app (goodIn_of _ (by decide +kernel)) ggX5_turnAll_X5_leftOf
set_option maxRecDepth 20000 in
theorem ggX5_turnAll_X6_put : GoodIn wsX5_turnAll wsX6_put := goodIn_r _ [15] (by decide +kernel) (by decide +kernel)
set_option maxRecDepth 20000 in
theorem gX5_turnAll_X6_put_n40 : GoodIn wsX5_turnAll (wsX6_put) := ggX5_turnAll_X6_put
set_option maxRecDepth 20000 in
theorem ggX5_turnAll_X5_upOf : GoodIn wsX5_turnAll wsX5_upOf := goodIn_r _ [19, 4, 11, 12, 13, 29, 30, 31, 32, 33, 34, 35, 36, 37] (by decide +kernel) (by decide +kernel)
set_option maxRecDepth 20000 in
theorem gX5_turnAll_X5_upOf : GoodIn wsX5_turnAll (wsV RX5 51 RX5 yX5_upOf wsX5_upOf) := goodIn_app (goodIn_of _ (by decide +kernel)) ggX5_turnAll_X5_upOf
set_option maxRecDepth 20000 in
theorem ggX5_turnAll_X6_at : GoodIn wsX5_turnAll wsX6_at := goodIn_r _ [13] (by decide +kernel) (by decide +kernel)
set_option maxRecDepth 20000 in
theorem gX5_turnAll_X6_at_n54 : GoodIn wsX5_turnAll (wsX6_at) := ggX5_turnAll_X6_at
set_option maxRecDepth 20000 in
theorem ggX5_turnAll_X5_glueBack : GoodIn wsX5_turnAll wsX5_glueBack := goodIn_r _ [23, 1, 10, 24, 25, 26, 27, 8, 28, 3, 11, 12, 13, 14, 15, 16, 17, 18, 19, 4, 29, 30, 31, 32, 33, 34, 35, 36, 37] (by decide +kernel) (by decide +kernel)
set_option maxRecDepth 20000 in
theorem gX5_turnAll_X5_glueBack : GoodIn wsX5_turnAll (wsV RX5 44 RX5 yX5_glueBack wsX5_glueBack) := goodIn_app (goodIn_of _ (by decide +kernel)) ggX5_turnAll_X5_glueBack
theorem dX5_turnAll_0 : decode cX5_turnAll 0 = .ok (.iconst 0, 1) := by decide +kernel
theorem dX5_turnAll_1 : decode cX5_turnAll 1 = .ok (.istore_n 1, 1) := by decide +kernel
theorem dX5_turnAll_2 : decode cX5_turnAll 2 = .ok (.iload_n 1, 1) := by decide +kernel
theorem dX5_turnAll_3 : decode cX5_turnAll 3 = .ok (.aload_n 0, 1) := by decide +kernel
theorem dX5_turnAll_4 : decode cX5_turnAll 4 = .ok (.getfield 37, 3) := by decide +kernel
theorem dX5_turnAll_7 : decode cX5_turnAll 7 = .ok (.if_icmp .ge 22, 3) := by decide +kernel
theorem dX5_turnAll_10 : decode cX5_turnAll 10 = .ok (.aload_n 0, 1) := by decide +kernel
theorem dX5_turnAll_11 : decode cX5_turnAll 11 = .ok (.getfield 24, 3) := by decide +kernel
theorem dX5_turnAll_14 : decode cX5_turnAll 14 = .ok (.iload_n 1, 1) := by decide +kernel
theorem dX5_turnAll_15 : decode cX5_turnAll 15 = .ok (.aload_n 0, 1) := by decide +kernel
theorem dX5_turnAll_16 : decode cX5_turnAll 16 = .ok (.iload_n 1, 1) := by decide +kernel
theorem dX5_turnAll_17 : decode cX5_turnAll 17 = .ok (.invokevirtual 61, 3) := by decide +kernel
theorem dX5_turnAll_20 : decode cX5_turnAll 20 = .ok (.invokestatic 40, 3) := by decide +kernel
theorem dX5_turnAll_23 : decode cX5_turnAll 23 = .ok (.iinc 1 1, 3) := by decide +kernel
theorem dX5_turnAll_26 : decode cX5_turnAll 26 = .ok (.goto (-24), 3) := by decide +kernel
theorem dX5_turnAll_29 : decode cX5_turnAll 29 = .ok (.iconst 0, 1) := by decide +kernel
theorem dX5_turnAll_30 : decode cX5_turnAll 30 = .ok (.istore_n 1, 1) := by decide +kernel
theorem dX5_turnAll_31 : decode cX5_turnAll 31 = .ok (.iload_n 1, 1) := by decide +kernel
theorem dX5_turnAll_32 : decode cX5_turnAll 32 = .ok (.aload_n 0, 1) := by decide +kernel
theorem dX5_turnAll_33 : decode cX5_turnAll 33 = .ok (.getfield 37, 3) := by decide +kernel
theorem dX5_turnAll_36 : decode cX5_turnAll 36 = .ok (.if_icmp .ge 38, 3) := by decide +kernel
theorem dX5_turnAll_39 : decode cX5_turnAll 39 = .ok (.aload_n 0, 1) := by decide +kernel
theorem dX5_turnAll_40 : decode cX5_turnAll 40 = .ok (.getfield 9, 3) := by decide +kernel
theorem dX5_turnAll_43 : decode cX5_turnAll 43 = .ok (.iload_n 1, 1) := by decide +kernel
theorem dX5_turnAll_44 : decode cX5_turnAll 44 = .ok (.aload_n 0, 1) := by decide +kernel
theorem dX5_turnAll_45 : decode cX5_turnAll 45 = .ok (.iload_n 1, 1) := by decide +kernel
theorem dX5_turnAll_46 : decode cX5_turnAll 46 = .ok (.invokevirtual 51, 3) := by decide +kernel
theorem dX5_turnAll_49 : decode cX5_turnAll 49 = .ok (.invokestatic 40, 3) := by decide +kernel
theorem dX5_turnAll_52 : decode cX5_turnAll 52 = .ok (.aload_n 0, 1) := by decide +kernel
theorem dX5_turnAll_53 : decode cX5_turnAll 53 = .ok (.getfield 15, 3) := by decide +kernel
theorem dX5_turnAll_56 : decode cX5_turnAll 56 = .ok (.iload_n 1, 1) := by decide +kernel
theorem dX5_turnAll_57 : decode cX5_turnAll 57 = .ok (.aload_n 0, 1) := by decide +kernel
theorem dX5_turnAll_58 : decode cX5_turnAll 58 = .ok (.getfield 24, 3) := by decide +kernel
theorem dX5_turnAll_61 : decode cX5_turnAll 61 = .ok (.iload_n 1, 1) := by decide +kernel
theorem dX5_turnAll_62 : decode cX5_turnAll 62 = .ok (.invokestatic 54, 3) := by decide +kernel
theorem dX5_turnAll_65 : decode cX5_turnAll 65 = .ok (.invokestatic 40, 3) := by decide +kernel
theorem dX5_turnAll_68 : decode cX5_turnAll 68 = .ok (.iinc 1 1, 3) := by decide +kernel
theorem dX5_turnAll_71 : decode cX5_turnAll 71 = .ok (.goto (-40), 3) := by decide +kernel
theorem dX5_turnAll_74 : decode cX5_turnAll 74 = .ok (.aload_n 0, 1) := by decide +kernel
theorem dX5_turnAll_75 : decode cX5_turnAll 75 = .ok (.invokevirtual 44, 3) := by decide +kernel
theorem dX5_turnAll_78 : decode cX5_turnAll 78 = .ok (.return_, 1) := by decide +kernel
set_option maxRecDepth 20000 in
theorem ggX5_roundCorner_X6_at : GoodIn wsX5_roundCorner wsX6_at := goodIn_r _ [7] (by decide +kernel) (by decide +kernel)
set_option maxRecDepth 20000 in
theorem gX5_roundCorner_X6_at_n54 : GoodIn wsX5_roundCorner (wsX6_at) := ggX5_roundCorner_X6_at
theorem dX5_roundCorner_0 : decode cX5_roundCorner 0 = .ok (.aload_n 0, 1) := by decide +kernel
theorem dX5_roundCorner_1 : decode cX5_roundCorner 1 = .ok (.getfield 21, 3) := by decide +kernel
theorem dX5_roundCorner_4 : decode cX5_roundCorner 4 = .ok (.aload_n 0, 1) := by decide +kernel
theorem dX5_roundCorner_5 : decode cX5_roundCorner 5 = .ok (.getfield 18, 3) := by decide +kernel
theorem dX5_roundCorner_8 : decode cX5_roundCorner 8 = .ok (.aload_n 0, 1) := by decide +kernel
theorem dX5_roundCorner_9 : decode cX5_roundCorner 9 = .ok (.getfield 15, 3) := by decide +kernel
theorem dX5_roundCorner_12 : decode cX5_roundCorner 12 = .ok (.aload_n 0, 1) := by decide +kernel
theorem dX5_roundCorner_13 : decode cX5_roundCorner 13 = .ok (.getfield 9, 3) := by decide +kernel
theorem dX5_roundCorner_16 : decode cX5_roundCorner 16 = .ok (.iload_n 1, 1) := by decide +kernel
theorem dX5_roundCorner_17 : decode cX5_roundCorner 17 = .ok (.invokestatic 54, 3) := by decide +kernel
theorem dX5_roundCorner_20 : decode cX5_roundCorner 20 = .ok (.invokestatic 54, 3) := by decide +kernel
theorem dX5_roundCorner_23 : decode cX5_roundCorner 23 = .ok (.invokestatic 54, 3) := by decide +kernel
theorem dX5_roundCorner_26 : decode cX5_roundCorner 26 = .ok (.invokestatic 54, 3) := by decide +kernel
theorem dX5_roundCorner_29 : decode cX5_roundCorner 29 = .ok (.ireturn, 1) := by decide +kernel
set_option maxRecDepth 20000 in
theorem ggX5_sizeOf_X5_groupOf : GoodIn wsX5_sizeOf wsX5_groupOf := goodIn_r _ [5, 6, 7, 8, 9, 4, 10, 11, 12, 13, 14, 15, 16, 17, 18, 19, 20, 21, 22, 23, 24, 25, 26, 27, 28, 29, 30, 31, 32, 33, 34, 35, 36, 44, 45, 46, 47, 48, 49, 50, 51, 52] (by decide +kernel) (by decide +kernel)
set_option maxRecDepth 20000 in
theorem gX5_sizeOf_X5_groupOf : GoodIn wsX5_sizeOf (wsV RX5 64 RX5 yX5_groupOf wsX5_groupOf) := goodIn_app (goodIn_of _ (by decide +kernel)) ggX5_sizeOf_X5_groupOf
set_option maxRecDepth 20000 in
theorem ggX5_sizeOf_J6_bitCount_0f7a4 : GoodIn wsX5_sizeOf wsJ6_bitCount_0f7a4 := goodIn_r _ [40, 41, 42, 43] (by decide +kernel) (by decide +kernel)
set_option maxRecDepth 20000 in
theorem gX5_sizeOf_J6_bitCount_0f7a4 : GoodIn wsX5_sizeOf (va_wsS RX5 68 yJ6_bitCount_0f7a4 wsJ6_bitCount_0f7a4) := goodIn_app (goodIn_of _ (by decide +kernel)) ggX5_sizeOf_J6_bitCount_0f7a4
theorem dX5_sizeOf_0 : decode cX5_sizeOf 0 = .ok (.aload_n 0, 1) := by decide +kernel
theorem dX5_sizeOf_1 : decode cX5_sizeOf 1 = .ok (.iload_n 1, 1) := by decide +kernel
theorem dX5_sizeOf_2 : decode cX5_sizeOf 2 = .ok (.iload_n 2, 1) := by decide +kernel
theorem dX5_sizeOf_3 : decode cX5_sizeOf 3 = .ok (.invokevirtual 64, 3) := by decide +kernel
theorem dX5_sizeOf_6 : decode cX5_sizeOf 6 = .ok (.invokestatic 68, 3) := by decide +kernel
theorem dX5_sizeOf_9 : decode cX5_sizeOf 9 = .ok (.ireturn, 1) := by decide +kernel
set_option maxRecDepth 20000 in
theorem ggX5_groups_X5_groupOf : GoodIn wsX5_groups wsX5_groupOf := goodIn_r _ [6, 1, 7, 8, 9, 5, 10, 11, 12, 13, 14, 15, 16, 17, 18, 19, 20, 21, 22, 23, 24, 25, 26, 27, 28, 29, 30, 31, 32, 33, 34, 35, 36, 37, 38, 39, 40, 41, 42, 43, 44, 45] (by decide +kernel) (by decide +kernel)
set_option maxRecDepth 20000 in
theorem gX5_groups_X5_groupOf : GoodIn wsX5_groups (wsV RX5 64 RX5 yX5_groupOf wsX5_groupOf) := goodIn_app (goodIn_of _ (by decide +kernel)) ggX5_groups_X5_groupOf
theorem dX5_groups_0 : decode cX5_groups 0 = .ok (.iconst 0, 1) := by decide +kernel
theorem dX5_groups_1 : decode cX5_groups 1 = .ok (.istore_n 2, 1) := by decide +kernel
theorem dX5_groups_2 : decode cX5_groups 2 = .ok (.iconst 0, 1) := by decide +kernel
theorem dX5_groups_3 : decode cX5_groups 3 = .ok (.istore_n 3, 1) := by decide +kernel
theorem dX5_groups_4 : decode cX5_groups 4 = .ok (.iconst 0, 1) := by decide +kernel
theorem dX5_groups_5 : decode cX5_groups 5 = .ok (.istore 4, 2) := by decide +kernel
theorem dX5_groups_7 : decode cX5_groups 7 = .ok (.iload 4, 2) := by decide +kernel
theorem dX5_groups_9 : decode cX5_groups 9 = .ok (.aload_n 0, 1) := by decide +kernel
theorem dX5_groups_10 : decode cX5_groups 10 = .ok (.getfield 37, 3) := by decide +kernel
theorem dX5_groups_13 : decode cX5_groups 13 = .ok (.if_icmp .ge 31, 3) := by decide +kernel
theorem dX5_groups_16 : decode cX5_groups 16 = .ok (.iload_n 2, 1) := by decide +kernel
theorem dX5_groups_17 : decode cX5_groups 17 = .ok (.iload 4, 2) := by decide +kernel
theorem dX5_groups_19 : decode cX5_groups 19 = .ok (.ishr, 1) := by decide +kernel
theorem dX5_groups_20 : decode cX5_groups 20 = .ok (.iconst 1, 1) := by decide +kernel
theorem dX5_groups_21 : decode cX5_groups 21 = .ok (.iand, 1) := by decide +kernel
theorem dX5_groups_22 : decode cX5_groups 22 = .ok (.ifCond .ne 16, 3) := by decide +kernel
theorem dX5_groups_25 : decode cX5_groups 25 = .ok (.iinc 3 1, 3) := by decide +kernel
theorem dX5_groups_28 : decode cX5_groups 28 = .ok (.iload_n 2, 1) := by decide +kernel
theorem dX5_groups_29 : decode cX5_groups 29 = .ok (.aload_n 0, 1) := by decide +kernel
theorem dX5_groups_30 : decode cX5_groups 30 = .ok (.iload 4, 2) := by decide +kernel
theorem dX5_groups_32 : decode cX5_groups 32 = .ok (.iload_n 1, 1) := by decide +kernel
theorem dX5_groups_33 : decode cX5_groups 33 = .ok (.invokevirtual 64, 3) := by decide +kernel
theorem dX5_groups_36 : decode cX5_groups 36 = .ok (.ior, 1) := by decide +kernel
theorem dX5_groups_37 : decode cX5_groups 37 = .ok (.istore_n 2, 1) := by decide +kernel
theorem dX5_groups_38 : decode cX5_groups 38 = .ok (.iinc 4 1, 3) := by decide +kernel
theorem dX5_groups_41 : decode cX5_groups 41 = .ok (.goto (-34), 3) := by decide +kernel
theorem dX5_groups_44 : decode cX5_groups 44 = .ok (.iload_n 3, 1) := by decide +kernel
theorem dX5_groups_45 : decode cX5_groups 45 = .ok (.ireturn, 1) := by decide +kernel
set_option maxRecDepth 20000 in
theorem ggX5_groupOf_X5_grown : GoodIn wsX5_groupOf wsX5_grown := goodIn_r _ [6, 7, 8, 9, 5, 10, 11, 12, 13, 14, 15, 16, 17, 18, 19, 20, 21, 22, 23, 24, 25, 26, 27, 28, 1, 29, 30, 31, 32, 33, 34, 35, 36, 37, 38, 39, 40, 41] (by decide +kernel) (by decide +kernel)
set_option maxRecDepth 20000 in
theorem gX5_groupOf_X5_grown : GoodIn wsX5_groupOf (wsV RX5 73 RX5 yX5_grown wsX5_grown) := goodIn_app (goodIn_of _ (by decide +kernel)) ggX5_groupOf_X5_grown
theorem dX5_groupOf_0 : decode cX5_groupOf 0 = .ok (.iconst 1, 1) := by decide +kernel
theorem dX5_groupOf_1 : decode cX5_groupOf 1 = .ok (.iload_n 1, 1) := by decide +kernel
theorem dX5_groupOf_2 : decode cX5_groupOf 2 = .ok (.ishl, 1) := by decide +kernel
theorem dX5_groupOf_3 : decode cX5_groupOf 3 = .ok (.istore_n 3, 1) := by decide +kernel
theorem dX5_groupOf_4 : decode cX5_groupOf 4 = .ok (.iconst 0, 1) := by decide +kernel
theorem dX5_groupOf_5 : decode cX5_groupOf 5 = .ok (.istore 4, 2) := by decide +kernel
theorem dX5_groupOf_7 : decode cX5_groupOf 7 = .ok (.iload 4, 2) := by decide +kernel
theorem dX5_groupOf_9 : decode cX5_groupOf 9 = .ok (.aload_n 0, 1) := by decide +kernel
theorem dX5_groupOf_10 : decode cX5_groupOf 10 = .ok (.getfield 37, 3) := by decide +kernel
theorem dX5_groupOf_13 : decode cX5_groupOf 13 = .ok (.if_icmp .ge 36, 3) := by decide +kernel
theorem dX5_groupOf_16 : decode cX5_groupOf 16 = .ok (.iconst 0, 1) := by decide +kernel
theorem dX5_groupOf_17 : decode cX5_groupOf 17 = .ok (.istore 5, 2) := by decide +kernel
theorem dX5_groupOf_19 : decode cX5_groupOf 19 = .ok (.iload 5, 2) := by decide +kernel
theorem dX5_groupOf_21 : decode cX5_groupOf 21 = .ok (.aload_n 0, 1) := by decide +kernel
theorem dX5_groupOf_22 : decode cX5_groupOf 22 = .ok (.getfield 37, 3) := by decide +kernel
theorem dX5_groupOf_25 : decode cX5_groupOf 25 = .ok (.if_icmp .ge 18, 3) := by decide +kernel
theorem dX5_groupOf_28 : decode cX5_groupOf 28 = .ok (.aload_n 0, 1) := by decide +kernel
theorem dX5_groupOf_29 : decode cX5_groupOf 29 = .ok (.iload_n 3, 1) := by decide +kernel
theorem dX5_groupOf_30 : decode cX5_groupOf 30 = .ok (.iload 5, 2) := by decide +kernel
theorem dX5_groupOf_32 : decode cX5_groupOf 32 = .ok (.iload_n 2, 1) := by decide +kernel
theorem dX5_groupOf_33 : decode cX5_groupOf 33 = .ok (.invokevirtual 73, 3) := by decide +kernel
theorem dX5_groupOf_36 : decode cX5_groupOf 36 = .ok (.istore_n 3, 1) := by decide +kernel
theorem dX5_groupOf_37 : decode cX5_groupOf 37 = .ok (.iinc 5 1, 3) := by decide +kernel
theorem dX5_groupOf_40 : decode cX5_groupOf 40 = .ok (.goto (-21), 3) := by decide +kernel
theorem dX5_groupOf_43 : decode cX5_groupOf 43 = .ok (.iinc 4 1, 3) := by decide +kernel
theorem dX5_groupOf_46 : decode cX5_groupOf 46 = .ok (.goto (-39), 3) := by decide +kernel
theorem dX5_groupOf_49 : decode cX5_groupOf 49 = .ok (.iload_n 3, 1) := by decide +kernel
theorem dX5_groupOf_50 : decode cX5_groupOf 50 = .ok (.ireturn, 1) := by decide +kernel
set_option maxRecDepth 20000 in
theorem ggX5_grown_X5_roundCorner : GoodIn wsX5_grown wsX5_roundCorner := goodIn_r _ [5, 6, 7, 8, 9, 10, 11, 12, 29, 30, 31, 32, 33, 34, 35, 36, 37] (by decide +kernel) (by decide +kernel)
set_option maxRecDepth 20000 in
theorem gX5_grown_X5_roundCorner : GoodIn wsX5_grown (wsV RX5 77 RX5 yX5_roundCorner wsX5_roundCorner) := goodIn_app (goodIn_of _ (by decide +kernel)) ggX5_grown_X5_roundCorner
set_option maxRecDepth 20000 in
theorem ggX5_grown_X5_withBoth : GoodIn wsX5_grown wsX5_withBoth := goodIn_r _ [15] (by decide +kernel) (by decide +kernel)
set_option maxRecDepth 20000 in
theorem gX5_grown_X5_withBoth : GoodIn wsX5_grown (va_wsS RX5 80 yX5_withBoth wsX5_withBoth) := goodIn_app (goodIn_of _ (by decide +kernel)) ggX5_grown_X5_withBoth
set_option maxRecDepth 20000 in
theorem ggX5_grown_X5_rightOf : GoodIn wsX5_grown wsX5_rightOf := goodIn_r _ [19, 9, 10, 11, 12, 29, 30, 31, 32, 33, 34, 35, 36, 37] (by decide +kernel) (by decide +kernel)
set_option maxRecDepth 20000 in
theorem gX5_grown_X5_rightOf : GoodIn wsX5_grown (wsV RX5 47 RX5 yX5_rightOf wsX5_rightOf) := goodIn_app (goodIn_of _ (by decide +kernel)) ggX5_grown_X5_rightOf
set_option maxRecDepth 20000 in
theorem ggX5_grown_X5_isRowFlat : GoodIn wsX5_grown wsX5_isRowFlat := goodIn_r _ [23, 24, 1, 2, 3, 4, 5, 6, 7, 8, 9, 10, 11, 12, 16, 17, 18, 19, 29, 30, 31, 32, 33, 34, 35, 36, 37] (by decide +kernel) (by decide +kernel)
set_option maxRecDepth 20000 in
theorem gX5_grown_X5_isRowFlat : GoodIn wsX5_grown (wsV RX5 83 RX5 yX5_isRowFlat wsX5_isRowFlat) := goodIn_app (goodIn_of _ (by decide +kernel)) ggX5_grown_X5_isRowFlat
set_option maxRecDepth 20000 in
theorem ggX5_grown_X5_upOf : GoodIn wsX5_grown wsX5_upOf := goodIn_r _ [28, 8, 10, 11, 12, 29, 30, 31, 32, 33, 34, 35, 36, 37] (by decide +kernel) (by decide +kernel)
set_option maxRecDepth 20000 in
theorem gX5_grown_X5_upOf : GoodIn wsX5_grown (wsV RX5 51 RX5 yX5_upOf wsX5_upOf) := goodIn_app (goodIn_of _ (by decide +kernel)) ggX5_grown_X5_upOf
theorem dX5_grown_0 : decode cX5_grown 0 = .ok (.iload_n 3, 1) := by decide +kernel
theorem dX5_grown_1 : decode cX5_grown 1 = .ok (.iconst 1, 1) := by decide +kernel
theorem dX5_grown_2 : decode cX5_grown 2 = .ok (.if_icmp .ne 14, 3) := by decide +kernel
theorem dX5_grown_5 : decode cX5_grown 5 = .ok (.iload_n 1, 1) := by decide +kernel
theorem dX5_grown_6 : decode cX5_grown 6 = .ok (.iload_n 2, 1) := by decide +kernel
theorem dX5_grown_7 : decode cX5_grown 7 = .ok (.aload_n 0, 1) := by decide +kernel
theorem dX5_grown_8 : decode cX5_grown 8 = .ok (.iload_n 2, 1) := by decide +kernel
theorem dX5_grown_9 : decode cX5_grown 9 = .ok (.invokevirtual 77, 3) := by decide +kernel
theorem dX5_grown_12 : decode cX5_grown 12 = .ok (.invokestatic 80, 3) := by decide +kernel
theorem dX5_grown_15 : decode cX5_grown 15 = .ok (.ireturn, 1) := by decide +kernel
theorem dX5_grown_16 : decode cX5_grown 16 = .ok (.iload_n 1, 1) := by decide +kernel
theorem dX5_grown_17 : decode cX5_grown 17 = .ok (.iload_n 2, 1) := by decide +kernel
theorem dX5_grown_18 : decode cX5_grown 18 = .ok (.aload_n 0, 1) := by decide +kernel
theorem dX5_grown_19 : decode cX5_grown 19 = .ok (.iload_n 2, 1) := by decide +kernel
theorem dX5_grown_20 : decode cX5_grown 20 = .ok (.invokevirtual 47, 3) := by decide +kernel
theorem dX5_grown_23 : decode cX5_grown 23 = .ok (.invokestatic 80, 3) := by decide +kernel
theorem dX5_grown_26 : decode cX5_grown 26 = .ok (.istore 4, 2) := by decide +kernel
theorem dX5_grown_28 : decode cX5_grown 28 = .ok (.iload_n 3, 1) := by decide +kernel
theorem dX5_grown_29 : decode cX5_grown 29 = .ok (.iconst 2, 1) := by decide +kernel
theorem dX5_grown_30 : decode cX5_grown 30 = .ok (.if_icmp .eq 16, 3) := by decide +kernel
theorem dX5_grown_33 : decode cX5_grown 33 = .ok (.iload_n 3, 1) := by decide +kernel
theorem dX5_grown_34 : decode cX5_grown 34 = .ok (.iconst 4, 1) := by decide +kernel
theorem dX5_grown_35 : decode cX5_grown 35 = .ok (.if_icmp .ne 24, 3) := by decide +kernel
theorem dX5_grown_38 : decode cX5_grown 38 = .ok (.aload_n 0, 1) := by decide +kernel
theorem dX5_grown_39 : decode cX5_grown 39 = .ok (.iload_n 2, 1) := by decide +kernel
theorem dX5_grown_40 : decode cX5_grown 40 = .ok (.invokevirtual 83, 3) := by decide +kernel
theorem dX5_grown_43 : decode cX5_grown 43 = .ok (.ifCond .eq 16, 3) := by decide +kernel
theorem dX5_grown_46 : decode cX5_grown 46 = .ok (.iload 4, 2) := by decide +kernel
theorem dX5_grown_48 : decode cX5_grown 48 = .ok (.iload_n 2, 1) := by decide +kernel
theorem dX5_grown_49 : decode cX5_grown 49 = .ok (.aload_n 0, 1) := by decide +kernel
theorem dX5_grown_50 : decode cX5_grown 50 = .ok (.iload_n 2, 1) := by decide +kernel
theorem dX5_grown_51 : decode cX5_grown 51 = .ok (.invokevirtual 51, 3) := by decide +kernel
theorem dX5_grown_54 : decode cX5_grown 54 = .ok (.invokestatic 80, 3) := by decide +kernel
theorem dX5_grown_57 : decode cX5_grown 57 = .ok (.istore 4, 2) := by decide +kernel
theorem dX5_grown_59 : decode cX5_grown 59 = .ok (.iload 4, 2) := by decide +kernel
theorem dX5_grown_61 : decode cX5_grown 61 = .ok (.ireturn, 1) := by decide +kernel
theorem dX5_withBoth_0 : decode cX5_withBoth 0 = .ok (.iconst 1, 1) := by decide +kernel
theorem dX5_withBoth_1 : decode cX5_withBoth 1 = .ok (.iload_n 1, 1) := by decide +kernel
theorem dX5_withBoth_2 : decode cX5_withBoth 2 = .ok (.ishl, 1) := by decide +kernel
theorem dX5_withBoth_3 : decode cX5_withBoth 3 = .ok (.iconst 1, 1) := by decide +kernel
theorem dX5_withBoth_4 : decode cX5_withBoth 4 = .ok (.iload_n 2, 1) := by decide +kernel
theorem dX5_withBoth_5 : decode cX5_withBoth 5 = .ok (.ishl, 1) := by decide +kernel
theorem dX5_withBoth_6 : decode cX5_withBoth 6 = .ok (.ior, 1) := by decide +kernel
theorem dX5_withBoth_7 : decode cX5_withBoth 7 = .ok (.istore_n 3, 1) := by decide +kernel
theorem dX5_withBoth_8 : decode cX5_withBoth 8 = .ok (.iload_n 0, 1) := by decide +kernel
theorem dX5_withBoth_9 : decode cX5_withBoth 9 = .ok (.iload_n 3, 1) := by decide +kernel
theorem dX5_withBoth_10 : decode cX5_withBoth 10 = .ok (.iand, 1) := by decide +kernel
theorem dX5_withBoth_11 : decode cX5_withBoth 11 = .ok (.ifCond .eq 9, 3) := by decide +kernel
theorem dX5_withBoth_14 : decode cX5_withBoth 14 = .ok (.iload_n 0, 1) := by decide +kernel
theorem dX5_withBoth_15 : decode cX5_withBoth 15 = .ok (.iload_n 3, 1) := by decide +kernel
theorem dX5_withBoth_16 : decode cX5_withBoth 16 = .ok (.ior, 1) := by decide +kernel
theorem dX5_withBoth_17 : decode cX5_withBoth 17 = .ok (.goto 4, 3) := by decide +kernel
theorem dX5_withBoth_20 : decode cX5_withBoth 20 = .ok (.iload_n 0, 1) := by decide +kernel
theorem dX5_withBoth_21 : decode cX5_withBoth 21 = .ok (.ireturn, 1) := by decide +kernel
set_option maxRecDepth 20000 in
theorem ggX5_isRowFlat_X5_roundCorner : GoodIn wsX5_isRowFlat wsX5_roundCorner := goodIn_r _ [6, 7, 8, 9, 10, 11, 12, 13, 18, 19, 20, 21, 22, 23, 24, 25, 26] (by decide +kernel) (by decide +kernel)
set_option maxRecDepth 20000 in
theorem gX5_isRowFlat_X5_roundCorner : GoodIn wsX5_isRowFlat (wsV RX5 77 RX5 yX5_roundCorner wsX5_roundCorner) := goodIn_app (goodIn_of _ (by decide +kernel)) ggX5_isRowFlat_X5_roundCorner
set_option maxRecDepth 20000 in
theorem ggX5_isRowFlat_X5_rightOf : GoodIn wsX5_isRowFlat wsX5_rightOf := goodIn_r _ [17, 10, 11, 12, 13, 18, 19, 20, 21, 22, 23, 24, 25, 26] (by decide +kernel) (by decide +kernel)
set_option maxRecDepth 20000 in
theorem gX5_isRowFlat_X5_rightOf : GoodIn wsX5_isRowFlat (wsV RX5 47 RX5 yX5_rightOf wsX5_rightOf) := goodIn_app (goodIn_of _ (by decide +kernel)) ggX5_isRowFlat_X5_rightOf
theorem dX5_isRowFlat_0 : decode cX5_isRowFlat 0 = .ok (.iload_n 1, 1) := by decide +kernel
theorem dX5_isRowFlat_1 : decode cX5_isRowFlat 1 = .ok (.istore_n 2, 1) := by decide +kernel
theorem dX5_isRowFlat_2 : decode cX5_isRowFlat 2 = .ok (.iconst 0, 1) := by decide +kernel
theorem dX5_isRowFlat_3 : decode cX5_isRowFlat 3 = .ok (.istore_n 3, 1) := by decide +kernel
theorem dX5_isRowFlat_4 : decode cX5_isRowFlat 4 = .ok (.iload_n 3, 1) := by decide +kernel
theorem dX5_isRowFlat_5 : decode cX5_isRowFlat 5 = .ok (.aload_n 0, 1) := by decide +kernel
theorem dX5_isRowFlat_6 : decode cX5_isRowFlat 6 = .ok (.getfield 37, 3) := by decide +kernel
theorem dX5_isRowFlat_9 : decode cX5_isRowFlat 9 = .ok (.if_icmp .ge 26, 3) := by decide +kernel
theorem dX5_isRowFlat_12 : decode cX5_isRowFlat 12 = .ok (.aload_n 0, 1) := by decide +kernel
theorem dX5_isRowFlat_13 : decode cX5_isRowFlat 13 = .ok (.iload_n 2, 1) := by decide +kernel
theorem dX5_isRowFlat_14 : decode cX5_isRowFlat 14 = .ok (.invokevirtual 77, 3) := by decide +kernel
theorem dX5_isRowFlat_17 : decode cX5_isRowFlat 17 = .ok (.iload_n 2, 1) := by decide +kernel
theorem dX5_isRowFlat_18 : decode cX5_isRowFlat 18 = .ok (.if_icmp .eq 5, 3) := by decide +kernel
theorem dX5_isRowFlat_21 : decode cX5_isRowFlat 21 = .ok (.iconst 0, 1) := by decide +kernel
theorem dX5_isRowFlat_22 : decode cX5_isRowFlat 22 = .ok (.ireturn, 1) := by decide +kernel
theorem dX5_isRowFlat_23 : decode cX5_isRowFlat 23 = .ok (.aload_n 0, 1) := by decide +kernel
theorem dX5_isRowFlat_24 : decode cX5_isRowFlat 24 = .ok (.iload_n 2, 1) := by decide +kernel
theorem dX5_isRowFlat_25 : decode cX5_isRowFlat 25 = .ok (.invokevirtual 47, 3) := by decide +kernel
theorem dX5_isRowFlat_28 : decode cX5_isRowFlat 28 = .ok (.istore_n 2, 1) := by decide +kernel
theorem dX5_isRowFlat_29 : decode cX5_isRowFlat 29 = .ok (.iinc 3 1, 3) := by decide +kernel
theorem dX5_isRowFlat_32 : decode cX5_isRowFlat 32 = .ok (.goto (-28), 3) := by decide +kernel
theorem dX5_isRowFlat_35 : decode cX5_isRowFlat 35 = .ok (.iconst 1, 1) := by decide +kernel
theorem dX5_isRowFlat_36 : decode cX5_isRowFlat 36 = .ok (.ireturn, 1) := by decide +kernel
set_option maxRecDepth 20000 in
theorem ggX5_leastCode_J6_bitCount_0f7a4 : GoodIn wsX5_leastCode wsJ6_bitCount_0f7a4 := goodIn_r _ [6, 7, 8, 9] (by decide +kernel) (by decide +kernel)
set_option maxRecDepth 20000 in
theorem gX5_leastCode_J6_bitCount_0f7a4 : GoodIn wsX5_leastCode (va_wsS RX5 68 yJ6_bitCount_0f7a4 wsJ6_bitCount_0f7a4) := goodIn_app (goodIn_of _ (by decide +kernel)) ggX5_leastCode_J6_bitCount_0f7a4
set_option maxRecDepth 20000 in
theorem ggX5_leastCode_X5_leastBeginning : GoodIn wsX5_leastCode wsX5_leastBeginning := goodIn_r _ [14, 1, 15, 2, 16, 17, 18, 13, 19, 20, 21, 3, 4, 5, 6, 7, 8, 9, 22, 23, 24, 25, 26, 27, 28, 29, 30, 31, 32, 33, 34, 35, 36, 37, 38, 39, 40, 41, 42, 43, 44, 45, 46, 47, 48, 49] (by decide +kernel) (by decide +kernel)
set_option maxRecDepth 20000 in
theorem gX5_leastCode_X5_leastBeginning : GoodIn wsX5_leastCode (wsV RX5 87 RX5 yX5_leastBeginning wsX5_leastBeginning) := goodIn_app (goodIn_of _ (by decide +kernel)) ggX5_leastCode_X5_leastBeginning
set_option maxRecDepth 20000 in
theorem ggX5_leastCode_X5_numberFrom : GoodIn wsX5_leastCode wsX5_numberFrom := goodIn_r _ [19, 1, 2, 20, 21, 3, 4, 5, 6, 7, 8, 9, 22, 23, 24, 13, 25, 26, 27, 28, 29, 30, 31, 32, 33, 34, 35, 36, 37, 38, 39, 40, 41, 42, 43, 44, 45, 46, 47, 48, 49] (by decide +kernel) (by decide +kernel)
set_option maxRecDepth 20000 in
theorem gX5_leastCode_X5_numberFrom : GoodIn wsX5_leastCode (wsV RX5 91 RX5 yX5_numberFrom wsX5_numberFrom) := goodIn_app (goodIn_of _ (by decide +kernel)) ggX5_leastCode_X5_numberFrom
theorem dX5_leastCode_0 : decode cX5_leastCode 0 = .ok (.iconst 0, 1) := by decide +kernel
theorem dX5_leastCode_1 : decode cX5_leastCode 1 = .ok (.istore_n 1, 1) := by decide +kernel
theorem dX5_leastCode_2 : decode cX5_leastCode 2 = .ok (.aload_n 0, 1) := by decide +kernel
theorem dX5_leastCode_3 : decode cX5_leastCode 3 = .ok (.iconst 0, 1) := by decide +kernel
theorem dX5_leastCode_4 : decode cX5_leastCode 4 = .ok (.putfield 33, 3) := by decide +kernel
theorem dX5_leastCode_7 : decode cX5_leastCode 7 = .ok (.iconst 0, 1) := by decide +kernel
theorem dX5_leastCode_8 : decode cX5_leastCode 8 = .ok (.istore_n 2, 1) := by decide +kernel
theorem dX5_leastCode_9 : decode cX5_leastCode 9 = .ok (.iload_n 2, 1) := by decide +kernel
theorem dX5_leastCode_10 : decode cX5_leastCode 10 = .ok (.aload_n 0, 1) := by decide +kernel
theorem dX5_leastCode_11 : decode cX5_leastCode 11 = .ok (.getfield 37, 3) := by decide +kernel
theorem dX5_leastCode_14 : decode cX5_leastCode 14 = .ok (.if_icmp .ge 34, 3) := by decide +kernel
theorem dX5_leastCode_17 : decode cX5_leastCode 17 = .ok (.aload_n 0, 1) := by decide +kernel
theorem dX5_leastCode_18 : decode cX5_leastCode 18 = .ok (.getfield 33, 3) := by decide +kernel
theorem dX5_leastCode_21 : decode cX5_leastCode 21 = .ok (.invokestatic 68, 3) := by decide +kernel
theorem dX5_leastCode_24 : decode cX5_leastCode 24 = .ok (.aload_n 0, 1) := by decide +kernel
theorem dX5_leastCode_25 : decode cX5_leastCode 25 = .ok (.getfield 37, 3) := by decide +kernel
theorem dX5_leastCode_28 : decode cX5_leastCode 28 = .ok (.if_icmp .ge 20, 3) := by decide +kernel
theorem dX5_leastCode_31 : decode cX5_leastCode 31 = .ok (.iload_n 1, 1) := by decide +kernel
theorem dX5_leastCode_32 : decode cX5_leastCode 32 = .ok (.aload_n 0, 1) := by decide +kernel
theorem dX5_leastCode_33 : decode cX5_leastCode 33 = .ok (.aload_n 0, 1) := by decide +kernel
theorem dX5_leastCode_34 : decode cX5_leastCode 34 = .ok (.invokevirtual 87, 3) := by decide +kernel
theorem dX5_leastCode_37 : decode cX5_leastCode 37 = .ok (.invokevirtual 91, 3) := by decide +kernel
theorem dX5_leastCode_40 : decode cX5_leastCode 40 = .ok (.iadd, 1) := by decide +kernel
theorem dX5_leastCode_41 : decode cX5_leastCode 41 = .ok (.istore_n 1, 1) := by decide +kernel
theorem dX5_leastCode_42 : decode cX5_leastCode 42 = .ok (.iinc 2 1, 3) := by decide +kernel
theorem dX5_leastCode_45 : decode cX5_leastCode 45 = .ok (.goto (-36), 3) := by decide +kernel
theorem dX5_leastCode_48 : decode cX5_leastCode 48 = .ok (.iload_n 1, 1) := by decide +kernel
theorem dX5_leastCode_49 : decode cX5_leastCode 49 = .ok (.ireturn, 1) := by decide +kernel
set_option maxRecDepth 20000 in
theorem ggX5_leastBeginning_X5_numberFrom : GoodIn wsX5_leastBeginning wsX5_numberFrom := goodIn_r _ [8, 1, 3, 9, 10, 11, 12, 13, 14, 15, 16, 17, 18, 19, 20, 7, 21, 22, 23, 24, 25, 26, 27, 28, 29, 30, 31, 32, 33, 34, 35, 36, 37, 38, 39, 40, 41, 42, 43, 44, 45] (by decide +kernel) (by decide +kernel)
set_option maxRecDepth 20000 in
theorem gX5_leastBeginning_X5_numberFrom : GoodIn wsX5_leastBeginning (wsV RX5 91 RX5 yX5_numberFrom wsX5_numberFrom) := goodIn_app (goodIn_of _ (by decide +kernel)) ggX5_leastBeginning_X5_numberFrom
theorem dX5_leastBeginning_0 : decode cX5_leastBeginning 0 = .ok (.aload_n 0, 1) := by decide +kernel
theorem dX5_leastBeginning_1 : decode cX5_leastBeginning 1 = .ok (.getfield 33, 3) := by decide +kernel
theorem dX5_leastBeginning_4 : decode cX5_leastBeginning 4 = .ok (.istore_n 1, 1) := by decide +kernel
theorem dX5_leastBeginning_5 : decode cX5_leastBeginning 5 = .ok (.iconst 0, 1) := by decide +kernel
theorem dX5_leastBeginning_6 : decode cX5_leastBeginning 6 = .ok (.istore_n 2, 1) := by decide +kernel
theorem dX5_leastBeginning_7 : decode cX5_leastBeginning 7 = .ok (.ldc 94, 2) := by decide +kernel
theorem dX5_leastBeginning_9 : decode cX5_leastBeginning 9 = .ok (.istore_n 3, 1) := by decide +kernel
theorem dX5_leastBeginning_10 : decode cX5_leastBeginning 10 = .ok (.iconst 0, 1) := by decide +kernel
theorem dX5_leastBeginning_11 : decode cX5_leastBeginning 11 = .ok (.istore 4, 2) := by decide +kernel
theorem dX5_leastBeginning_13 : decode cX5_leastBeginning 13 = .ok (.iload 4, 2) := by decide +kernel
theorem dX5_leastBeginning_15 : decode cX5_leastBeginning 15 = .ok (.aload_n 0, 1) := by decide +kernel
theorem dX5_leastBeginning_16 : decode cX5_leastBeginning 16 = .ok (.getfield 37, 3) := by decide +kernel
theorem dX5_leastBeginning_19 : decode cX5_leastBeginning 19 = .ok (.if_icmp .ge 43, 3) := by decide +kernel
theorem dX5_leastBeginning_22 : decode cX5_leastBeginning 22 = .ok (.iload_n 1, 1) := by decide +kernel
theorem dX5_leastBeginning_23 : decode cX5_leastBeginning 23 = .ok (.iload 4, 2) := by decide +kernel
theorem dX5_leastBeginning_25 : decode cX5_leastBeginning 25 = .ok (.ishr, 1) := by decide +kernel
theorem dX5_leastBeginning_26 : decode cX5_leastBeginning 26 = .ok (.iconst 1, 1) := by decide +kernel
theorem dX5_leastBeginning_27 : decode cX5_leastBeginning 27 = .ok (.iand, 1) := by decide +kernel
theorem dX5_leastBeginning_28 : decode cX5_leastBeginning 28 = .ok (.ifCond .ne 28, 3) := by decide +kernel
theorem dX5_leastBeginning_31 : decode cX5_leastBeginning 31 = .ok (.aload_n 0, 1) := by decide +kernel
theorem dX5_leastBeginning_32 : decode cX5_leastBeginning 32 = .ok (.iload 4, 2) := by decide +kernel
theorem dX5_leastBeginning_34 : decode cX5_leastBeginning 34 = .ok (.invokevirtual 91, 3) := by decide +kernel
theorem dX5_leastBeginning_37 : decode cX5_leastBeginning 37 = .ok (.istore 5, 2) := by decide +kernel
theorem dX5_leastBeginning_39 : decode cX5_leastBeginning 39 = .ok (.iload 5, 2) := by decide +kernel
theorem dX5_leastBeginning_41 : decode cX5_leastBeginning 41 = .ok (.iload_n 3, 1) := by decide +kernel
theorem dX5_leastBeginning_42 : decode cX5_leastBeginning 42 = .ok (.if_icmp .ge 9, 3) := by decide +kernel
theorem dX5_leastBeginning_45 : decode cX5_leastBeginning 45 = .ok (.iload 5, 2) := by decide +kernel
