theorem dX6_seesAnew_0 : decode cX6_seesAnew 0 = .ok (.iload_n 1, 1) := by decide +kernel
theorem dX6_seesAnew_1 : decode cX6_seesAnew 1 = .ok (.iload_n 2, 1) := by decide +kernel
theorem dX6_seesAnew_2 : decode cX6_seesAnew 2 = .ok (.invokestatic 44, 3) := by decide +kernel
theorem dX6_seesAnew_5 : decode cX6_seesAnew 5 = .ok (.iload_n 3, 1) := by decide +kernel
theorem dX6_seesAnew_6 : decode cX6_seesAnew 6 = .ok (.iload 4, 2) := by decide +kernel
theorem dX6_seesAnew_8 : decode cX6_seesAnew 8 = .ok (.invokestatic 44, 3) := by decide +kernel
theorem dX6_seesAnew_11 : decode cX6_seesAnew 11 = .ok (.aload_n 0, 1) := by decide +kernel
theorem dX6_seesAnew_12 : decode cX6_seesAnew 12 = .ok (.getfield 10, 3) := by decide +kernel
theorem dX6_seesAnew_15 : decode cX6_seesAnew 15 = .ok (.iload_n 1, 1) := by decide +kernel
theorem dX6_seesAnew_16 : decode cX6_seesAnew 16 = .ok (.iload_n 2, 1) := by decide +kernel
theorem dX6_seesAnew_17 : decode cX6_seesAnew 17 = .ok (.iload_n 3, 1) := by decide +kernel
theorem dX6_seesAnew_18 : decode cX6_seesAnew 18 = .ok (.iload 4, 2) := by decide +kernel
theorem dX6_seesAnew_20 : decode cX6_seesAnew 20 = .ok (.invokestatic 111, 3) := by decide +kernel
theorem dX6_seesAnew_23 : decode cX6_seesAnew 23 = .ok (.ireturn, 1) := by decide +kernel
set_option maxRecDepth 20000 in
theorem ggX6_lit_X2_cellsLit : GoodIn wsX6_lit wsX2_cellsLit := goodIn_r _ [7, 8, 9, 10, 6, 11, 12, 13, 14, 15, 16, 17, 18, 19, 20, 21, 22, 23, 24, 25, 26, 27, 28, 29, 30, 31, 32, 33, 34, 35, 36, 37, 38, 39, 40, 46, 47, 48, 49] (by decide +kernel) (by decide +kernel)
set_option maxRecDepth 20000 in
theorem gX6_lit_X2_cellsLit : GoodIn wsX6_lit (wsV RX6 114 RX2 yX2_cellsLit wsX2_cellsLit) := goodIn_app (goodIn_of _ (by decide +kernel)) ggX6_lit_X2_cellsLit
theorem dX6_lit_0 : decode cX6_lit 0 = .ok (.aload_n 0, 1) := by decide +kernel
theorem dX6_lit_1 : decode cX6_lit 1 = .ok (.getfield 19, 3) := by decide +kernel
theorem dX6_lit_4 : decode cX6_lit 4 = .ok (.aload_n 0, 1) := by decide +kernel
theorem dX6_lit_5 : decode cX6_lit 5 = .ok (.getfield 10, 3) := by decide +kernel
theorem dX6_lit_8 : decode cX6_lit 8 = .ok (.invokevirtual 114, 3) := by decide +kernel
theorem dX6_lit_11 : decode cX6_lit 11 = .ok (.ireturn, 1) := by decide +kernel
set_option maxRecDepth 20000 in
theorem ggX6_share_X4_floors : GoodIn wsX6_share wsX4_floors := goodIn_r _ [7, 8, 9, 10, 11, 12, 13, 14, 15, 57, 58] (by decide +kernel) (by decide +kernel)
set_option maxRecDepth 20000 in
theorem gX6_share_X4_floors : GoodIn wsX6_share (wsV RX6 118 RX4 yX4_floors wsX4_floors) := goodIn_app (goodIn_of _ (by decide +kernel)) ggX6_share_X4_floors
set_option maxRecDepth 20000 in
theorem ggX6_share_X2_cellsLit : GoodIn wsX6_share wsX2_cellsLit := goodIn_r _ [20, 21, 22, 23, 19, 24, 25, 26, 27, 28, 29, 30, 31, 32, 33, 34, 35, 36, 37, 38, 39, 40, 41, 42, 6, 43, 8, 44, 45, 46, 47, 48, 49, 50, 51, 59, 60, 57, 58] (by decide +kernel) (by decide +kernel)
set_option maxRecDepth 20000 in
theorem gX6_share_X2_cellsLit : GoodIn wsX6_share (wsV RX6 114 RX2 yX2_cellsLit wsX2_cellsLit) := goodIn_app (goodIn_of _ (by decide +kernel)) ggX6_share_X2_cellsLit
theorem dX6_share_0 : decode cX6_share 0 = .ok (.aload_n 0, 1) := by decide +kernel
theorem dX6_share_1 : decode cX6_share 1 = .ok (.getfield 10, 3) := by decide +kernel
theorem dX6_share_4 : decode cX6_share 4 = .ok (.invokevirtual 118, 3) := by decide +kernel
theorem dX6_share_7 : decode cX6_share 7 = .ok (.istore_n 1, 1) := by decide +kernel
theorem dX6_share_8 : decode cX6_share 8 = .ok (.iload_n 1, 1) := by decide +kernel
theorem dX6_share_9 : decode cX6_share 9 = .ok (.ifCond .le 21, 3) := by decide +kernel
theorem dX6_share_12 : decode cX6_share 12 = .ok (.aload_n 0, 1) := by decide +kernel
theorem dX6_share_13 : decode cX6_share 13 = .ok (.getfield 19, 3) := by decide +kernel
theorem dX6_share_16 : decode cX6_share 16 = .ok (.aload_n 0, 1) := by decide +kernel
theorem dX6_share_17 : decode cX6_share 17 = .ok (.getfield 10, 3) := by decide +kernel
theorem dX6_share_20 : decode cX6_share 20 = .ok (.invokevirtual 114, 3) := by decide +kernel
theorem dX6_share_23 : decode cX6_share 23 = .ok (.i2f, 1) := by decide +kernel
theorem dX6_share_24 : decode cX6_share 24 = .ok (.iload_n 1, 1) := by decide +kernel
theorem dX6_share_25 : decode cX6_share 25 = .ok (.i2f, 1) := by decide +kernel
theorem dX6_share_26 : decode cX6_share 26 = .ok (.fdiv, 1) := by decide +kernel
theorem dX6_share_27 : decode cX6_share 27 = .ok (.goto 4, 3) := by decide +kernel
theorem dX6_share_30 : decode cX6_share 30 = .ok (.fconst 0, 1) := by decide +kernel
theorem dX6_share_31 : decode cX6_share 31 = .ok (.freturn, 1) := by decide +kernel
set_option maxRecDepth 20000 in
theorem ggX6_surface_X6_checkRange : GoodIn wsX6_surface wsX6_checkRange := goodIn_ca (goodIn_r _ [5, 6, 7] (by decide +kernel) (by decide +kernel)) (goodIn_sub (fun _ h => List.mem_cons_of_mem _ (List.mem_append_right _ h)) (by decide +kernel))
set_option maxRecDepth 20000 in
theorem gX6_surface_X6_checkRange : GoodIn wsX6_surface (va_wsS RX6 121 yX6_checkRange wsX6_checkRange) := goodIn_app (goodIn_of _ (by decide +kernel)) ggX6_surface_X6_checkRange
set_option maxRecDepth 20000 in
theorem ggX6_surface_X5_squares : GoodIn wsX6_surface wsX5_squares := goodIn_r _ [12, 13, 43, 44, 45, 46, 47, 48, 49, 50, 51] (by decide +kernel) (by decide +kernel)
set_option maxRecDepth 20000 in
theorem gX6_surface_X5_squares : GoodIn wsX6_surface (wsV RX6 125 RX5 yX5_squares wsX5_squares) := goodIn_app (goodIn_of _ (by decide +kernel)) ggX6_surface_X5_squares
set_option maxRecDepth 20000 in
theorem ggX6_surface_X5_begin : GoodIn wsX6_surface wsX5_begin := goodIn_r _ [17, 13, 18, 19, 20, 4, 21, 22, 23, 24, 11, 25, 26, 27, 28, 29, 30, 31, 32, 33, 34, 35, 36, 37, 43, 44, 45, 46, 47, 48, 49, 50, 51] (by decide +kernel) (by decide +kernel)
set_option maxRecDepth 20000 in
theorem gX6_surface_X5_begin : GoodIn wsX6_surface (wsV RX6 128 RX5 yX5_begin wsX5_begin) := goodIn_app (goodIn_of _ (by decide +kernel)) ggX6_surface_X5_begin
theorem dX6_surface_0 : decode cX6_surface 0 = .ok (.iload_n 1, 1) := by decide +kernel
theorem dX6_surface_1 : decode cX6_surface 1 = .ok (.iconst 1, 1) := by decide +kernel
theorem dX6_surface_2 : decode cX6_surface 2 = .ok (.iconst 5, 1) := by decide +kernel
theorem dX6_surface_3 : decode cX6_surface 3 = .ok (.invokestatic 121, 3) := by decide +kernel
theorem dX6_surface_6 : decode cX6_surface 6 = .ok (.aload_n 0, 1) := by decide +kernel
theorem dX6_surface_7 : decode cX6_surface 7 = .ok (.getfield 26, 3) := by decide +kernel
theorem dX6_surface_10 : decode cX6_surface 10 = .ok (.invokevirtual 125, 3) := by decide +kernel
theorem dX6_surface_13 : decode cX6_surface 13 = .ok (.istore_n 2, 1) := by decide +kernel
theorem dX6_surface_14 : decode cX6_surface 14 = .ok (.aload_n 0, 1) := by decide +kernel
theorem dX6_surface_15 : decode cX6_surface 15 = .ok (.getfield 26, 3) := by decide +kernel
theorem dX6_surface_18 : decode cX6_surface 18 = .ok (.iload_n 1, 1) := by decide +kernel
theorem dX6_surface_19 : decode cX6_surface 19 = .ok (.invokevirtual 128, 3) := by decide +kernel
theorem dX6_surface_22 : decode cX6_surface 22 = .ok (.iload_n 2, 1) := by decide +kernel
theorem dX6_surface_23 : decode cX6_surface 23 = .ok (.ireturn, 1) := by decide +kernel
set_option maxRecDepth 20000 in
theorem ggX6_glue_X5_squares : GoodIn wsX6_glue wsX5_squares := goodIn_r _ [6, 7, 47, 48, 49, 50, 51, 52, 53, 54, 55] (by decide +kernel) (by decide +kernel)
set_option maxRecDepth 20000 in
theorem gX6_glue_X5_squares : GoodIn wsX6_glue (wsV RX6 125 RX5 yX5_squares wsX5_squares) := goodIn_app (goodIn_of _ (by decide +kernel)) ggX6_glue_X5_squares
set_option maxRecDepth 20000 in
theorem ggX6_glue_X6_checkPlace : GoodIn wsX6_glue wsX6_checkPlace := goodIn_ca (goodIn_r _ [11, 12, 13] (by decide +kernel) (by decide +kernel)) (goodIn_sub (fun _ h => List.mem_cons_of_mem _ (List.mem_append_right _ h)) (by decide +kernel))
set_option maxRecDepth 20000 in
theorem gX6_glue_X6_checkPlace : GoodIn wsX6_glue (va_wsS RX6 132 yX6_checkPlace wsX6_checkPlace) := goodIn_app (goodIn_of _ (by decide +kernel)) ggX6_glue_X6_checkPlace
set_option maxRecDepth 20000 in
theorem ggX6_glue_X5_exchangeTwo : GoodIn wsX6_glue wsX5_exchangeTwo := goodIn_r _ [17, 18, 19, 20, 10, 21, 22, 23, 24, 25, 26, 27, 28, 29, 30, 5, 31, 7, 32, 33, 34, 35, 36, 37, 38, 39, 40, 41, 47, 48, 49, 50, 51, 52, 53, 54, 55] (by decide +kernel) (by decide +kernel)
set_option maxRecDepth 20000 in
theorem gX6_glue_X5_exchangeTwo : GoodIn wsX6_glue (wsV RX6 135 RX5 yX5_exchangeTwo wsX5_exchangeTwo) := goodIn_app (goodIn_of _ (by decide +kernel)) ggX6_glue_X5_exchangeTwo
theorem dX6_glue_0 : decode cX6_glue 0 = .ok (.iload_n 1, 1) := by decide +kernel
theorem dX6_glue_1 : decode cX6_glue 1 = .ok (.aload_n 0, 1) := by decide +kernel
theorem dX6_glue_2 : decode cX6_glue 2 = .ok (.getfield 26, 3) := by decide +kernel
theorem dX6_glue_5 : decode cX6_glue 5 = .ok (.invokevirtual 125, 3) := by decide +kernel
theorem dX6_glue_8 : decode cX6_glue 8 = .ok (.invokestatic 132, 3) := by decide +kernel
theorem dX6_glue_11 : decode cX6_glue 11 = .ok (.iload_n 2, 1) := by decide +kernel
theorem dX6_glue_12 : decode cX6_glue 12 = .ok (.aload_n 0, 1) := by decide +kernel
theorem dX6_glue_13 : decode cX6_glue 13 = .ok (.getfield 26, 3) := by decide +kernel
theorem dX6_glue_16 : decode cX6_glue 16 = .ok (.invokevirtual 125, 3) := by decide +kernel
theorem dX6_glue_19 : decode cX6_glue 19 = .ok (.invokestatic 132, 3) := by decide +kernel
theorem dX6_glue_22 : decode cX6_glue 22 = .ok (.aload_n 0, 1) := by decide +kernel
theorem dX6_glue_23 : decode cX6_glue 23 = .ok (.getfield 26, 3) := by decide +kernel
theorem dX6_glue_26 : decode cX6_glue 26 = .ok (.iload_n 1, 1) := by decide +kernel
theorem dX6_glue_27 : decode cX6_glue 27 = .ok (.iload_n 2, 1) := by decide +kernel
theorem dX6_glue_28 : decode cX6_glue 28 = .ok (.iload_n 3, 1) := by decide +kernel
theorem dX6_glue_29 : decode cX6_glue 29 = .ok (.invokevirtual 135, 3) := by decide +kernel
theorem dX6_glue_32 : decode cX6_glue 32 = .ok (.ireturn, 1) := by decide +kernel
set_option maxRecDepth 20000 in
theorem ggX6_shear_X5_shearAll : GoodIn wsX6_shear wsX5_shearAll := goodIn_r _ [6, 7, 8, 9, 10, 11, 12, 5, 13, 14, 15, 16, 17, 18, 19, 20, 21, 22, 23, 24, 25, 26, 27, 28, 29, 62, 63, 64, 65, 66, 67, 68, 69, 70] (by decide +kernel) (by decide +kernel)
set_option maxRecDepth 20000 in
theorem gX6_shear_X5_shearAll : GoodIn wsX6_shear (wsV RX6 139 RX5 yX5_shearAll wsX5_shearAll) := goodIn_app (goodIn_of _ (by decide +kernel)) ggX6_shear_X5_shearAll
set_option maxRecDepth 20000 in
theorem ggX6_shear_X5_leastCode : GoodIn wsX6_shear wsX5_leastCode := goodIn_r _ [33, 34, 7, 35, 36, 37, 38, 39, 40, 41, 42, 43, 44, 5, 45, 46, 47, 48, 49, 50, 51, 52, 53, 54, 55, 56, 22, 16, 23, 15, 17, 10, 11, 12, 13, 14, 18, 19, 20, 21, 9, 62, 63, 64, 65, 66, 67, 68, 69, 70] (by decide +kernel) (by decide +kernel)
set_option maxRecDepth 20000 in
theorem gX6_shear_X5_leastCode : GoodIn wsX6_shear (wsV RX6 142 RX5 yX5_leastCode wsX5_leastCode) := goodIn_app (goodIn_of _ (by decide +kernel)) ggX6_shear_X5_leastCode
theorem dX6_shear_0 : decode cX6_shear 0 = .ok (.aload_n 0, 1) := by decide +kernel
theorem dX6_shear_1 : decode cX6_shear 1 = .ok (.getfield 26, 3) := by decide +kernel
theorem dX6_shear_4 : decode cX6_shear 4 = .ok (.invokevirtual 139, 3) := by decide +kernel
theorem dX6_shear_7 : decode cX6_shear 7 = .ok (.aload_n 0, 1) := by decide +kernel
theorem dX6_shear_8 : decode cX6_shear 8 = .ok (.getfield 26, 3) := by decide +kernel
theorem dX6_shear_11 : decode cX6_shear 11 = .ok (.invokevirtual 142, 3) := by decide +kernel
theorem dX6_shear_14 : decode cX6_shear 14 = .ok (.ireturn, 1) := by decide +kernel
set_option maxRecDepth 20000 in
theorem ggX6_turn_X5_turnAll : GoodIn wsX6_turn wsX5_turnAll := goodIn_r _ [6, 7, 8, 9, 10, 11, 12, 13, 5, 14, 15, 16, 17, 18, 19, 20, 21, 22, 23, 24, 25, 26, 27, 28, 29, 30, 31, 32, 33, 66, 67, 68, 69, 70, 71, 72, 73, 74] (by decide +kernel) (by decide +kernel)
set_option maxRecDepth 20000 in
theorem gX6_turn_X5_turnAll : GoodIn wsX6_turn (wsV RX6 145 RX5 yX5_turnAll wsX5_turnAll) := goodIn_app (goodIn_of _ (by decide +kernel)) ggX6_turn_X5_turnAll
set_option maxRecDepth 20000 in
theorem ggX6_turn_X5_leastCode : GoodIn wsX6_turn wsX5_leastCode := goodIn_r _ [37, 38, 7, 39, 40, 41, 42, 43, 44, 45, 46, 47, 48, 5, 49, 50, 51, 52, 53, 54, 55, 56, 57, 58, 59, 60, 19, 17, 20, 16, 18, 30, 31, 32, 33, 9, 21, 22, 23, 24, 10, 66, 67, 68, 69, 70, 71, 72, 73, 74] (by decide +kernel) (by decide +kernel)
set_option maxRecDepth 20000 in
theorem gX6_turn_X5_leastCode : GoodIn wsX6_turn (wsV RX6 142 RX5 yX5_leastCode wsX5_leastCode) := goodIn_app (goodIn_of _ (by decide +kernel)) ggX6_turn_X5_leastCode
theorem dX6_turn_0 : decode cX6_turn 0 = .ok (.aload_n 0, 1) := by decide +kernel
theorem dX6_turn_1 : decode cX6_turn 1 = .ok (.getfield 26, 3) := by decide +kernel
theorem dX6_turn_4 : decode cX6_turn 4 = .ok (.invokevirtual 145, 3) := by decide +kernel
theorem dX6_turn_7 : decode cX6_turn 7 = .ok (.aload_n 0, 1) := by decide +kernel
theorem dX6_turn_8 : decode cX6_turn 8 = .ok (.getfield 26, 3) := by decide +kernel
theorem dX6_turn_11 : decode cX6_turn 11 = .ok (.invokevirtual 142, 3) := by decide +kernel
theorem dX6_turn_14 : decode cX6_turn 14 = .ok (.ireturn, 1) := by decide +kernel
set_option maxRecDepth 20000 in
theorem ggX6_square_X5_squares : GoodIn wsX6_square wsX5_squares := goodIn_r _ [6, 7, 78, 79, 80, 81, 82, 83, 84, 85, 86] (by decide +kernel) (by decide +kernel)
set_option maxRecDepth 20000 in
theorem gX6_square_X5_squares : GoodIn wsX6_square (wsV RX6 125 RX5 yX5_squares wsX5_squares) := goodIn_app (goodIn_of _ (by decide +kernel)) ggX6_square_X5_squares
set_option maxRecDepth 20000 in
theorem ggX6_square_X6_checkPlace : GoodIn wsX6_square wsX6_checkPlace := goodIn_ca (goodIn_r _ [11, 12, 13] (by decide +kernel) (by decide +kernel)) (goodIn_sub (fun _ h => List.mem_cons_of_mem _ (List.mem_append_left _ (List.mem_append_right _ h))) (by decide +kernel))
set_option maxRecDepth 20000 in
theorem gX6_square_X6_checkPlace : GoodIn wsX6_square (va_wsS RX6 132 yX6_checkPlace wsX6_checkPlace) := goodIn_app (goodIn_of _ (by decide +kernel)) ggX6_square_X6_checkPlace
set_option maxRecDepth 20000 in
theorem ggX6_square_X6_checkRange : GoodIn wsX6_square wsX6_checkRange := goodIn_ca (goodIn_r _ [16, 17, 18] (by decide +kernel) (by decide +kernel)) (goodIn_sub (fun _ h => List.mem_cons_of_mem _ (List.mem_append_right _ h)) (by decide +kernel))
set_option maxRecDepth 20000 in
theorem gX6_square_X6_checkRange : GoodIn wsX6_square (va_wsS RX6 121 yX6_checkRange wsX6_checkRange) := goodIn_app (goodIn_of _ (by decide +kernel)) ggX6_square_X6_checkRange
set_option maxRecDepth 20000 in
theorem ggX6_square_X5_rightOf : GoodIn wsX6_square wsX5_rightOf := goodIn_r _ [22, 23, 24, 10, 25, 78, 79, 80, 81, 82, 83, 84, 85, 86] (by decide +kernel) (by decide +kernel)
set_option maxRecDepth 20000 in
theorem gX6_square_X5_rightOf : GoodIn wsX6_square (wsV RX6 148 RX5 yX5_rightOf wsX5_rightOf) := goodIn_app (goodIn_of _ (by decide +kernel)) ggX6_square_X5_rightOf
set_option maxRecDepth 20000 in
theorem ggX6_square_X5_upOf : GoodIn wsX6_square wsX5_upOf := goodIn_r _ [29, 30, 24, 10, 25, 78, 79, 80, 81, 82, 83, 84, 85, 86] (by decide +kernel) (by decide +kernel)
set_option maxRecDepth 20000 in
theorem gX6_square_X5_upOf : GoodIn wsX6_square (wsV RX6 151 RX5 yX5_upOf wsX5_upOf) := goodIn_app (goodIn_of _ (by decide +kernel)) ggX6_square_X5_upOf
set_option maxRecDepth 20000 in
theorem ggX6_square_X5_leftOf : GoodIn wsX6_square wsX5_leftOf := goodIn_r _ [34, 35, 24, 10, 25, 78, 79, 80, 81, 82, 83, 84, 85, 86] (by decide +kernel) (by decide +kernel)
set_option maxRecDepth 20000 in
theorem gX6_square_X5_leftOf : GoodIn wsX6_square (wsV RX6 154 RX5 yX5_leftOf wsX5_leftOf) := goodIn_app (goodIn_of _ (by decide +kernel)) ggX6_square_X5_leftOf
set_option maxRecDepth 20000 in
theorem ggX6_square_X5_downOf : GoodIn wsX6_square wsX5_downOf := goodIn_r _ [39, 40, 24, 10, 25, 78, 79, 80, 81, 82, 83, 84, 85, 86] (by decide +kernel) (by decide +kernel)
set_option maxRecDepth 20000 in
theorem gX6_square_X5_downOf : GoodIn wsX6_square (wsV RX6 157 RX5 yX5_downOf wsX5_downOf) := goodIn_app (goodIn_of _ (by decide +kernel)) ggX6_square_X5_downOf
set_option maxRecDepth 20000 in
theorem ggX6_square_X5_sizeOf : GoodIn wsX6_square wsX5_sizeOf := goodIn_r _ [44, 45, 46, 47, 5, 48, 7, 49, 50, 51, 52, 53, 54, 55, 56, 40, 35, 30, 23, 24, 10, 25, 57, 58, 59, 60, 20, 21, 22, 61, 62, 63, 64, 65, 27, 28, 29, 66, 67, 68, 69, 70, 71, 72, 78, 79, 80, 81, 82, 83, 84, 85, 86] (by decide +kernel) (by decide +kernel)
set_option maxRecDepth 20000 in
theorem gX6_square_X5_sizeOf : GoodIn wsX6_square (wsV RX6 160 RX5 yX5_sizeOf wsX5_sizeOf) := goodIn_app (goodIn_of _ (by decide +kernel)) ggX6_square_X5_sizeOf
theorem dX6_square_0 : decode cX6_square 0 = .ok (.iload_n 1, 1) := by decide +kernel
theorem dX6_square_1 : decode cX6_square 1 = .ok (.aload_n 0, 1) := by decide +kernel
theorem dX6_square_2 : decode cX6_square 2 = .ok (.getfield 26, 3) := by decide +kernel
theorem dX6_square_5 : decode cX6_square 5 = .ok (.invokevirtual 125, 3) := by decide +kernel
theorem dX6_square_8 : decode cX6_square 8 = .ok (.invokestatic 132, 3) := by decide +kernel
theorem dX6_square_11 : decode cX6_square 11 = .ok (.iload_n 2, 1) := by decide +kernel
theorem dX6_square_12 : decode cX6_square 12 = .ok (.iconst 0, 1) := by decide +kernel
theorem dX6_square_13 : decode cX6_square 13 = .ok (.bipush 6, 2) := by decide +kernel
theorem dX6_square_15 : decode cX6_square 15 = .ok (.invokestatic 121, 3) := by decide +kernel
theorem dX6_square_18 : decode cX6_square 18 = .ok (.iload_n 2, 1) := by decide +kernel
theorem dX6_square_19 : decode cX6_square 19 = .ok (.tableswitch 93 0 5 #[37, 46, 55, 64, 73, 83], 37) := by decide +kernel
theorem dX6_square_56 : decode cX6_square 56 = .ok (.aload_n 0, 1) := by decide +kernel
theorem dX6_square_57 : decode cX6_square 57 = .ok (.getfield 26, 3) := by decide +kernel
theorem dX6_square_60 : decode cX6_square 60 = .ok (.iload_n 1, 1) := by decide +kernel
theorem dX6_square_61 : decode cX6_square 61 = .ok (.invokevirtual 148, 3) := by decide +kernel
theorem dX6_square_64 : decode cX6_square 64 = .ok (.ireturn, 1) := by decide +kernel
theorem dX6_square_65 : decode cX6_square 65 = .ok (.aload_n 0, 1) := by decide +kernel
theorem dX6_square_66 : decode cX6_square 66 = .ok (.getfield 26, 3) := by decide +kernel
theorem dX6_square_69 : decode cX6_square 69 = .ok (.iload_n 1, 1) := by decide +kernel
theorem dX6_square_70 : decode cX6_square 70 = .ok (.invokevirtual 151, 3) := by decide +kernel
theorem dX6_square_73 : decode cX6_square 73 = .ok (.ireturn, 1) := by decide +kernel
theorem dX6_square_74 : decode cX6_square 74 = .ok (.aload_n 0, 1) := by decide +kernel
theorem dX6_square_75 : decode cX6_square 75 = .ok (.getfield 26, 3) := by decide +kernel
theorem dX6_square_78 : decode cX6_square 78 = .ok (.iload_n 1, 1) := by decide +kernel
theorem dX6_square_79 : decode cX6_square 79 = .ok (.invokevirtual 154, 3) := by decide +kernel
theorem dX6_square_82 : decode cX6_square 82 = .ok (.ireturn, 1) := by decide +kernel
theorem dX6_square_83 : decode cX6_square 83 = .ok (.aload_n 0, 1) := by decide +kernel
theorem dX6_square_84 : decode cX6_square 84 = .ok (.getfield 26, 3) := by decide +kernel
theorem dX6_square_87 : decode cX6_square 87 = .ok (.iload_n 1, 1) := by decide +kernel
theorem dX6_square_88 : decode cX6_square 88 = .ok (.invokevirtual 157, 3) := by decide +kernel
theorem dX6_square_91 : decode cX6_square 91 = .ok (.ireturn, 1) := by decide +kernel
theorem dX6_square_92 : decode cX6_square 92 = .ok (.aload_n 0, 1) := by decide +kernel
theorem dX6_square_93 : decode cX6_square 93 = .ok (.getfield 26, 3) := by decide +kernel
theorem dX6_square_96 : decode cX6_square 96 = .ok (.iload_n 1, 1) := by decide +kernel
theorem dX6_square_97 : decode cX6_square 97 = .ok (.iconst 1, 1) := by decide +kernel
theorem dX6_square_98 : decode cX6_square 98 = .ok (.invokevirtual 160, 3) := by decide +kernel
theorem dX6_square_101 : decode cX6_square 101 = .ok (.ireturn, 1) := by decide +kernel
theorem dX6_square_102 : decode cX6_square 102 = .ok (.aload_n 0, 1) := by decide +kernel
theorem dX6_square_103 : decode cX6_square 103 = .ok (.getfield 26, 3) := by decide +kernel
theorem dX6_square_106 : decode cX6_square 106 = .ok (.iload_n 1, 1) := by decide +kernel
theorem dX6_square_107 : decode cX6_square 107 = .ok (.iconst 2, 1) := by decide +kernel
theorem dX6_square_108 : decode cX6_square 108 = .ok (.invokevirtual 160, 3) := by decide +kernel
theorem dX6_square_111 : decode cX6_square 111 = .ok (.ireturn, 1) := by decide +kernel
theorem dX6_square_112 : decode cX6_square 112 = .ok (.aload_n 0, 1) := by decide +kernel
theorem dX6_square_113 : decode cX6_square 113 = .ok (.getfield 26, 3) := by decide +kernel
theorem dX6_square_116 : decode cX6_square 116 = .ok (.iload_n 1, 1) := by decide +kernel
theorem dX6_square_117 : decode cX6_square 117 = .ok (.iconst 3, 1) := by decide +kernel
theorem dX6_square_118 : decode cX6_square 118 = .ok (.invokevirtual 160, 3) := by decide +kernel
theorem dX6_square_121 : decode cX6_square 121 = .ok (.ireturn, 1) := by decide +kernel
set_option maxRecDepth 20000 in
theorem ggX6_count_X6_checkRange : GoodIn wsX6_count wsX6_checkRange := goodIn_ca (goodIn_r _ [5, 6, 7] (by decide +kernel) (by decide +kernel)) (goodIn_sub (fun _ h => List.mem_cons_of_mem _ (List.mem_append_right _ h)) (by decide +kernel))
set_option maxRecDepth 20000 in
theorem gX6_count_X6_checkRange : GoodIn wsX6_count (va_wsS RX6 121 yX6_checkRange wsX6_checkRange) := goodIn_app (goodIn_of _ (by decide +kernel)) ggX6_count_X6_checkRange
set_option maxRecDepth 20000 in
theorem ggX6_count_X5_squares : GoodIn wsX6_count wsX5_squares := goodIn_r _ [12, 13, 56, 57, 58, 59, 60, 61, 62, 63, 64] (by decide +kernel) (by decide +kernel)
set_option maxRecDepth 20000 in
theorem gX6_count_X5_squares : GoodIn wsX6_count (wsV RX6 125 RX5 yX5_squares wsX5_squares) := goodIn_app (goodIn_of _ (by decide +kernel)) ggX6_count_X5_squares
set_option maxRecDepth 20000 in
theorem ggX6_count_X5_groups : GoodIn wsX6_count wsX5_groups := goodIn_r _ [17, 13, 18, 19, 20, 11, 21, 22, 23, 24, 25, 26, 27, 28, 29, 30, 31, 32, 33, 34, 4, 35, 36, 37, 38, 39, 40, 41, 42, 43, 44, 45, 46, 47, 48, 49, 50, 56, 57, 58, 59, 60, 61, 62, 63, 64] (by decide +kernel) (by decide +kernel)
set_option maxRecDepth 20000 in
theorem gX6_count_X5_groups : GoodIn wsX6_count (wsV RX6 163 RX5 yX5_groups wsX5_groups) := goodIn_app (goodIn_of _ (by decide +kernel)) ggX6_count_X5_groups
theorem dX6_count_0 : decode cX6_count 0 = .ok (.iload_n 1, 1) := by decide +kernel
theorem dX6_count_1 : decode cX6_count 1 = .ok (.iconst 0, 1) := by decide +kernel
theorem dX6_count_2 : decode cX6_count 2 = .ok (.iconst 4, 1) := by decide +kernel
theorem dX6_count_3 : decode cX6_count 3 = .ok (.invokestatic 121, 3) := by decide +kernel
theorem dX6_count_6 : decode cX6_count 6 = .ok (.iload_n 1, 1) := by decide +kernel
theorem dX6_count_7 : decode cX6_count 7 = .ok (.ifCond .ne 13, 3) := by decide +kernel
theorem dX6_count_10 : decode cX6_count 10 = .ok (.aload_n 0, 1) := by decide +kernel
theorem dX6_count_11 : decode cX6_count 11 = .ok (.getfield 26, 3) := by decide +kernel
theorem dX6_count_14 : decode cX6_count 14 = .ok (.invokevirtual 125, 3) := by decide +kernel
theorem dX6_count_17 : decode cX6_count 17 = .ok (.goto 11, 3) := by decide +kernel
theorem dX6_count_20 : decode cX6_count 20 = .ok (.aload_n 0, 1) := by decide +kernel
theorem dX6_count_21 : decode cX6_count 21 = .ok (.getfield 26, 3) := by decide +kernel
theorem dX6_count_24 : decode cX6_count 24 = .ok (.iload_n 1, 1) := by decide +kernel
theorem dX6_count_25 : decode cX6_count 25 = .ok (.invokevirtual 163, 3) := by decide +kernel
theorem dX6_count_28 : decode cX6_count 28 = .ok (.ireturn, 1) := by decide +kernel
set_option maxRecDepth 20000 in
theorem ggX6_genus_X5_groups : GoodIn wsX6_genus wsX5_groups := goodIn_r _ [8, 9, 10, 11, 12, 7, 13, 14, 15, 16, 17, 18, 19, 20, 21, 22, 23, 24, 25, 26, 27, 28, 29, 30, 31, 32, 33, 34, 35, 36, 37, 38, 39, 40, 41, 42, 43, 53, 54, 55, 56, 57, 58, 59, 60, 61] (by decide +kernel) (by decide +kernel)
set_option maxRecDepth 20000 in
theorem gX6_genus_X5_groups : GoodIn wsX6_genus (wsV RX6 163 RX5 yX5_groups wsX5_groups) := goodIn_app (goodIn_of _ (by decide +kernel)) ggX6_genus_X5_groups
set_option maxRecDepth 20000 in
theorem ggX6_genus_X5_squares : GoodIn wsX6_genus wsX5_squares := goodIn_r _ [47, 9, 53, 54, 55, 56, 57, 58, 59, 60, 61] (by decide +kernel) (by decide +kernel)
set_option maxRecDepth 20000 in
theorem gX6_genus_X5_squares : GoodIn wsX6_genus (wsV RX6 125 RX5 yX5_squares wsX5_squares) := goodIn_app (goodIn_of _ (by decide +kernel)) ggX6_genus_X5_squares
theorem dX6_genus_0 : decode cX6_genus 0 = .ok (.aload_n 0, 1) := by decide +kernel
theorem dX6_genus_1 : decode cX6_genus 1 = .ok (.getfield 26, 3) := by decide +kernel
theorem dX6_genus_4 : decode cX6_genus 4 = .ok (.iconst 2, 1) := by decide +kernel
theorem dX6_genus_5 : decode cX6_genus 5 = .ok (.invokevirtual 163, 3) := by decide +kernel
theorem dX6_genus_8 : decode cX6_genus 8 = .ok (.iconst 1, 1) := by decide +kernel
theorem dX6_genus_9 : decode cX6_genus 9 = .ok (.if_icmp .le 13, 3) := by decide +kernel
theorem dX6_genus_12 : decode cX6_genus 12 = .ok (.new 97, 3) := by decide +kernel
theorem dX6_genus_15 : decode cX6_genus 15 = .ok (.dup, 1) := by decide +kernel
theorem dX6_genus_16 : decode cX6_genus 16 = .ok (.ldc 166, 2) := by decide +kernel
theorem dX6_genus_18 : decode cX6_genus 18 = .ok (.invokespecial 101, 3) := by decide +kernel
theorem dX6_genus_21 : decode cX6_genus 21 = .ok (.athrow, 1) := by decide +kernel
theorem dX6_genus_22 : decode cX6_genus 22 = .ok (.iconst 1, 1) := by decide +kernel
theorem dX6_genus_23 : decode cX6_genus 23 = .ok (.aload_n 0, 1) := by decide +kernel
theorem dX6_genus_24 : decode cX6_genus 24 = .ok (.getfield 26, 3) := by decide +kernel
theorem dX6_genus_27 : decode cX6_genus 27 = .ok (.invokevirtual 125, 3) := by decide +kernel
theorem dX6_genus_30 : decode cX6_genus 30 = .ok (.aload_n 0, 1) := by decide +kernel
theorem dX6_genus_31 : decode cX6_genus 31 = .ok (.getfield 26, 3) := by decide +kernel
theorem dX6_genus_34 : decode cX6_genus 34 = .ok (.iconst 1, 1) := by decide +kernel
theorem dX6_genus_35 : decode cX6_genus 35 = .ok (.invokevirtual 163, 3) := by decide +kernel
theorem dX6_genus_38 : decode cX6_genus 38 = .ok (.isub, 1) := by decide +kernel
theorem dX6_genus_39 : decode cX6_genus 39 = .ok (.iconst 2, 1) := by decide +kernel
theorem dX6_genus_40 : decode cX6_genus 40 = .ok (.idiv, 1) := by decide +kernel
theorem dX6_genus_41 : decode cX6_genus 41 = .ok (.iadd, 1) := by decide +kernel
theorem dX6_genus_42 : decode cX6_genus 42 = .ok (.ireturn, 1) := by decide +kernel
set_option maxRecDepth 20000 in
theorem ggX6_code_X5_leastCode : GoodIn wsX6_code wsX5_leastCode := goodIn_r _ [6, 7, 8, 9, 10, 11, 12, 13, 14, 15, 16, 17, 18, 5, 19, 20, 21, 22, 23, 24, 25, 26, 27, 28, 29, 30, 31, 32, 33, 34, 35, 36, 37, 38, 39, 40, 41, 42, 43, 44, 45, 51, 52, 53, 54, 55, 56, 57, 58, 59] (by decide +kernel) (by decide +kernel)
set_option maxRecDepth 20000 in
theorem gX6_code_X5_leastCode : GoodIn wsX6_code (wsV RX6 142 RX5 yX5_leastCode wsX5_leastCode) := goodIn_app (goodIn_of _ (by decide +kernel)) ggX6_code_X5_leastCode
theorem dX6_code_0 : decode cX6_code 0 = .ok (.aload_n 0, 1) := by decide +kernel
theorem dX6_code_1 : decode cX6_code 1 = .ok (.getfield 26, 3) := by decide +kernel
theorem dX6_code_4 : decode cX6_code 4 = .ok (.invokevirtual 142, 3) := by decide +kernel
theorem dX6_code_7 : decode cX6_code 7 = .ok (.ireturn, 1) := by decide +kernel
set_option maxRecDepth 20000 in
theorem ggX6_kin_X5_leastCode : GoodIn wsX6_kin wsX5_leastCode := goodIn_r _ [7, 8, 9, 10, 11, 12, 13, 14, 15, 16, 17, 18, 19, 6, 20, 21, 22, 23, 24, 25, 26, 27, 28, 29, 30, 31, 32, 33, 34, 35, 36, 37, 38, 39, 40, 41, 42, 43, 44, 45, 46, 92, 93, 94, 95, 96, 97, 98, 99, 100] (by decide +kernel) (by decide +kernel)
set_option maxRecDepth 20000 in
theorem gX6_kin_X5_leastCode : GoodIn wsX6_kin (wsV RX6 142 RX5 yX5_leastCode wsX5_leastCode) := goodIn_app (goodIn_of _ (by decide +kernel)) ggX6_kin_X5_leastCode
set_option maxRecDepth 20000 in
theorem ggX6_kin_X5_squares : GoodIn wsX6_kin wsX5_squares := goodIn_r _ [50, 9, 92, 93, 94, 95, 96, 97, 98, 99, 100] (by decide +kernel) (by decide +kernel)
set_option maxRecDepth 20000 in
theorem gX6_kin_X5_squares : GoodIn wsX6_kin (wsV RX6 125 RX5 yX5_squares wsX5_squares) := goodIn_app (goodIn_of _ (by decide +kernel)) ggX6_kin_X5_squares
set_option maxRecDepth 20000 in
theorem ggX6_kin_X1_codesFrom : GoodIn wsX6_kin wsX1_codesFrom := goodIn_r _ [55, 56, 57, 58, 59, 60, 61, 54, 62, 35, 33, 36, 32, 34, 63, 64, 65, 6, 66, 9, 46, 41, 67, 68, 69, 70, 71, 72, 37, 38, 39, 40, 42, 43, 44, 45, 73, 74, 75, 76, 77, 78, 4, 5, 7, 8, 10, 11, 12, 13, 14, 15, 16, 17, 18, 19, 20, 21, 22, 23, 24, 25, 26, 27, 28, 29, 30, 31, 79, 80, 81, 82, 83, 84, 85, 86, 101, 102, 103, 92, 93, 94, 95, 96, 97, 98, 99, 100] (by decide +kernel) (by decide +kernel)
set_option maxRecDepth 20000 in
theorem gX6_kin_X1_codesFrom : GoodIn wsX6_kin (wsV RX6 168 RX1 yX1_codesFrom wsX1_codesFrom) := goodIn_app (goodIn_of _ (by decide +kernel)) ggX6_kin_X1_codesFrom
theorem dX6_kin_0 : decode cX6_kin 0 = .ok (.aload_n 0, 1) := by decide +kernel
theorem dX6_kin_1 : decode cX6_kin 1 = .ok (.getfield 33, 3) := by decide +kernel
theorem dX6_kin_4 : decode cX6_kin 4 = .ok (.aload_n 0, 1) := by decide +kernel
theorem dX6_kin_5 : decode cX6_kin 5 = .ok (.getfield 26, 3) := by decide +kernel
theorem dX6_kin_8 : decode cX6_kin 8 = .ok (.invokevirtual 142, 3) := by decide +kernel
theorem dX6_kin_11 : decode cX6_kin 11 = .ok (.aload_n 0, 1) := by decide +kernel
theorem dX6_kin_12 : decode cX6_kin 12 = .ok (.getfield 26, 3) := by decide +kernel
theorem dX6_kin_15 : decode cX6_kin 15 = .ok (.invokevirtual 125, 3) := by decide +kernel
theorem dX6_kin_18 : decode cX6_kin 18 = .ok (.invokevirtual 168, 3) := by decide +kernel
theorem dX6_kin_21 : decode cX6_kin 21 = .ok (.ireturn, 1) := by decide +kernel
set_option maxRecDepth 20000 in
theorem ggX6_interval_X6_checkRange : GoodIn wsX6_interval wsX6_checkRange := goodIn_ca (goodIn_r _ [7, 8, 9] (by decide +kernel) (by decide +kernel)) (goodIn_sub (fun _ h => List.mem_cons_of_mem _ (List.mem_append_right _ h)) (by decide +kernel))
set_option maxRecDepth 20000 in
theorem gX6_interval_X6_checkRange : GoodIn wsX6_interval (va_wsS RX6 121 yX6_checkRange wsX6_checkRange) := goodIn_app (goodIn_of _ (by decide +kernel)) ggX6_interval_X6_checkRange
set_option maxRecDepth 20000 in
theorem ggX6_interval_X0_isFull : GoodIn wsX6_interval wsX0_isFull := goodIn_r _ [14, 15, 30, 31, 32, 33, 34] (by decide +kernel) (by decide +kernel)
set_option maxRecDepth 20000 in
theorem gX6_interval_X0_isFull : GoodIn wsX6_interval (wsV RX6 171 RX0 yX0_isFull wsX0_isFull) := goodIn_app (goodIn_of _ (by decide +kernel)) ggX6_interval_X0_isFull
set_option maxRecDepth 20000 in
theorem ggX6_interval_X0_add : GoodIn wsX6_interval wsX0_add := goodIn_r _ [19, 15, 20, 21, 22, 23, 6, 24, 30, 31, 32, 33, 34] (by decide +kernel) (by decide +kernel)
set_option maxRecDepth 20000 in
theorem gX6_interval_X0_add : GoodIn wsX6_interval (wsV RX6 176 RX0 yX0_add wsX0_add) := goodIn_app (goodIn_of _ (by decide +kernel)) ggX6_interval_X0_add
theorem dX6_interval_0 : decode cX6_interval 0 = .ok (.iload_n 1, 1) := by decide +kernel
theorem dX6_interval_1 : decode cX6_interval 1 = .ok (.iconst 1, 1) := by decide +kernel
theorem dX6_interval_2 : decode cX6_interval 2 = .ok (.bipush 50, 2) := by decide +kernel
theorem dX6_interval_4 : decode cX6_interval 4 = .ok (.invokestatic 121, 3) := by decide +kernel
theorem dX6_interval_7 : decode cX6_interval 7 = .ok (.aload_n 0, 1) := by decide +kernel
theorem dX6_interval_8 : decode cX6_interval 8 = .ok (.getfield 40, 3) := by decide +kernel
theorem dX6_interval_11 : decode cX6_interval 11 = .ok (.invokevirtual 171, 3) := by decide +kernel
theorem dX6_interval_14 : decode cX6_interval 14 = .ok (.ifCond .eq 13, 3) := by decide +kernel
theorem dX6_interval_17 : decode cX6_interval 17 = .ok (.new 97, 3) := by decide +kernel
theorem dX6_interval_20 : decode cX6_interval 20 = .ok (.dup, 1) := by decide +kernel
theorem dX6_interval_21 : decode cX6_interval 21 = .ok (.ldc 174, 2) := by decide +kernel
theorem dX6_interval_23 : decode cX6_interval 23 = .ok (.invokespecial 101, 3) := by decide +kernel
theorem dX6_interval_26 : decode cX6_interval 26 = .ok (.athrow, 1) := by decide +kernel
theorem dX6_interval_27 : decode cX6_interval 27 = .ok (.aload_n 0, 1) := by decide +kernel
theorem dX6_interval_28 : decode cX6_interval 28 = .ok (.getfield 40, 3) := by decide +kernel
theorem dX6_interval_31 : decode cX6_interval 31 = .ok (.iload_n 1, 1) := by decide +kernel
theorem dX6_interval_32 : decode cX6_interval 32 = .ok (.invokevirtual 176, 3) := by decide +kernel
theorem dX6_interval_35 : decode cX6_interval 35 = .ok (.ireturn, 1) := by decide +kernel
set_option maxRecDepth 20000 in
theorem ggX6_swap_X0_intervals : GoodIn wsX6_swap wsX0_intervals := goodIn_r _ [6, 7, 32, 33, 34, 35, 36] (by decide +kernel) (by decide +kernel)
set_option maxRecDepth 20000 in
theorem gX6_swap_X0_intervals : GoodIn wsX6_swap (wsV RX6 178 RX0 yX0_intervals wsX0_intervals) := goodIn_app (goodIn_of _ (by decide +kernel)) ggX6_swap_X0_intervals
set_option maxRecDepth 20000 in
theorem ggX6_swap_X6_checkPlace : GoodIn wsX6_swap wsX6_checkPlace := goodIn_ca (goodIn_r _ [11, 12, 13] (by decide +kernel) (by decide +kernel)) (goodIn_sub (fun _ h => List.mem_cons_of_mem _ (List.mem_append_right _ h)) (by decide +kernel))
set_option maxRecDepth 20000 in
theorem gX6_swap_X6_checkPlace : GoodIn wsX6_swap (va_wsS RX6 132 yX6_checkPlace wsX6_checkPlace) := goodIn_app (goodIn_of _ (by decide +kernel)) ggX6_swap_X6_checkPlace
set_option maxRecDepth 20000 in
theorem ggX6_swap_X0_swapBelow : GoodIn wsX6_swap wsX0_swapBelow := goodIn_r _ [17, 18, 19, 10, 20, 21, 22, 23, 24, 25, 26, 32, 33, 34, 35, 36] (by decide +kernel) (by decide +kernel)
set_option maxRecDepth 20000 in
theorem gX6_swap_X0_swapBelow : GoodIn wsX6_swap (wsV RX6 181 RX0 yX0_swapBelow wsX0_swapBelow) := goodIn_app (goodIn_of _ (by decide +kernel)) ggX6_swap_X0_swapBelow
theorem dX6_swap_0 : decode cX6_swap 0 = .ok (.iload_n 1, 1) := by decide +kernel
theorem dX6_swap_1 : decode cX6_swap 1 = .ok (.aload_n 0, 1) := by decide +kernel
theorem dX6_swap_2 : decode cX6_swap 2 = .ok (.getfield 40, 3) := by decide +kernel
theorem dX6_swap_5 : decode cX6_swap 5 = .ok (.invokevirtual 178, 3) := by decide +kernel
theorem dX6_swap_8 : decode cX6_swap 8 = .ok (.invokestatic 132, 3) := by decide +kernel
theorem dX6_swap_11 : decode cX6_swap 11 = .ok (.iload_n 2, 1) := by decide +kernel
theorem dX6_swap_12 : decode cX6_swap 12 = .ok (.aload_n 0, 1) := by decide +kernel
theorem dX6_swap_13 : decode cX6_swap 13 = .ok (.getfield 40, 3) := by decide +kernel
theorem dX6_swap_16 : decode cX6_swap 16 = .ok (.invokevirtual 178, 3) := by decide +kernel
theorem dX6_swap_19 : decode cX6_swap 19 = .ok (.invokestatic 132, 3) := by decide +kernel
theorem dX6_swap_22 : decode cX6_swap 22 = .ok (.aload_n 0, 1) := by decide +kernel
theorem dX6_swap_23 : decode cX6_swap 23 = .ok (.getfield 40, 3) := by decide +kernel
theorem dX6_swap_26 : decode cX6_swap 26 = .ok (.iload_n 1, 1) := by decide +kernel
theorem dX6_swap_27 : decode cX6_swap 27 = .ok (.iload_n 2, 1) := by decide +kernel
theorem dX6_swap_28 : decode cX6_swap 28 = .ok (.invokevirtual 181, 3) := by decide +kernel
theorem dX6_swap_31 : decode cX6_swap 31 = .ok (.ireturn, 1) := by decide +kernel
set_option maxRecDepth 20000 in
theorem ggX6_induce_X0_canInduce : GoodIn wsX6_induce wsX0_canInduce := goodIn_r _ [8, 9, 10, 11, 12, 13, 14, 15, 38, 39, 40, 41, 42] (by decide +kernel) (by decide +kernel)
set_option maxRecDepth 20000 in
theorem gX6_induce_X0_canInduce : GoodIn wsX6_induce (wsV RX6 184 RX0 yX0_canInduce wsX0_canInduce) := goodIn_app (goodIn_of _ (by decide +kernel)) ggX6_induce_X0_canInduce
set_option maxRecDepth 20000 in
theorem ggX6_induce_X0_induceOnce : GoodIn wsX6_induce wsX0_induceOnce := goodIn_r _ [19, 9, 10, 11, 12, 13, 14, 15, 20, 21, 22, 23, 24, 7, 25, 26, 27, 28, 38, 39, 40, 41, 42] (by decide +kernel) (by decide +kernel)
set_option maxRecDepth 20000 in
theorem gX6_induce_X0_induceOnce : GoodIn wsX6_induce (wsV RX6 189 RX0 yX0_induceOnce wsX0_induceOnce) := goodIn_app (goodIn_of _ (by decide +kernel)) ggX6_induce_X0_induceOnce
set_option maxRecDepth 20000 in
theorem ggX6_induce_X0_points : GoodIn wsX6_induce wsX0_points := goodIn_r _ [32, 10, 12, 13, 14, 15, 38, 39, 40, 41, 42] (by decide +kernel) (by decide +kernel)
set_option maxRecDepth 20000 in
theorem gX6_induce_X0_points : GoodIn wsX6_induce (wsV RX6 192 RX0 yX0_points wsX0_points) := goodIn_app (goodIn_of _ (by decide +kernel)) ggX6_induce_X0_points
theorem dX6_induce_0 : decode cX6_induce 0 = .ok (.aload_n 0, 1) := by decide +kernel
theorem dX6_induce_1 : decode cX6_induce 1 = .ok (.getfield 40, 3) := by decide +kernel
theorem dX6_induce_4 : decode cX6_induce 4 = .ok (.invokevirtual 184, 3) := by decide +kernel
theorem dX6_induce_7 : decode cX6_induce 7 = .ok (.ifCond .ne 13, 3) := by decide +kernel
theorem dX6_induce_10 : decode cX6_induce 10 = .ok (.new 97, 3) := by decide +kernel
theorem dX6_induce_13 : decode cX6_induce 13 = .ok (.dup, 1) := by decide +kernel
theorem dX6_induce_14 : decode cX6_induce 14 = .ok (.ldc 187, 2) := by decide +kernel
theorem dX6_induce_16 : decode cX6_induce 16 = .ok (.invokespecial 101, 3) := by decide +kernel
theorem dX6_induce_19 : decode cX6_induce 19 = .ok (.athrow, 1) := by decide +kernel
theorem dX6_induce_20 : decode cX6_induce 20 = .ok (.aload_n 0, 1) := by decide +kernel
theorem dX6_induce_21 : decode cX6_induce 21 = .ok (.getfield 40, 3) := by decide +kernel
theorem dX6_induce_24 : decode cX6_induce 24 = .ok (.invokevirtual 189, 3) := by decide +kernel
theorem dX6_induce_27 : decode cX6_induce 27 = .ok (.aload_n 0, 1) := by decide +kernel
theorem dX6_induce_28 : decode cX6_induce 28 = .ok (.getfield 40, 3) := by decide +kernel
theorem dX6_induce_31 : decode cX6_induce 31 = .ok (.invokevirtual 192, 3) := by decide +kernel
theorem dX6_induce_34 : decode cX6_induce 34 = .ok (.ireturn, 1) := by decide +kernel
set_option maxRecDepth 20000 in
theorem ggX6_told_X0_intervals : GoodIn wsX6_told wsX0_intervals := goodIn_r _ [6, 7, 41, 42, 43, 44, 45] (by decide +kernel) (by decide +kernel)
set_option maxRecDepth 20000 in
theorem gX6_told_X0_intervals : GoodIn wsX6_told (wsV RX6 178 RX0 yX0_intervals wsX0_intervals) := goodIn_app (goodIn_of _ (by decide +kernel)) ggX6_told_X0_intervals
set_option maxRecDepth 20000 in
theorem ggX6_told_X6_checkPlace : GoodIn wsX6_told wsX6_checkPlace := goodIn_ca (goodIn_r _ [11, 12, 13] (by decide +kernel) (by decide +kernel)) (goodIn_sub (fun _ h => List.mem_cons_of_mem _ (List.mem_append_left _ (List.mem_append_right _ h))) (by decide +kernel))
set_option maxRecDepth 20000 in
theorem gX6_told_X6_checkPlace : GoodIn wsX6_told (va_wsS RX6 132 yX6_checkPlace wsX6_checkPlace) := goodIn_app (goodIn_of _ (by decide +kernel)) ggX6_told_X6_checkPlace
set_option maxRecDepth 20000 in
theorem ggX6_told_X6_checkRange : GoodIn wsX6_told wsX6_checkRange := goodIn_ca (goodIn_r _ [16, 17, 18] (by decide +kernel) (by decide +kernel)) (goodIn_sub (fun _ h => List.mem_cons_of_mem _ (List.mem_append_right _ h)) (by decide +kernel))
set_option maxRecDepth 20000 in
theorem gX6_told_X6_checkRange : GoodIn wsX6_told (va_wsS RX6 121 yX6_checkRange wsX6_checkRange) := goodIn_app (goodIn_of _ (by decide +kernel)) ggX6_told_X6_checkRange
set_option maxRecDepth 20000 in
theorem ggX6_told_X0_aboveAt : GoodIn wsX6_told wsX0_aboveAt := goodIn_r _ [22, 23, 24, 10, 25, 41, 42, 43, 44, 45] (by decide +kernel) (by decide +kernel)
set_option maxRecDepth 20000 in
theorem gX6_told_X0_aboveAt : GoodIn wsX6_told (wsV RX6 195 RX0 yX0_aboveAt wsX0_aboveAt) := goodIn_app (goodIn_of _ (by decide +kernel)) ggX6_told_X0_aboveAt
set_option maxRecDepth 20000 in
theorem ggX6_told_X0_belowAt : GoodIn wsX6_told wsX0_belowAt := goodIn_r _ [29, 30, 24, 10, 25, 41, 42, 43, 44, 45] (by decide +kernel) (by decide +kernel)
set_option maxRecDepth 20000 in
theorem gX6_told_X0_belowAt : GoodIn wsX6_told (wsV RX6 198 RX0 yX0_belowAt wsX0_belowAt) := goodIn_app (goodIn_of _ (by decide +kernel)) ggX6_told_X0_belowAt
set_option maxRecDepth 20000 in
theorem ggX6_told_X0_lengthAt : GoodIn wsX6_told wsX0_lengthAt := goodIn_r _ [34, 35, 23, 24, 10, 25, 41, 42, 43, 44, 45] (by decide +kernel) (by decide +kernel)
set_option maxRecDepth 20000 in
theorem gX6_told_X0_lengthAt : GoodIn wsX6_told (wsV RX6 201 RX0 yX0_lengthAt wsX0_lengthAt) := goodIn_app (goodIn_of _ (by decide +kernel)) ggX6_told_X0_lengthAt
theorem dX6_told_0 : decode cX6_told 0 = .ok (.iload_n 1, 1) := by decide +kernel
theorem dX6_told_1 : decode cX6_told 1 = .ok (.aload_n 0, 1) := by decide +kernel
theorem dX6_told_2 : decode cX6_told 2 = .ok (.getfield 40, 3) := by decide +kernel
theorem dX6_told_5 : decode cX6_told 5 = .ok (.invokevirtual 178, 3) := by decide +kernel
theorem dX6_told_8 : decode cX6_told 8 = .ok (.invokestatic 132, 3) := by decide +kernel
theorem dX6_told_11 : decode cX6_told 11 = .ok (.iload_n 2, 1) := by decide +kernel
theorem dX6_told_12 : decode cX6_told 12 = .ok (.iconst 0, 1) := by decide +kernel
theorem dX6_told_13 : decode cX6_told 13 = .ok (.iconst 2, 1) := by decide +kernel
theorem dX6_told_14 : decode cX6_told 14 = .ok (.invokestatic 121, 3) := by decide +kernel
theorem dX6_told_17 : decode cX6_told 17 = .ok (.iload_n 2, 1) := by decide +kernel
theorem dX6_told_18 : decode cX6_told 18 = .ok (.lookupswitch 44 #[(0, 26), (1, 35)], 26) := by decide +kernel
theorem dX6_told_44 : decode cX6_told 44 = .ok (.aload_n 0, 1) := by decide +kernel
theorem dX6_told_45 : decode cX6_told 45 = .ok (.getfield 40, 3) := by decide +kernel
theorem dX6_told_48 : decode cX6_told 48 = .ok (.iload_n 1, 1) := by decide +kernel
theorem dX6_told_49 : decode cX6_told 49 = .ok (.invokevirtual 195, 3) := by decide +kernel
theorem dX6_told_52 : decode cX6_told 52 = .ok (.ireturn, 1) := by decide +kernel
theorem dX6_told_53 : decode cX6_told 53 = .ok (.aload_n 0, 1) := by decide +kernel
theorem dX6_told_54 : decode cX6_told 54 = .ok (.getfield 40, 3) := by decide +kernel
theorem dX6_told_57 : decode cX6_told 57 = .ok (.iload_n 1, 1) := by decide +kernel
theorem dX6_told_58 : decode cX6_told 58 = .ok (.invokevirtual 198, 3) := by decide +kernel
theorem dX6_told_61 : decode cX6_told 61 = .ok (.ireturn, 1) := by decide +kernel
theorem dX6_told_62 : decode cX6_told 62 = .ok (.aload_n 0, 1) := by decide +kernel
theorem dX6_told_63 : decode cX6_told 63 = .ok (.getfield 40, 3) := by decide +kernel
theorem dX6_told_66 : decode cX6_told 66 = .ok (.iload_n 1, 1) := by decide +kernel
theorem dX6_told_67 : decode cX6_told 67 = .ok (.invokevirtual 201, 3) := by decide +kernel
theorem dX6_told_70 : decode cX6_told 70 = .ok (.ireturn, 1) := by decide +kernel
set_option maxRecDepth 20000 in
theorem ggX6_image_X0_points : GoodIn wsX6_image wsX0_points := goodIn_r _ [6, 7, 8, 9, 10, 11, 36, 37, 38, 39, 40] (by decide +kernel) (by decide +kernel)
set_option maxRecDepth 20000 in
theorem gX6_image_X0_points : GoodIn wsX6_image (wsV RX6 192 RX0 yX0_points wsX0_points) := goodIn_app (goodIn_of _ (by decide +kernel)) ggX6_image_X0_points
set_option maxRecDepth 20000 in
theorem ggX6_image_X6_checkPlace : GoodIn wsX6_image wsX6_checkPlace := goodIn_ca (goodIn_r _ [14, 15, 16] (by decide +kernel) (by decide +kernel)) (goodIn_sub (fun _ h => List.mem_cons_of_mem _ (List.mem_append_right _ h)) (by decide +kernel))
set_option maxRecDepth 20000 in
theorem gX6_image_X6_checkPlace : GoodIn wsX6_image (va_wsS RX6 132 yX6_checkPlace wsX6_checkPlace) := goodIn_app (goodIn_of _ (by decide +kernel)) ggX6_image_X6_checkPlace
set_option maxRecDepth 20000 in
theorem ggX6_image_X0_imageOf : GoodIn wsX6_image wsX0_imageOf := goodIn_r _ [20, 21, 22, 23, 24, 25, 5, 26, 7, 8, 9, 10, 11, 27, 28, 29, 30, 36, 37, 38, 39, 40] (by decide +kernel) (by decide +kernel)
set_option maxRecDepth 20000 in
theorem gX6_image_X0_imageOf : GoodIn wsX6_image (wsV RX6 204 RX0 yX0_imageOf wsX0_imageOf) := goodIn_app (goodIn_of _ (by decide +kernel)) ggX6_image_X0_imageOf
theorem dX6_image_0 : decode cX6_image 0 = .ok (.iload_n 1, 1) := by decide +kernel
theorem dX6_image_1 : decode cX6_image 1 = .ok (.aload_n 0, 1) := by decide +kernel
theorem dX6_image_2 : decode cX6_image 2 = .ok (.getfield 40, 3) := by decide +kernel
theorem dX6_image_5 : decode cX6_image 5 = .ok (.invokevirtual 192, 3) := by decide +kernel
theorem dX6_image_8 : decode cX6_image 8 = .ok (.invokestatic 132, 3) := by decide +kernel
theorem dX6_image_11 : decode cX6_image 11 = .ok (.aload_n 0, 1) := by decide +kernel
theorem dX6_image_12 : decode cX6_image 12 = .ok (.getfield 40, 3) := by decide +kernel
theorem dX6_image_15 : decode cX6_image 15 = .ok (.iload_n 1, 1) := by decide +kernel
theorem dX6_image_16 : decode cX6_image 16 = .ok (.invokevirtual 204, 3) := by decide +kernel
theorem dX6_image_19 : decode cX6_image 19 = .ok (.ireturn, 1) := by decide +kernel
set_option maxRecDepth 20000 in
theorem ggX6_back_X0_points : GoodIn wsX6_back wsX0_points := goodIn_r _ [6, 7, 8, 9, 10, 11, 36, 37, 38, 39, 40] (by decide +kernel) (by decide +kernel)
set_option maxRecDepth 20000 in
theorem gX6_back_X0_points : GoodIn wsX6_back (wsV RX6 192 RX0 yX0_points wsX0_points) := goodIn_app (goodIn_of _ (by decide +kernel)) ggX6_back_X0_points
set_option maxRecDepth 20000 in
theorem ggX6_back_X6_checkPlace : GoodIn wsX6_back wsX6_checkPlace := goodIn_ca (goodIn_r _ [14, 15, 16] (by decide +kernel) (by decide +kernel)) (goodIn_sub (fun _ h => List.mem_cons_of_mem _ (List.mem_append_right _ h)) (by decide +kernel))
set_option maxRecDepth 20000 in
theorem gX6_back_X6_checkPlace : GoodIn wsX6_back (va_wsS RX6 132 yX6_checkPlace wsX6_checkPlace) := goodIn_app (goodIn_of _ (by decide +kernel)) ggX6_back_X6_checkPlace
set_option maxRecDepth 20000 in
theorem ggX6_back_X0_originOf : GoodIn wsX6_back wsX0_originOf := goodIn_r _ [20, 21, 22, 23, 24, 25, 5, 26, 7, 8, 9, 10, 11, 27, 28, 29, 30, 36, 37, 38, 39, 40] (by decide +kernel) (by decide +kernel)
set_option maxRecDepth 20000 in
theorem gX6_back_X0_originOf : GoodIn wsX6_back (wsV RX6 207 RX0 yX0_originOf wsX0_originOf) := goodIn_app (goodIn_of _ (by decide +kernel)) ggX6_back_X0_originOf
theorem dX6_back_0 : decode cX6_back 0 = .ok (.iload_n 1, 1) := by decide +kernel
theorem dX6_back_1 : decode cX6_back 1 = .ok (.aload_n 0, 1) := by decide +kernel
theorem dX6_back_2 : decode cX6_back 2 = .ok (.getfield 40, 3) := by decide +kernel
theorem dX6_back_5 : decode cX6_back 5 = .ok (.invokevirtual 192, 3) := by decide +kernel
theorem dX6_back_8 : decode cX6_back 8 = .ok (.invokestatic 132, 3) := by decide +kernel
theorem dX6_back_11 : decode cX6_back 11 = .ok (.aload_n 0, 1) := by decide +kernel
theorem dX6_back_12 : decode cX6_back 12 = .ok (.getfield 40, 3) := by decide +kernel
theorem dX6_back_15 : decode cX6_back 15 = .ok (.iload_n 1, 1) := by decide +kernel
theorem dX6_back_16 : decode cX6_back 16 = .ok (.invokevirtual 207, 3) := by decide +kernel
theorem dX6_back_19 : decode cX6_back 19 = .ok (.ireturn, 1) := by decide +kernel
set_option maxRecDepth 20000 in
theorem ggX6_cycle_X0_points : GoodIn wsX6_cycle wsX0_points := goodIn_r _ [6, 7, 8, 9, 10, 11, 40, 41, 42, 43, 44] (by decide +kernel) (by decide +kernel)
set_option maxRecDepth 20000 in
theorem gX6_cycle_X0_points : GoodIn wsX6_cycle (wsV RX6 192 RX0 yX0_points wsX0_points) := goodIn_app (goodIn_of _ (by decide +kernel)) ggX6_cycle_X0_points
set_option maxRecDepth 20000 in
theorem ggX6_cycle_X6_checkPlace : GoodIn wsX6_cycle wsX6_checkPlace := goodIn_ca (goodIn_r _ [14, 15, 16] (by decide +kernel) (by decide +kernel)) (goodIn_sub (fun _ h => List.mem_cons_of_mem _ (List.mem_append_right _ h)) (by decide +kernel))
set_option maxRecDepth 20000 in
theorem gX6_cycle_X6_checkPlace : GoodIn wsX6_cycle (va_wsS RX6 132 yX6_checkPlace wsX6_checkPlace) := goodIn_app (goodIn_of _ (by decide +kernel)) ggX6_cycle_X6_checkPlace
set_option maxRecDepth 20000 in
theorem ggX6_cycle_X0_imagesRound : GoodIn wsX6_cycle wsX0_imagesRound := goodIn_r _ [20, 21, 22, 23, 5, 24, 25, 26, 27, 28, 29, 30, 7, 8, 9, 10, 11, 31, 32, 33, 34, 40, 41, 42, 43, 44] (by decide +kernel) (by decide +kernel)
set_option maxRecDepth 20000 in
theorem gX6_cycle_X0_imagesRound : GoodIn wsX6_cycle (wsV RX6 210 RX0 yX0_imagesRound wsX0_imagesRound) := goodIn_app (goodIn_of _ (by decide +kernel)) ggX6_cycle_X0_imagesRound
theorem dX6_cycle_0 : decode cX6_cycle 0 = .ok (.iload_n 1, 1) := by decide +kernel
theorem dX6_cycle_1 : decode cX6_cycle 1 = .ok (.aload_n 0, 1) := by decide +kernel
theorem dX6_cycle_2 : decode cX6_cycle 2 = .ok (.getfield 40, 3) := by decide +kernel
theorem dX6_cycle_5 : decode cX6_cycle 5 = .ok (.invokevirtual 192, 3) := by decide +kernel
theorem dX6_cycle_8 : decode cX6_cycle 8 = .ok (.invokestatic 132, 3) := by decide +kernel
theorem dX6_cycle_11 : decode cX6_cycle 11 = .ok (.aload_n 0, 1) := by decide +kernel
theorem dX6_cycle_12 : decode cX6_cycle 12 = .ok (.getfield 40, 3) := by decide +kernel
theorem dX6_cycle_15 : decode cX6_cycle 15 = .ok (.iload_n 1, 1) := by decide +kernel
theorem dX6_cycle_16 : decode cX6_cycle 16 = .ok (.invokevirtual 210, 3) := by decide +kernel
theorem dX6_cycle_19 : decode cX6_cycle 19 = .ok (.ireturn, 1) := by decide +kernel
set_option maxRecDepth 20000 in
theorem ggX6_cycles_X0_cyclesInAll : GoodIn wsX6_cycles wsX0_cyclesInAll := goodIn_r _ [6, 7, 8, 9, 10, 11, 12, 13, 14, 15, 16, 5, 17, 18, 19, 20, 21, 22, 23, 24, 25, 26, 27, 28, 29, 30, 31, 32, 33, 34, 35, 36, 37, 38, 39, 40, 41, 42, 43, 44, 45, 46, 47, 48, 54, 55, 56, 57, 58, 59] (by decide +kernel) (by decide +kernel)
set_option maxRecDepth 20000 in
theorem gX6_cycles_X0_cyclesInAll : GoodIn wsX6_cycles (wsV RX6 213 RX0 yX0_cyclesInAll wsX0_cyclesInAll) := goodIn_app (goodIn_of _ (by decide +kernel)) ggX6_cycles_X0_cyclesInAll
theorem dX6_cycles_0 : decode cX6_cycles 0 = .ok (.aload_n 0, 1) := by decide +kernel
theorem dX6_cycles_1 : decode cX6_cycles 1 = .ok (.getfield 40, 3) := by decide +kernel
theorem dX6_cycles_4 : decode cX6_cycles 4 = .ok (.invokevirtual 213, 3) := by decide +kernel
theorem dX6_cycles_7 : decode cX6_cycles 7 = .ok (.ireturn, 1) := by decide +kernel
set_option maxRecDepth 20000 in
theorem ggX6_apart_X0_leastApart : GoodIn wsX6_apart wsX0_leastApart := goodIn_r _ [6, 7, 8, 9, 10, 11, 12, 18, 19, 20, 21, 22] (by decide +kernel) (by decide +kernel)
set_option maxRecDepth 20000 in
theorem gX6_apart_X0_leastApart : GoodIn wsX6_apart (wsV RX6 216 RX0 yX0_leastApart wsX0_leastApart) := goodIn_app (goodIn_of _ (by decide +kernel)) ggX6_apart_X0_leastApart
theorem dX6_apart_0 : decode cX6_apart 0 = .ok (.aload_n 0, 1) := by decide +kernel
theorem dX6_apart_1 : decode cX6_apart 1 = .ok (.getfield 40, 3) := by decide +kernel
theorem dX6_apart_4 : decode cX6_apart 4 = .ok (.invokevirtual 216, 3) := by decide +kernel
theorem dX6_apart_7 : decode cX6_apart 7 = .ok (.ireturn, 1) := by decide +kernel
theorem dX6_isCell_0 : decode cX6_isCell 0 = .ok (.iload_n 0, 1) := by decide +kernel
theorem dX6_isCell_1 : decode cX6_isCell 1 = .ok (.ifCond .lt 23, 3) := by decide +kernel
theorem dX6_isCell_4 : decode cX6_isCell 4 = .ok (.iload_n 0, 1) := by decide +kernel
theorem dX6_isCell_5 : decode cX6_isCell 5 = .ok (.bipush 8, 2) := by decide +kernel
theorem dX6_isCell_7 : decode cX6_isCell 7 = .ok (.if_icmp .ge 17, 3) := by decide +kernel
theorem dX6_isCell_10 : decode cX6_isCell 10 = .ok (.iload_n 1, 1) := by decide +kernel
theorem dX6_isCell_11 : decode cX6_isCell 11 = .ok (.ifCond .lt 13, 3) := by decide +kernel
theorem dX6_isCell_14 : decode cX6_isCell 14 = .ok (.iload_n 1, 1) := by decide +kernel
theorem dX6_isCell_15 : decode cX6_isCell 15 = .ok (.bipush 8, 2) := by decide +kernel
theorem dX6_isCell_17 : decode cX6_isCell 17 = .ok (.if_icmp .ge 7, 3) := by decide +kernel
theorem dX6_isCell_20 : decode cX6_isCell 20 = .ok (.iconst 1, 1) := by decide +kernel
theorem dX6_isCell_21 : decode cX6_isCell 21 = .ok (.goto 4, 3) := by decide +kernel
theorem dX6_isCell_24 : decode cX6_isCell 24 = .ok (.iconst 0, 1) := by decide +kernel
theorem dX6_isCell_25 : decode cX6_isCell 25 = .ok (.ireturn, 1) := by decide +kernel
set_option maxRecDepth 20000 in
theorem ggX6_checkCell_X6_isCell : GoodIn wsX6_checkCell wsX6_isCell := goodIn_r _ [6] (by decide +kernel) (by decide +kernel)
set_option maxRecDepth 20000 in
theorem gX6_checkCell_X6_isCell : GoodIn wsX6_checkCell (va_wsS RX6 219 yX6_isCell wsX6_isCell) := goodIn_app (goodIn_of _ (by decide +kernel)) ggX6_checkCell_X6_isCell
theorem dX6_checkCell_0 : decode cX6_checkCell 0 = .ok (.iload_n 0, 1) := by decide +kernel
theorem dX6_checkCell_1 : decode cX6_checkCell 1 = .ok (.iload_n 1, 1) := by decide +kernel
theorem dX6_checkCell_2 : decode cX6_checkCell 2 = .ok (.invokestatic 219, 3) := by decide +kernel
theorem dX6_checkCell_5 : decode cX6_checkCell 5 = .ok (.ifCond .ne 13, 3) := by decide +kernel
theorem dX6_checkCell_8 : decode cX6_checkCell 8 = .ok (.new 222, 3) := by decide +kernel
theorem dX6_checkCell_11 : decode cX6_checkCell 11 = .ok (.dup, 1) := by decide +kernel
theorem dX6_checkCell_12 : decode cX6_checkCell 12 = .ok (.ldc 224, 2) := by decide +kernel
theorem dX6_checkCell_14 : decode cX6_checkCell 14 = .ok (.invokespecial 226, 3) := by decide +kernel
theorem dX6_checkCell_17 : decode cX6_checkCell 17 = .ok (.athrow, 1) := by decide +kernel
theorem dX6_checkCell_18 : decode cX6_checkCell 18 = .ok (.return_, 1) := by decide +kernel
theorem dX6_checkPlace_0 : decode cX6_checkPlace 0 = .ok (.iload_n 0, 1) := by decide +kernel
theorem dX6_checkPlace_1 : decode cX6_checkPlace 1 = .ok (.ifCond .lt 8, 3) := by decide +kernel
theorem dX6_checkPlace_4 : decode cX6_checkPlace 4 = .ok (.iload_n 0, 1) := by decide +kernel
theorem dX6_checkPlace_5 : decode cX6_checkPlace 5 = .ok (.iload_n 1, 1) := by decide +kernel
theorem dX6_checkPlace_6 : decode cX6_checkPlace 6 = .ok (.if_icmp .lt 13, 3) := by decide +kernel
theorem dX6_checkPlace_9 : decode cX6_checkPlace 9 = .ok (.new 222, 3) := by decide +kernel
theorem dX6_checkPlace_12 : decode cX6_checkPlace 12 = .ok (.dup, 1) := by decide +kernel
theorem dX6_checkPlace_13 : decode cX6_checkPlace 13 = .ok (.ldc 227, 2) := by decide +kernel
theorem dX6_checkPlace_15 : decode cX6_checkPlace 15 = .ok (.invokespecial 226, 3) := by decide +kernel
theorem dX6_checkPlace_18 : decode cX6_checkPlace 18 = .ok (.athrow, 1) := by decide +kernel
theorem dX6_checkPlace_19 : decode cX6_checkPlace 19 = .ok (.return_, 1) := by decide +kernel
theorem dX6_checkRange_0 : decode cX6_checkRange 0 = .ok (.iload_n 0, 1) := by decide +kernel
theorem dX6_checkRange_1 : decode cX6_checkRange 1 = .ok (.iload_n 1, 1) := by decide +kernel
theorem dX6_checkRange_2 : decode cX6_checkRange 2 = .ok (.if_icmp .lt 8, 3) := by decide +kernel
theorem dX6_checkRange_5 : decode cX6_checkRange 5 = .ok (.iload_n 0, 1) := by decide +kernel
theorem dX6_checkRange_6 : decode cX6_checkRange 6 = .ok (.iload_n 2, 1) := by decide +kernel
theorem dX6_checkRange_7 : decode cX6_checkRange 7 = .ok (.if_icmp .le 13, 3) := by decide +kernel
theorem dX6_checkRange_10 : decode cX6_checkRange 10 = .ok (.new 229, 3) := by decide +kernel
theorem dX6_checkRange_13 : decode cX6_checkRange 13 = .ok (.dup, 1) := by decide +kernel
theorem dX6_checkRange_14 : decode cX6_checkRange 14 = .ok (.ldc 231, 2) := by decide +kernel
theorem dX6_checkRange_16 : decode cX6_checkRange 16 = .ok (.invokespecial 233, 3) := by decide +kernel
theorem dX6_checkRange_19 : decode cX6_checkRange 19 = .ok (.athrow, 1) := by decide +kernel
theorem dX6_checkRange_20 : decode cX6_checkRange 20 = .ok (.return_, 1) := by decide +kernel
set_option maxRecDepth 20000 in
theorem ggX6_checkShot_X6_checkCell : GoodIn wsX6_checkShot wsX6_checkCell := goodIn_ca (goodIn_r _ [7, 8, 9, 10, 11, 6, 12] (by decide +kernel) (by decide +kernel)) (goodIn_sub (fun _ h => List.mem_cons_of_mem _ (List.mem_append_left _ (List.mem_append_right _ h))) (by decide +kernel))
set_option maxRecDepth 20000 in
theorem gX6_checkShot_X6_checkCell : GoodIn wsX6_checkShot (va_wsS RX6 44 yX6_checkCell wsX6_checkCell) := goodIn_app (goodIn_of _ (by decide +kernel)) ggX6_checkShot_X6_checkCell
set_option maxRecDepth 20000 in
theorem ggX6_checkShot_X6_checkRange : GoodIn wsX6_checkShot wsX6_checkRange := goodIn_ca (goodIn_r _ [15, 16, 17] (by decide +kernel) (by decide +kernel)) (goodIn_sub (fun _ h => List.mem_cons_of_mem _ (List.mem_append_right _ h)) (by decide +kernel))
set_option maxRecDepth 20000 in
theorem gX6_checkShot_X6_checkRange : GoodIn wsX6_checkShot (va_wsS RX6 121 yX6_checkRange wsX6_checkRange) := goodIn_app (goodIn_of _ (by decide +kernel)) ggX6_checkShot_X6_checkRange
set_option maxRecDepth 20000 in
theorem ggX6_checkShot_X4_isBlock : GoodIn wsX6_checkShot wsX4_isBlock := goodIn_r _ [22, 23, 11, 6, 12, 29, 30] (by decide +kernel) (by decide +kernel)
set_option maxRecDepth 20000 in
theorem gX6_checkShot_X4_isBlock : GoodIn wsX6_checkShot (wsV RX6 48 RX4 yX4_isBlock wsX4_isBlock) := goodIn_app (goodIn_of _ (by decide +kernel)) ggX6_checkShot_X4_isBlock
theorem dX6_checkShot_0 : decode cX6_checkShot 0 = .ok (.iload_n 1, 1) := by decide +kernel
theorem dX6_checkShot_1 : decode cX6_checkShot 1 = .ok (.iload_n 2, 1) := by decide +kernel
theorem dX6_checkShot_2 : decode cX6_checkShot 2 = .ok (.invokestatic 44, 3) := by decide +kernel
theorem dX6_checkShot_5 : decode cX6_checkShot 5 = .ok (.iload_n 3, 1) := by decide +kernel
theorem dX6_checkShot_6 : decode cX6_checkShot 6 = .ok (.iconst 0, 1) := by decide +kernel
theorem dX6_checkShot_7 : decode cX6_checkShot 7 = .ok (.iconst 3, 1) := by decide +kernel
theorem dX6_checkShot_8 : decode cX6_checkShot 8 = .ok (.invokestatic 121, 3) := by decide +kernel
theorem dX6_checkShot_11 : decode cX6_checkShot 11 = .ok (.iload 4, 2) := by decide +kernel
theorem dX6_checkShot_13 : decode cX6_checkShot 13 = .ok (.iconst 0, 1) := by decide +kernel
theorem dX6_checkShot_14 : decode cX6_checkShot 14 = .ok (.iload 5, 2) := by decide +kernel
theorem dX6_checkShot_16 : decode cX6_checkShot 16 = .ok (.invokestatic 121, 3) := by decide +kernel
theorem dX6_checkShot_19 : decode cX6_checkShot 19 = .ok (.aload_n 0, 1) := by decide +kernel
theorem dX6_checkShot_20 : decode cX6_checkShot 20 = .ok (.getfield 10, 3) := by decide +kernel
theorem dX6_checkShot_23 : decode cX6_checkShot 23 = .ok (.iload_n 1, 1) := by decide +kernel
theorem dX6_checkShot_24 : decode cX6_checkShot 24 = .ok (.iload_n 2, 1) := by decide +kernel
theorem dX6_checkShot_25 : decode cX6_checkShot 25 = .ok (.invokevirtual 48, 3) := by decide +kernel
theorem dX6_checkShot_28 : decode cX6_checkShot 28 = .ok (.ifCond .eq 13, 3) := by decide +kernel
theorem dX6_checkShot_31 : decode cX6_checkShot 31 = .ok (.new 97, 3) := by decide +kernel
theorem dX6_checkShot_34 : decode cX6_checkShot 34 = .ok (.dup, 1) := by decide +kernel
theorem dX6_checkShot_35 : decode cX6_checkShot 35 = .ok (.ldc 234, 2) := by decide +kernel
theorem dX6_checkShot_37 : decode cX6_checkShot 37 = .ok (.invokespecial 101, 3) := by decide +kernel
theorem dX6_checkShot_40 : decode cX6_checkShot 40 = .ok (.athrow, 1) := by decide +kernel
theorem dX6_checkShot_41 : decode cX6_checkShot 41 = .ok (.return_, 1) := by decide +kernel
theorem dX6_at_0 : decode cX6_at 0 = .ok (.iload_n 1, 1) := by decide +kernel
theorem dX6_at_1 : decode cX6_at 1 = .ok (.ifCond .lt 15, 3) := by decide +kernel
theorem dX6_at_4 : decode cX6_at 4 = .ok (.iload_n 1, 1) := by decide +kernel
theorem dX6_at_5 : decode cX6_at 5 = .ok (.aload_n 0, 1) := by decide +kernel
theorem dX6_at_6 : decode cX6_at 6 = .ok (.arraylength, 1) := by decide +kernel
theorem dX6_at_7 : decode cX6_at 7 = .ok (.if_icmp .ge 9, 3) := by decide +kernel
theorem dX6_at_10 : decode cX6_at 10 = .ok (.aload_n 0, 1) := by decide +kernel
theorem dX6_at_11 : decode cX6_at 11 = .ok (.iload_n 1, 1) := by decide +kernel
theorem dX6_at_12 : decode cX6_at 12 = .ok (.iaload, 1) := by decide +kernel
theorem dX6_at_13 : decode cX6_at 13 = .ok (.goto 4, 3) := by decide +kernel
theorem dX6_at_16 : decode cX6_at 16 = .ok (.iconst 0, 1) := by decide +kernel
theorem dX6_at_17 : decode cX6_at 17 = .ok (.ireturn, 1) := by decide +kernel
theorem dX6_put_0 : decode cX6_put 0 = .ok (.iload_n 1, 1) := by decide +kernel
theorem dX6_put_1 : decode cX6_put 1 = .ok (.ifCond .lt 13, 3) := by decide +kernel
theorem dX6_put_4 : decode cX6_put 4 = .ok (.iload_n 1, 1) := by decide +kernel
theorem dX6_put_5 : decode cX6_put 5 = .ok (.aload_n 0, 1) := by decide +kernel
theorem dX6_put_6 : decode cX6_put 6 = .ok (.arraylength, 1) := by decide +kernel
theorem dX6_put_7 : decode cX6_put 7 = .ok (.if_icmp .ge 7, 3) := by decide +kernel
theorem dX6_put_10 : decode cX6_put 10 = .ok (.aload_n 0, 1) := by decide +kernel
theorem dX6_put_11 : decode cX6_put 11 = .ok (.iload_n 1, 1) := by decide +kernel
theorem dX6_put_12 : decode cX6_put 12 = .ok (.iload_n 2, 1) := by decide +kernel
theorem dX6_put_13 : decode cX6_put 13 = .ok (.iastore, 1) := by decide +kernel
theorem dX6_put_14 : decode cX6_put 14 = .ok (.return_, 1) := by decide +kernel
set_option maxRecDepth 20000 in
theorem ggX6_exchangeIn_X6_at : GoodIn wsX6_exchangeIn wsX6_at := goodIn_r _ [4] (by decide +kernel) (by decide +kernel)
set_option maxRecDepth 20000 in
theorem gX6_exchangeIn_X6_at : GoodIn wsX6_exchangeIn (va_wsS RX6 236 yX6_at wsX6_at) := goodIn_app (goodIn_of _ (by decide +kernel)) ggX6_exchangeIn_X6_at
set_option maxRecDepth 20000 in
theorem ggX6_exchangeIn_X6_put : GoodIn wsX6_exchangeIn wsX6_put := goodIn_r _ [7] (by decide +kernel) (by decide +kernel)
set_option maxRecDepth 20000 in
theorem gX6_exchangeIn_X6_put : GoodIn wsX6_exchangeIn (va_wsS RX6 240 yX6_put wsX6_put) := goodIn_app (goodIn_of _ (by decide +kernel)) ggX6_exchangeIn_X6_put
theorem dX6_exchangeIn_0 : decode cX6_exchangeIn 0 = .ok (.aload_n 0, 1) := by decide +kernel
theorem dX6_exchangeIn_1 : decode cX6_exchangeIn 1 = .ok (.iload_n 1, 1) := by decide +kernel
theorem dX6_exchangeIn_2 : decode cX6_exchangeIn 2 = .ok (.invokestatic 236, 3) := by decide +kernel
theorem dX6_exchangeIn_5 : decode cX6_exchangeIn 5 = .ok (.istore_n 3, 1) := by decide +kernel
theorem dX6_exchangeIn_6 : decode cX6_exchangeIn 6 = .ok (.aload_n 0, 1) := by decide +kernel
theorem dX6_exchangeIn_7 : decode cX6_exchangeIn 7 = .ok (.iload_n 1, 1) := by decide +kernel
theorem dX6_exchangeIn_8 : decode cX6_exchangeIn 8 = .ok (.aload_n 0, 1) := by decide +kernel
theorem dX6_exchangeIn_9 : decode cX6_exchangeIn 9 = .ok (.iload_n 2, 1) := by decide +kernel
theorem dX6_exchangeIn_10 : decode cX6_exchangeIn 10 = .ok (.invokestatic 236, 3) := by decide +kernel
theorem dX6_exchangeIn_13 : decode cX6_exchangeIn 13 = .ok (.invokestatic 240, 3) := by decide +kernel
theorem dX6_exchangeIn_16 : decode cX6_exchangeIn 16 = .ok (.aload_n 0, 1) := by decide +kernel
theorem dX6_exchangeIn_17 : decode cX6_exchangeIn 17 = .ok (.iload_n 2, 1) := by decide +kernel
theorem dX6_exchangeIn_18 : decode cX6_exchangeIn 18 = .ok (.iload_n 3, 1) := by decide +kernel
theorem dX6_exchangeIn_19 : decode cX6_exchangeIn 19 = .ok (.invokestatic 240, 3) := by decide +kernel
theorem dX6_exchangeIn_22 : decode cX6_exchangeIn 22 = .ok (.return_, 1) := by decide +kernel
set_option maxRecDepth 20000 in
theorem ggX6_placeOf_X6_at : GoodIn wsX6_placeOf wsX6_at := goodIn_r _ [4] (by decide +kernel) (by decide +kernel)
set_option maxRecDepth 20000 in
theorem gX6_placeOf_X6_at : GoodIn wsX6_placeOf (va_wsS RX6 236 yX6_at wsX6_at) := goodIn_app (goodIn_of _ (by decide +kernel)) ggX6_placeOf_X6_at
theorem dX6_placeOf_0 : decode cX6_placeOf 0 = .ok (.iconst 0, 1) := by decide +kernel
theorem dX6_placeOf_1 : decode cX6_placeOf 1 = .ok (.istore_n 3, 1) := by decide +kernel
theorem dX6_placeOf_2 : decode cX6_placeOf 2 = .ok (.iload_n 3, 1) := by decide +kernel
theorem dX6_placeOf_3 : decode cX6_placeOf 3 = .ok (.iload_n 1, 1) := by decide +kernel
theorem dX6_placeOf_4 : decode cX6_placeOf 4 = .ok (.if_icmp .ge 20, 3) := by decide +kernel
theorem dX6_placeOf_7 : decode cX6_placeOf 7 = .ok (.aload_n 0, 1) := by decide +kernel
theorem dX6_placeOf_8 : decode cX6_placeOf 8 = .ok (.iload_n 3, 1) := by decide +kernel
theorem dX6_placeOf_9 : decode cX6_placeOf 9 = .ok (.invokestatic 236, 3) := by decide +kernel
theorem dX6_placeOf_12 : decode cX6_placeOf 12 = .ok (.iload_n 2, 1) := by decide +kernel
theorem dX6_placeOf_13 : decode cX6_placeOf 13 = .ok (.if_icmp .ne 5, 3) := by decide +kernel
theorem dX6_placeOf_16 : decode cX6_placeOf 16 = .ok (.iload_n 3, 1) := by decide +kernel
theorem dX6_placeOf_17 : decode cX6_placeOf 17 = .ok (.ireturn, 1) := by decide +kernel
theorem dX6_placeOf_18 : decode cX6_placeOf 18 = .ok (.iinc 3 1, 3) := by decide +kernel
theorem dX6_placeOf_21 : decode cX6_placeOf 21 = .ok (.goto (-19), 3) := by decide +kernel
theorem dX6_placeOf_24 : decode cX6_placeOf 24 = .ok (.iconst 0, 1) := by decide +kernel
theorem dX6_placeOf_25 : decode cX6_placeOf 25 = .ok (.ireturn, 1) := by decide +kernel
theorem dX7_init_0 : decode cX7_init 0 = .ok (.aload_n 0, 1) := by decide +kernel
theorem dX7_init_1 : decode cX7_init 1 = .ok (.invokespecial 1, 3) := by decide +kernel
theorem dX7_init_4 : decode cX7_init 4 = .ok (.aload_n 0, 1) := by decide +kernel
theorem dX7_init_5 : decode cX7_init 5 = .ok (.bipush 64, 2) := by decide +kernel
theorem dX7_init_7 : decode cX7_init 7 = .ok (.newarray .boolean, 2) := by decide +kernel
theorem dX7_init_9 : decode cX7_init 9 = .ok (.putfield 7, 3) := by decide +kernel
theorem dX7_init_12 : decode cX7_init 12 = .ok (.aload_n 0, 1) := by decide +kernel
theorem dX7_init_13 : decode cX7_init 13 = .ok (.sipush 512, 3) := by decide +kernel
theorem dX7_init_16 : decode cX7_init 16 = .ok (.newarray .boolean, 2) := by decide +kernel
theorem dX7_init_18 : decode cX7_init 18 = .ok (.putfield 13, 3) := by decide +kernel
theorem dX7_init_21 : decode cX7_init 21 = .ok (.aload_n 0, 1) := by decide +kernel
theorem dX7_init_22 : decode cX7_init 22 = .ok (.bipush 6, 2) := by decide +kernel
theorem dX7_init_24 : decode cX7_init 24 = .ok (.newarray .int, 2) := by decide +kernel
theorem dX7_init_26 : decode cX7_init 26 = .ok (.putfield 16, 3) := by decide +kernel
theorem dX7_init_29 : decode cX7_init 29 = .ok (.aload_n 0, 1) := by decide +kernel
theorem dX7_init_30 : decode cX7_init 30 = .ok (.bipush 6, 2) := by decide +kernel
theorem dX7_init_32 : decode cX7_init 32 = .ok (.newarray .int, 2) := by decide +kernel
theorem dX7_init_34 : decode cX7_init 34 = .ok (.putfield 20, 3) := by decide +kernel
theorem dX7_init_37 : decode cX7_init 37 = .ok (.aload_n 0, 1) := by decide +kernel
theorem dX7_init_38 : decode cX7_init 38 = .ok (.iconst 1, 1) := by decide +kernel
theorem dX7_init_39 : decode cX7_init 39 = .ok (.putfield 23, 3) := by decide +kernel
theorem dX7_init_42 : decode cX7_init 42 = .ok (.aload_n 0, 1) := by decide +kernel
theorem dX7_init_43 : decode cX7_init 43 = .ok (.iconst 5, 1) := by decide +kernel
theorem dX7_init_44 : decode cX7_init 44 = .ok (.newarray .int, 2) := by decide +kernel
theorem dX7_init_46 : decode cX7_init 46 = .ok (.putfield 27, 3) := by decide +kernel
theorem dX7_init_49 : decode cX7_init 49 = .ok (.aload_n 0, 1) := by decide +kernel
theorem dX7_init_50 : decode cX7_init 50 = .ok (.iconst 5, 1) := by decide +kernel
theorem dX7_init_51 : decode cX7_init 51 = .ok (.newarray .int, 2) := by decide +kernel
theorem dX7_init_53 : decode cX7_init 53 = .ok (.putfield 30, 3) := by decide +kernel
theorem dX7_init_56 : decode cX7_init 56 = .ok (.aload_n 0, 1) := by decide +kernel
theorem dX7_init_57 : decode cX7_init 57 = .ok (.iconst 5, 1) := by decide +kernel
theorem dX7_init_58 : decode cX7_init 58 = .ok (.newarray .int, 2) := by decide +kernel
theorem dX7_init_60 : decode cX7_init 60 = .ok (.putfield 33, 3) := by decide +kernel
theorem dX7_init_63 : decode cX7_init 63 = .ok (.aload_n 0, 1) := by decide +kernel
theorem dX7_init_64 : decode cX7_init 64 = .ok (.iconst 5, 1) := by decide +kernel
theorem dX7_init_65 : decode cX7_init 65 = .ok (.newarray .int, 2) := by decide +kernel
theorem dX7_init_67 : decode cX7_init 67 = .ok (.putfield 36, 3) := by decide +kernel
theorem dX7_init_70 : decode cX7_init 70 = .ok (.aload_n 0, 1) := by decide +kernel
theorem dX7_init_71 : decode cX7_init 71 = .ok (.iconst 5, 1) := by decide +kernel
theorem dX7_init_72 : decode cX7_init 72 = .ok (.newarray .int, 2) := by decide +kernel
theorem dX7_init_74 : decode cX7_init 74 = .ok (.putfield 39, 3) := by decide +kernel
theorem dX7_init_77 : decode cX7_init 77 = .ok (.aload_n 0, 1) := by decide +kernel
theorem dX7_init_78 : decode cX7_init 78 = .ok (.iconst 5, 1) := by decide +kernel
theorem dX7_init_79 : decode cX7_init 79 = .ok (.newarray .int, 2) := by decide +kernel
theorem dX7_init_81 : decode cX7_init 81 = .ok (.putfield 42, 3) := by decide +kernel
theorem dX7_init_84 : decode cX7_init 84 = .ok (.aload_n 0, 1) := by decide +kernel
theorem dX7_init_85 : decode cX7_init 85 = .ok (.sipush 200, 3) := by decide +kernel
theorem dX7_init_88 : decode cX7_init 88 = .ok (.newarray .int, 2) := by decide +kernel
theorem dX7_init_90 : decode cX7_init 90 = .ok (.putfield 45, 3) := by decide +kernel
theorem dX7_init_93 : decode cX7_init 93 = .ok (.aload_n 0, 1) := by decide +kernel
theorem dX7_init_94 : decode cX7_init 94 = .ok (.bipush 6, 2) := by decide +kernel
theorem dX7_init_96 : decode cX7_init 96 = .ok (.newarray .int, 2) := by decide +kernel
theorem dX7_init_98 : decode cX7_init 98 = .ok (.putfield 48, 3) := by decide +kernel
theorem dX7_init_101 : decode cX7_init 101 = .ok (.aload_n 0, 1) := by decide +kernel
theorem dX7_init_102 : decode cX7_init 102 = .ok (.bipush 6, 2) := by decide +kernel
theorem dX7_init_104 : decode cX7_init 104 = .ok (.newarray .int, 2) := by decide +kernel
theorem dX7_init_106 : decode cX7_init 106 = .ok (.putfield 51, 3) := by decide +kernel
theorem dX7_init_109 : decode cX7_init 109 = .ok (.aload_n 0, 1) := by decide +kernel
theorem dX7_init_110 : decode cX7_init 110 = .ok (.bipush 6, 2) := by decide +kernel
theorem dX7_init_112 : decode cX7_init 112 = .ok (.newarray .int, 2) := by decide +kernel
theorem dX7_init_114 : decode cX7_init 114 = .ok (.putfield 54, 3) := by decide +kernel
theorem dX7_init_117 : decode cX7_init 117 = .ok (.aload_n 0, 1) := by decide +kernel
theorem dX7_init_118 : decode cX7_init 118 = .ok (.sipush 300, 3) := by decide +kernel
theorem dX7_init_121 : decode cX7_init 121 = .ok (.newarray .boolean, 2) := by decide +kernel
theorem dX7_init_123 : decode cX7_init 123 = .ok (.putfield 57, 3) := by decide +kernel
theorem dX7_init_126 : decode cX7_init 126 = .ok (.return_, 1) := by decide +kernel
theorem dX7_thrown_0 : decode cX7_thrown 0 = .ok (.aload_n 0, 1) := by decide +kernel
theorem dX7_thrown_1 : decode cX7_thrown 1 = .ok (.getfield 60, 3) := by decide +kernel
theorem dX7_thrown_4 : decode cX7_thrown 4 = .ok (.ireturn, 1) := by decide +kernel
theorem dX7_in_0 : decode cX7_in 0 = .ok (.iload_n 0, 1) := by decide +kernel
theorem dX7_in_1 : decode cX7_in 1 = .ok (.iload_n 1, 1) := by decide +kernel
theorem dX7_in_2 : decode cX7_in 2 = .ok (.if_icmp .lt 12, 3) := by decide +kernel
theorem dX7_in_5 : decode cX7_in 5 = .ok (.iload_n 0, 1) := by decide +kernel
theorem dX7_in_6 : decode cX7_in 6 = .ok (.iload_n 2, 1) := by decide +kernel
theorem dX7_in_7 : decode cX7_in 7 = .ok (.if_icmp .gt 7, 3) := by decide +kernel
theorem dX7_in_10 : decode cX7_in 10 = .ok (.iconst 1, 1) := by decide +kernel
theorem dX7_in_11 : decode cX7_in 11 = .ok (.goto 4, 3) := by decide +kernel
theorem dX7_in_14 : decode cX7_in 14 = .ok (.iconst 0, 1) := by decide +kernel
theorem dX7_in_15 : decode cX7_in 15 = .ok (.ireturn, 1) := by decide +kernel
set_option maxRecDepth 20000 in
theorem ggX7_isCell_X7_in : GoodIn wsX7_isCell wsX7_in := goodIn_r _ [4] (by decide +kernel) (by decide +kernel)
set_option maxRecDepth 20000 in
theorem gX7_isCell_X7_in : GoodIn wsX7_isCell (va_wsS RX7 63 yX7_in wsX7_in) := goodIn_app (goodIn_of _ (by decide +kernel)) ggX7_isCell_X7_in
theorem dX7_isCell_0 : decode cX7_isCell 0 = .ok (.iload_n 0, 1) := by decide +kernel
theorem dX7_isCell_1 : decode cX7_isCell 1 = .ok (.iconst 0, 1) := by decide +kernel
theorem dX7_isCell_2 : decode cX7_isCell 2 = .ok (.bipush 7, 2) := by decide +kernel
theorem dX7_isCell_4 : decode cX7_isCell 4 = .ok (.invokestatic 63, 3) := by decide +kernel
theorem dX7_isCell_7 : decode cX7_isCell 7 = .ok (.ifCond .eq 17, 3) := by decide +kernel
theorem dX7_isCell_10 : decode cX7_isCell 10 = .ok (.iload_n 1, 1) := by decide +kernel
theorem dX7_isCell_11 : decode cX7_isCell 11 = .ok (.iconst 0, 1) := by decide +kernel
theorem dX7_isCell_12 : decode cX7_isCell 12 = .ok (.bipush 7, 2) := by decide +kernel
theorem dX7_isCell_14 : decode cX7_isCell 14 = .ok (.invokestatic 63, 3) := by decide +kernel
theorem dX7_isCell_17 : decode cX7_isCell 17 = .ok (.ifCond .eq 7, 3) := by decide +kernel
theorem dX7_isCell_20 : decode cX7_isCell 20 = .ok (.iconst 1, 1) := by decide +kernel
theorem dX7_isCell_21 : decode cX7_isCell 21 = .ok (.goto 4, 3) := by decide +kernel
theorem dX7_isCell_24 : decode cX7_isCell 24 = .ok (.iconst 0, 1) := by decide +kernel
theorem dX7_isCell_25 : decode cX7_isCell 25 = .ok (.ireturn, 1) := by decide +kernel
set_option maxRecDepth 20000 in
theorem ggX7_isFloor_X7_isCell : GoodIn wsX7_isFloor wsX7_isCell := goodIn_r _ [5, 6, 7, 4, 8] (by decide +kernel) (by decide +kernel)
set_option maxRecDepth 20000 in
theorem gX7_isFloor_X7_isCell : GoodIn wsX7_isFloor (va_wsS RX7 67 yX7_isCell wsX7_isCell) := goodIn_app (goodIn_of _ (by decide +kernel)) ggX7_isFloor_X7_isCell
theorem dX7_isFloor_0 : decode cX7_isFloor 0 = .ok (.iload_n 1, 1) := by decide +kernel
theorem dX7_isFloor_1 : decode cX7_isFloor 1 = .ok (.iload_n 2, 1) := by decide +kernel
theorem dX7_isFloor_2 : decode cX7_isFloor 2 = .ok (.invokestatic 67, 3) := by decide +kernel
theorem dX7_isFloor_5 : decode cX7_isFloor 5 = .ok (.ifCond .eq 21, 3) := by decide +kernel
theorem dX7_isFloor_8 : decode cX7_isFloor 8 = .ok (.aload_n 0, 1) := by decide +kernel
theorem dX7_isFloor_9 : decode cX7_isFloor 9 = .ok (.getfield 7, 3) := by decide +kernel
theorem dX7_isFloor_12 : decode cX7_isFloor 12 = .ok (.bipush 8, 2) := by decide +kernel
theorem dX7_isFloor_14 : decode cX7_isFloor 14 = .ok (.iload_n 2, 1) := by decide +kernel
theorem dX7_isFloor_15 : decode cX7_isFloor 15 = .ok (.imul, 1) := by decide +kernel
theorem dX7_isFloor_16 : decode cX7_isFloor 16 = .ok (.iload_n 1, 1) := by decide +kernel
theorem dX7_isFloor_17 : decode cX7_isFloor 17 = .ok (.iadd, 1) := by decide +kernel
theorem dX7_isFloor_18 : decode cX7_isFloor 18 = .ok (.baload, 1) := by decide +kernel
theorem dX7_isFloor_19 : decode cX7_isFloor 19 = .ok (.ifCond .ne 7, 3) := by decide +kernel
theorem dX7_isFloor_22 : decode cX7_isFloor 22 = .ok (.iconst 1, 1) := by decide +kernel
theorem dX7_isFloor_23 : decode cX7_isFloor 23 = .ok (.goto 4, 3) := by decide +kernel
theorem dX7_isFloor_26 : decode cX7_isFloor 26 = .ok (.iconst 0, 1) := by decide +kernel
theorem dX7_isFloor_27 : decode cX7_isFloor 27 = .ok (.ireturn, 1) := by decide +kernel
set_option maxRecDepth 20000 in
theorem ggX7_block_X7_isCell : GoodIn wsX7_block wsX7_isCell := goodIn_r _ [6, 7, 8, 5, 9] (by decide +kernel) (by decide +kernel)
set_option maxRecDepth 20000 in
theorem gX7_block_X7_isCell : GoodIn wsX7_block (va_wsS RX7 67 yX7_isCell wsX7_isCell) := goodIn_app (goodIn_of _ (by decide +kernel)) ggX7_block_X7_isCell
theorem dX7_block_0 : decode cX7_block 0 = .ok (.aload_n 0, 1) := by decide +kernel
theorem dX7_block_1 : decode cX7_block 1 = .ok (.iload_n 1, 1) := by decide +kernel
theorem dX7_block_2 : decode cX7_block 2 = .ok (.iload_n 2, 1) := by decide +kernel
theorem dX7_block_3 : decode cX7_block 3 = .ok (.invokestatic 67, 3) := by decide +kernel
theorem dX7_block_6 : decode cX7_block 6 = .ok (.ifCond .eq 7, 3) := by decide +kernel
theorem dX7_block_9 : decode cX7_block 9 = .ok (.iconst 0, 1) := by decide +kernel
theorem dX7_block_10 : decode cX7_block 10 = .ok (.goto 4, 3) := by decide +kernel
theorem dX7_block_13 : decode cX7_block 13 = .ok (.iconst 1, 1) := by decide +kernel
theorem dX7_block_14 : decode cX7_block 14 = .ok (.putfield 60, 3) := by decide +kernel
theorem dX7_block_17 : decode cX7_block 17 = .ok (.aload_n 0, 1) := by decide +kernel
theorem dX7_block_18 : decode cX7_block 18 = .ok (.getfield 60, 3) := by decide +kernel
theorem dX7_block_21 : decode cX7_block 21 = .ok (.ifCond .le 5, 3) := by decide +kernel
theorem dX7_block_24 : decode cX7_block 24 = .ok (.iconst 0, 1) := by decide +kernel
theorem dX7_block_25 : decode cX7_block 25 = .ok (.ireturn, 1) := by decide +kernel
theorem dX7_block_26 : decode cX7_block 26 = .ok (.aload_n 0, 1) := by decide +kernel
theorem dX7_block_27 : decode cX7_block 27 = .ok (.getfield 7, 3) := by decide +kernel
theorem dX7_block_30 : decode cX7_block 30 = .ok (.bipush 8, 2) := by decide +kernel
theorem dX7_block_32 : decode cX7_block 32 = .ok (.iload_n 2, 1) := by decide +kernel
theorem dX7_block_33 : decode cX7_block 33 = .ok (.imul, 1) := by decide +kernel
theorem dX7_block_34 : decode cX7_block 34 = .ok (.iload_n 1, 1) := by decide +kernel
theorem dX7_block_35 : decode cX7_block 35 = .ok (.iadd, 1) := by decide +kernel
theorem dX7_block_36 : decode cX7_block 36 = .ok (.baload, 1) := by decide +kernel
theorem dX7_block_37 : decode cX7_block 37 = .ok (.istore 4, 2) := by decide +kernel
theorem dX7_block_39 : decode cX7_block 39 = .ok (.aload_n 0, 1) := by decide +kernel
theorem dX7_block_40 : decode cX7_block 40 = .ok (.getfield 7, 3) := by decide +kernel
theorem dX7_block_43 : decode cX7_block 43 = .ok (.bipush 8, 2) := by decide +kernel
theorem dX7_block_45 : decode cX7_block 45 = .ok (.iload_n 2, 1) := by decide +kernel
theorem dX7_block_46 : decode cX7_block 46 = .ok (.imul, 1) := by decide +kernel
theorem dX7_block_47 : decode cX7_block 47 = .ok (.iload_n 1, 1) := by decide +kernel
theorem dX7_block_48 : decode cX7_block 48 = .ok (.iadd, 1) := by decide +kernel
theorem dX7_block_49 : decode cX7_block 49 = .ok (.iload_n 3, 1) := by decide +kernel
theorem dX7_block_50 : decode cX7_block 50 = .ok (.bastore, 1) := by decide +kernel
theorem dX7_block_51 : decode cX7_block 51 = .ok (.iload 4, 2) := by decide +kernel
theorem dX7_block_53 : decode cX7_block 53 = .ok (.ireturn, 1) := by decide +kernel
theorem dX7_stateOf_0 : decode cX7_stateOf 0 = .ok (.iload_n 0, 1) := by decide +kernel
theorem dX7_stateOf_1 : decode cX7_stateOf 1 = .ok (.bipush 8, 2) := by decide +kernel
theorem dX7_stateOf_3 : decode cX7_stateOf 3 = .ok (.iload_n 1, 1) := by decide +kernel
theorem dX7_stateOf_4 : decode cX7_stateOf 4 = .ok (.imul, 1) := by decide +kernel
theorem dX7_stateOf_5 : decode cX7_stateOf 5 = .ok (.iadd, 1) := by decide +kernel
theorem dX7_stateOf_6 : decode cX7_stateOf 6 = .ok (.bipush 64, 2) := by decide +kernel
theorem dX7_stateOf_8 : decode cX7_stateOf 8 = .ok (.iload_n 2, 1) := by decide +kernel
theorem dX7_stateOf_9 : decode cX7_stateOf 9 = .ok (.imul, 1) := by decide +kernel
theorem dX7_stateOf_10 : decode cX7_stateOf 10 = .ok (.iadd, 1) := by decide +kernel
theorem dX7_stateOf_11 : decode cX7_stateOf 11 = .ok (.iload_n 3, 1) := by decide +kernel
theorem dX7_stateOf_12 : decode cX7_stateOf 12 = .ok (.ifCond .eq 9, 3) := by decide +kernel
theorem dX7_stateOf_15 : decode cX7_stateOf 15 = .ok (.sipush 256, 3) := by decide +kernel
theorem dX7_stateOf_18 : decode cX7_stateOf 18 = .ok (.goto 4, 3) := by decide +kernel
theorem dX7_stateOf_21 : decode cX7_stateOf 21 = .ok (.iconst 0, 1) := by decide +kernel
theorem dX7_stateOf_22 : decode cX7_stateOf 22 = .ok (.iadd, 1) := by decide +kernel
theorem dX7_stateOf_23 : decode cX7_stateOf 23 = .ok (.ireturn, 1) := by decide +kernel
set_option maxRecDepth 20000 in
theorem ggX7_step_X7_isFloor : GoodIn wsX7_step wsX7_isFloor := goodIn_r _ [6, 7, 8, 9, 5, 10, 11, 12, 13, 17, 18, 19, 20, 21, 22, 23, 24, 25, 26, 27, 28, 29, 30, 31, 32, 33, 34, 35, 36] (by decide +kernel) (by decide +kernel)
set_option maxRecDepth 20000 in
theorem gX7_step_X7_isFloor : GoodIn wsX7_step (wsV RX7 71 RX7 yX7_isFloor wsX7_isFloor) := goodIn_app (goodIn_of _ (by decide +kernel)) ggX7_step_X7_isFloor
set_option maxRecDepth 20000 in
theorem ggX7_step_X7_stateOf : GoodIn wsX7_step wsX7_stateOf := goodIn_r _ [16] (by decide +kernel) (by decide +kernel)
set_option maxRecDepth 20000 in
theorem gX7_step_X7_stateOf : GoodIn wsX7_step (va_wsS RX7 78 yX7_stateOf wsX7_stateOf) := goodIn_app (goodIn_of _ (by decide +kernel)) ggX7_step_X7_stateOf
theorem dX7_step_0 : decode cX7_step 0 = .ok (.iload_n 1, 1) := by decide +kernel
theorem dX7_step_1 : decode cX7_step 1 = .ok (.bipush 8, 2) := by decide +kernel
theorem dX7_step_3 : decode cX7_step 3 = .ok (.irem, 1) := by decide +kernel
theorem dX7_step_4 : decode cX7_step 4 = .ok (.istore_n 2, 1) := by decide +kernel
theorem dX7_step_5 : decode cX7_step 5 = .ok (.iload_n 1, 1) := by decide +kernel
theorem dX7_step_6 : decode cX7_step 6 = .ok (.bipush 8, 2) := by decide +kernel
theorem dX7_step_8 : decode cX7_step 8 = .ok (.idiv, 1) := by decide +kernel
theorem dX7_step_9 : decode cX7_step 9 = .ok (.bipush 8, 2) := by decide +kernel
theorem dX7_step_11 : decode cX7_step 11 = .ok (.irem, 1) := by decide +kernel
theorem dX7_step_12 : decode cX7_step 12 = .ok (.istore_n 3, 1) := by decide +kernel
theorem dX7_step_13 : decode cX7_step 13 = .ok (.iload_n 1, 1) := by decide +kernel
theorem dX7_step_14 : decode cX7_step 14 = .ok (.bipush 64, 2) := by decide +kernel
theorem dX7_step_16 : decode cX7_step 16 = .ok (.idiv, 1) := by decide +kernel
theorem dX7_step_17 : decode cX7_step 17 = .ok (.iconst 4, 1) := by decide +kernel
theorem dX7_step_18 : decode cX7_step 18 = .ok (.irem, 1) := by decide +kernel
theorem dX7_step_19 : decode cX7_step 19 = .ok (.istore 4, 2) := by decide +kernel
theorem dX7_step_21 : decode cX7_step 21 = .ok (.iload_n 1, 1) := by decide +kernel
theorem dX7_step_22 : decode cX7_step 22 = .ok (.sipush 256, 3) := by decide +kernel
theorem dX7_step_25 : decode cX7_step 25 = .ok (.if_icmp .lt 7, 3) := by decide +kernel
theorem dX7_step_28 : decode cX7_step 28 = .ok (.iconst 1, 1) := by decide +kernel
theorem dX7_step_29 : decode cX7_step 29 = .ok (.goto 4, 3) := by decide +kernel
theorem dX7_step_32 : decode cX7_step 32 = .ok (.iconst 0, 1) := by decide +kernel
theorem dX7_step_33 : decode cX7_step 33 = .ok (.istore 5, 2) := by decide +kernel
theorem dX7_step_35 : decode cX7_step 35 = .ok (.iload 4, 2) := by decide +kernel
theorem dX7_step_37 : decode cX7_step 37 = .ok (.iconst 1, 1) := by decide +kernel
theorem dX7_step_38 : decode cX7_step 38 = .ok (.if_icmp .eq 9, 3) := by decide +kernel
theorem dX7_step_41 : decode cX7_step 41 = .ok (.iload 4, 2) := by decide +kernel
theorem dX7_step_43 : decode cX7_step 43 = .ok (.iconst 3, 1) := by decide +kernel
theorem dX7_step_44 : decode cX7_step 44 = .ok (.if_icmp .ne 7, 3) := by decide +kernel
theorem dX7_step_47 : decode cX7_step 47 = .ok (.iconst 1, 1) := by decide +kernel
theorem dX7_step_48 : decode cX7_step 48 = .ok (.goto 4, 3) := by decide +kernel
theorem dX7_step_51 : decode cX7_step 51 = .ok (.iconst 0, 1) := by decide +kernel
theorem dX7_step_52 : decode cX7_step 52 = .ok (.istore 6, 2) := by decide +kernel
theorem dX7_step_54 : decode cX7_step 54 = .ok (.iload 4, 2) := by decide +kernel
theorem dX7_step_56 : decode cX7_step 56 = .ok (.ifCond .eq 9, 3) := by decide +kernel
theorem dX7_step_59 : decode cX7_step 59 = .ok (.iload 4, 2) := by decide +kernel
theorem dX7_step_61 : decode cX7_step 61 = .ok (.iconst 1, 1) := by decide +kernel
theorem dX7_step_62 : decode cX7_step 62 = .ok (.if_icmp .ne 7, 3) := by decide +kernel
theorem dX7_step_65 : decode cX7_step 65 = .ok (.iconst 1, 1) := by decide +kernel
theorem dX7_step_66 : decode cX7_step 66 = .ok (.goto 4, 3) := by decide +kernel
theorem dX7_step_69 : decode cX7_step 69 = .ok (.iconst 0, 1) := by decide +kernel
theorem dX7_step_70 : decode cX7_step 70 = .ok (.istore 7, 2) := by decide +kernel
theorem dX7_step_72 : decode cX7_step 72 = .ok (.iload 5, 2) := by decide +kernel
theorem dX7_step_74 : decode cX7_step 74 = .ok (.ifCond .eq 7, 3) := by decide +kernel
theorem dX7_step_77 : decode cX7_step 77 = .ok (.iconst 1, 1) := by decide +kernel
theorem dX7_step_78 : decode cX7_step 78 = .ok (.goto 4, 3) := by decide +kernel
theorem dX7_step_81 : decode cX7_step 81 = .ok (.iconst (-1), 1) := by decide +kernel
theorem dX7_step_82 : decode cX7_step 82 = .ok (.istore 8, 2) := by decide +kernel
theorem dX7_step_84 : decode cX7_step 84 = .ok (.iload 6, 2) := by decide +kernel
theorem dX7_step_86 : decode cX7_step 86 = .ok (.ifCond .eq 10, 3) := by decide +kernel
theorem dX7_step_89 : decode cX7_step 89 = .ok (.iload_n 2, 1) := by decide +kernel
theorem dX7_step_90 : decode cX7_step 90 = .ok (.iload 8, 2) := by decide +kernel
theorem dX7_step_92 : decode cX7_step 92 = .ok (.iadd, 1) := by decide +kernel
theorem dX7_step_93 : decode cX7_step 93 = .ok (.goto 4, 3) := by decide +kernel
theorem dX7_step_96 : decode cX7_step 96 = .ok (.iload_n 2, 1) := by decide +kernel
theorem dX7_step_97 : decode cX7_step 97 = .ok (.istore 9, 2) := by decide +kernel
theorem dX7_step_99 : decode cX7_step 99 = .ok (.iload 6, 2) := by decide +kernel
theorem dX7_step_101 : decode cX7_step 101 = .ok (.ifCond .eq 7, 3) := by decide +kernel
theorem dX7_step_104 : decode cX7_step 104 = .ok (.iload_n 3, 1) := by decide +kernel
theorem dX7_step_105 : decode cX7_step 105 = .ok (.goto 7, 3) := by decide +kernel
theorem dX7_step_108 : decode cX7_step 108 = .ok (.iload_n 3, 1) := by decide +kernel
theorem dX7_step_109 : decode cX7_step 109 = .ok (.iload 8, 2) := by decide +kernel
theorem dX7_step_111 : decode cX7_step 111 = .ok (.iadd, 1) := by decide +kernel
theorem dX7_step_112 : decode cX7_step 112 = .ok (.istore 10, 2) := by decide +kernel
theorem dX7_step_114 : decode cX7_step 114 = .ok (.iload 6, 2) := by decide +kernel
theorem dX7_step_116 : decode cX7_step 116 = .ok (.ifCond .eq 16, 3) := by decide +kernel
theorem dX7_step_119 : decode cX7_step 119 = .ok (.iload 5, 2) := by decide +kernel
theorem dX7_step_121 : decode cX7_step 121 = .ok (.ifCond .eq 7, 3) := by decide +kernel
theorem dX7_step_124 : decode cX7_step 124 = .ok (.iconst 2, 1) := by decide +kernel
theorem dX7_step_125 : decode cX7_step 125 = .ok (.goto 17, 3) := by decide +kernel
theorem dX7_step_128 : decode cX7_step 128 = .ok (.iconst 0, 1) := by decide +kernel
theorem dX7_step_129 : decode cX7_step 129 = .ok (.goto 13, 3) := by decide +kernel
theorem dX7_step_132 : decode cX7_step 132 = .ok (.iload 5, 2) := by decide +kernel
theorem dX7_step_134 : decode cX7_step 134 = .ok (.ifCond .eq 7, 3) := by decide +kernel
theorem dX7_step_137 : decode cX7_step 137 = .ok (.iconst 3, 1) := by decide +kernel
theorem dX7_step_138 : decode cX7_step 138 = .ok (.goto 4, 3) := by decide +kernel
theorem dX7_step_141 : decode cX7_step 141 = .ok (.iconst 1, 1) := by decide +kernel
theorem dX7_step_142 : decode cX7_step 142 = .ok (.istore 11, 2) := by decide +kernel
theorem dX7_step_144 : decode cX7_step 144 = .ok (.aload_n 0, 1) := by decide +kernel
theorem dX7_step_145 : decode cX7_step 145 = .ok (.aload_n 0, 1) := by decide +kernel
theorem dX7_step_146 : decode cX7_step 146 = .ok (.iload 9, 2) := by decide +kernel
theorem dX7_step_148 : decode cX7_step 148 = .ok (.iload 10, 2) := by decide +kernel
theorem dX7_step_150 : decode cX7_step 150 = .ok (.invokevirtual 71, 3) := by decide +kernel
theorem dX7_step_153 : decode cX7_step 153 = .ok (.ifCond .ne 7, 3) := by decide +kernel
theorem dX7_step_156 : decode cX7_step 156 = .ok (.iconst 1, 1) := by decide +kernel
theorem dX7_step_157 : decode cX7_step 157 = .ok (.goto 4, 3) := by decide +kernel
theorem dX7_step_160 : decode cX7_step 160 = .ok (.iconst 0, 1) := by decide +kernel
theorem dX7_step_161 : decode cX7_step 161 = .ok (.putfield 74, 3) := by decide +kernel
theorem dX7_step_164 : decode cX7_step 164 = .ok (.aload_n 0, 1) := by decide +kernel
theorem dX7_step_165 : decode cX7_step 165 = .ok (.getfield 74, 3) := by decide +kernel
theorem dX7_step_168 : decode cX7_step 168 = .ok (.ifCond .eq 15, 3) := by decide +kernel
theorem dX7_step_171 : decode cX7_step 171 = .ok (.iload_n 2, 1) := by decide +kernel
theorem dX7_step_172 : decode cX7_step 172 = .ok (.iload_n 3, 1) := by decide +kernel
theorem dX7_step_173 : decode cX7_step 173 = .ok (.iload 11, 2) := by decide +kernel
theorem dX7_step_175 : decode cX7_step 175 = .ok (.iload 7, 2) := by decide +kernel
theorem dX7_step_177 : decode cX7_step 177 = .ok (.invokestatic 78, 3) := by decide +kernel
theorem dX7_step_180 : decode cX7_step 180 = .ok (.goto 18, 3) := by decide +kernel
theorem dX7_step_183 : decode cX7_step 183 = .ok (.iload 9, 2) := by decide +kernel
theorem dX7_step_185 : decode cX7_step 185 = .ok (.iload 10, 2) := by decide +kernel
theorem dX7_step_187 : decode cX7_step 187 = .ok (.iload 11, 2) := by decide +kernel
theorem dX7_step_189 : decode cX7_step 189 = .ok (.iconst 2, 1) := by decide +kernel
theorem dX7_step_190 : decode cX7_step 190 = .ok (.iadd, 1) := by decide +kernel
theorem dX7_step_191 : decode cX7_step 191 = .ok (.iconst 4, 1) := by decide +kernel
theorem dX7_step_192 : decode cX7_step 192 = .ok (.irem, 1) := by decide +kernel
theorem dX7_step_193 : decode cX7_step 193 = .ok (.iload 7, 2) := by decide +kernel
theorem dX7_step_195 : decode cX7_step 195 = .ok (.invokestatic 78, 3) := by decide +kernel
theorem dX7_step_198 : decode cX7_step 198 = .ok (.ireturn, 1) := by decide +kernel
set_option maxRecDepth 20000 in
theorem ggX7_asksShot_X7_isCell : GoodIn wsX7_asksShot wsX7_isCell := goodIn_r _ [5, 6, 7, 4, 8] (by decide +kernel) (by decide +kernel)
set_option maxRecDepth 20000 in
theorem gX7_asksShot_X7_isCell : GoodIn wsX7_asksShot (va_wsS RX7 67 yX7_isCell wsX7_isCell) := goodIn_app (goodIn_of _ (by decide +kernel)) ggX7_asksShot_X7_isCell
set_option maxRecDepth 20000 in
theorem ggX7_asksShot_X7_in : GoodIn wsX7_asksShot wsX7_in := goodIn_r _ [8] (by decide +kernel) (by decide +kernel)
set_option maxRecDepth 20000 in
theorem gX7_asksShot_X7_in : GoodIn wsX7_asksShot (va_wsS RX7 63 yX7_in wsX7_in) := goodIn_app (goodIn_of _ (by decide +kernel)) ggX7_asksShot_X7_in
set_option maxRecDepth 20000 in
theorem ggX7_asksShot_X7_isFloor : GoodIn wsX7_asksShot wsX7_isFloor := goodIn_r _ [12, 13, 2, 3, 4, 5, 6, 7, 8, 14, 15, 16, 17, 18, 19, 20, 21, 22, 23, 24, 25, 26, 27, 28, 29, 30, 31, 32, 33] (by decide +kernel) (by decide +kernel)
set_option maxRecDepth 20000 in
theorem gX7_asksShot_X7_isFloor : GoodIn wsX7_asksShot (wsV RX7 71 RX7 yX7_isFloor wsX7_isFloor) := goodIn_app (goodIn_of _ (by decide +kernel)) ggX7_asksShot_X7_isFloor
theorem dX7_asksShot_0 : decode cX7_asksShot 0 = .ok (.aload_n 0, 1) := by decide +kernel
theorem dX7_asksShot_1 : decode cX7_asksShot 1 = .ok (.iload_n 1, 1) := by decide +kernel
theorem dX7_asksShot_2 : decode cX7_asksShot 2 = .ok (.iload_n 2, 1) := by decide +kernel
theorem dX7_asksShot_3 : decode cX7_asksShot 3 = .ok (.invokestatic 67, 3) := by decide +kernel
theorem dX7_asksShot_6 : decode cX7_asksShot 6 = .ok (.ifCond .ne 7, 3) := by decide +kernel
theorem dX7_asksShot_9 : decode cX7_asksShot 9 = .ok (.iconst 1, 1) := by decide +kernel
theorem dX7_asksShot_10 : decode cX7_asksShot 10 = .ok (.goto 35, 3) := by decide +kernel
theorem dX7_asksShot_13 : decode cX7_asksShot 13 = .ok (.iload_n 3, 1) := by decide +kernel
theorem dX7_asksShot_14 : decode cX7_asksShot 14 = .ok (.iconst 0, 1) := by decide +kernel
theorem dX7_asksShot_15 : decode cX7_asksShot 15 = .ok (.iconst 3, 1) := by decide +kernel
theorem dX7_asksShot_16 : decode cX7_asksShot 16 = .ok (.invokestatic 63, 3) := by decide +kernel
theorem dX7_asksShot_19 : decode cX7_asksShot 19 = .ok (.ifCond .eq 8, 3) := by decide +kernel
theorem dX7_asksShot_22 : decode cX7_asksShot 22 = .ok (.iload 4, 2) := by decide +kernel
theorem dX7_asksShot_24 : decode cX7_asksShot 24 = .ok (.ifCond .ne 7, 3) := by decide +kernel
theorem dX7_asksShot_27 : decode cX7_asksShot 27 = .ok (.iconst 2, 1) := by decide +kernel
theorem dX7_asksShot_28 : decode cX7_asksShot 28 = .ok (.goto 17, 3) := by decide +kernel
theorem dX7_asksShot_31 : decode cX7_asksShot 31 = .ok (.aload_n 0, 1) := by decide +kernel
theorem dX7_asksShot_32 : decode cX7_asksShot 32 = .ok (.iload_n 1, 1) := by decide +kernel
theorem dX7_asksShot_33 : decode cX7_asksShot 33 = .ok (.iload_n 2, 1) := by decide +kernel
theorem dX7_asksShot_34 : decode cX7_asksShot 34 = .ok (.invokevirtual 71, 3) := by decide +kernel
theorem dX7_asksShot_37 : decode cX7_asksShot 37 = .ok (.ifCond .eq 7, 3) := by decide +kernel
theorem dX7_asksShot_40 : decode cX7_asksShot 40 = .ok (.iconst 0, 1) := by decide +kernel
theorem dX7_asksShot_41 : decode cX7_asksShot 41 = .ok (.goto 4, 3) := by decide +kernel
theorem dX7_asksShot_44 : decode cX7_asksShot 44 = .ok (.iconst 3, 1) := by decide +kernel
theorem dX7_asksShot_45 : decode cX7_asksShot 45 = .ok (.putfield 60, 3) := by decide +kernel
theorem dX7_asksShot_48 : decode cX7_asksShot 48 = .ok (.aload_n 0, 1) := by decide +kernel
theorem dX7_asksShot_49 : decode cX7_asksShot 49 = .ok (.getfield 60, 3) := by decide +kernel
theorem dX7_asksShot_52 : decode cX7_asksShot 52 = .ok (.ifCond .ne 7, 3) := by decide +kernel
theorem dX7_asksShot_55 : decode cX7_asksShot 55 = .ok (.iconst 1, 1) := by decide +kernel
theorem dX7_asksShot_56 : decode cX7_asksShot 56 = .ok (.goto 4, 3) := by decide +kernel
theorem dX7_asksShot_59 : decode cX7_asksShot 59 = .ok (.iconst 0, 1) := by decide +kernel
theorem dX7_asksShot_60 : decode cX7_asksShot 60 = .ok (.ireturn, 1) := by decide +kernel
set_option maxRecDepth 20000 in
theorem ggX7_periodOf_X7_step : GoodIn wsX7_periodOf wsX7_step := goodIn_r _ [5, 6, 7, 8, 9, 4, 10, 11, 12, 13, 14, 15, 16, 17, 18, 19, 20, 21, 22, 23, 24, 25, 26, 27, 28, 29, 30, 31, 32, 33, 34, 35, 36, 37, 38, 39, 40] (by decide +kernel) (by decide +kernel)
set_option maxRecDepth 20000 in
theorem gX7_periodOf_X7_step : GoodIn wsX7_periodOf (wsV RX7 82 RX7 yX7_step wsX7_step) := goodIn_app (goodIn_of _ (by decide +kernel)) ggX7_periodOf_X7_step
theorem dX7_periodOf_0 : decode cX7_periodOf 0 = .ok (.iconst 1, 1) := by decide +kernel
theorem dX7_periodOf_1 : decode cX7_periodOf 1 = .ok (.istore_n 2, 1) := by decide +kernel
theorem dX7_periodOf_2 : decode cX7_periodOf 2 = .ok (.aload_n 0, 1) := by decide +kernel
theorem dX7_periodOf_3 : decode cX7_periodOf 3 = .ok (.iload_n 1, 1) := by decide +kernel
theorem dX7_periodOf_4 : decode cX7_periodOf 4 = .ok (.invokevirtual 82, 3) := by decide +kernel
theorem dX7_periodOf_7 : decode cX7_periodOf 7 = .ok (.istore_n 3, 1) := by decide +kernel
theorem dX7_periodOf_8 : decode cX7_periodOf 8 = .ok (.iload_n 3, 1) := by decide +kernel
theorem dX7_periodOf_9 : decode cX7_periodOf 9 = .ok (.iload_n 1, 1) := by decide +kernel
theorem dX7_periodOf_10 : decode cX7_periodOf 10 = .ok (.if_icmp .eq 15, 3) := by decide +kernel
theorem dX7_periodOf_13 : decode cX7_periodOf 13 = .ok (.aload_n 0, 1) := by decide +kernel
theorem dX7_periodOf_14 : decode cX7_periodOf 14 = .ok (.iload_n 3, 1) := by decide +kernel
theorem dX7_periodOf_15 : decode cX7_periodOf 15 = .ok (.invokevirtual 82, 3) := by decide +kernel
theorem dX7_periodOf_18 : decode cX7_periodOf 18 = .ok (.istore_n 3, 1) := by decide +kernel
theorem dX7_periodOf_19 : decode cX7_periodOf 19 = .ok (.iinc 2 1, 3) := by decide +kernel
theorem dX7_periodOf_22 : decode cX7_periodOf 22 = .ok (.goto (-14), 3) := by decide +kernel
theorem dX7_periodOf_25 : decode cX7_periodOf 25 = .ok (.iload_n 2, 1) := by decide +kernel
theorem dX7_periodOf_26 : decode cX7_periodOf 26 = .ok (.ireturn, 1) := by decide +kernel
set_option maxRecDepth 20000 in
theorem ggX7_period_X7_asksShot : GoodIn wsX7_period wsX7_asksShot := goodIn_r _ [5, 6, 7, 8, 4, 9, 10, 11, 12, 13, 14, 15, 16, 17, 30, 31, 32, 33, 34, 35, 36, 37, 38, 39, 40, 41, 42, 43, 44, 45, 46, 47, 48, 49] (by decide +kernel) (by decide +kernel)
set_option maxRecDepth 20000 in
theorem gX7_period_X7_asksShot : GoodIn wsX7_period (wsV RX7 86 RX7 yX7_asksShot wsX7_asksShot) := goodIn_app (goodIn_of _ (by decide +kernel)) ggX7_period_X7_asksShot
set_option maxRecDepth 20000 in
theorem ggX7_period_X7_stateOf : GoodIn wsX7_period wsX7_stateOf := goodIn_r _ [20] (by decide +kernel) (by decide +kernel)
set_option maxRecDepth 20000 in
theorem gX7_period_X7_stateOf : GoodIn wsX7_period (va_wsS RX7 78 yX7_stateOf wsX7_stateOf) := goodIn_app (goodIn_of _ (by decide +kernel)) ggX7_period_X7_stateOf
set_option maxRecDepth 20000 in
theorem ggX7_period_X7_periodOf : GoodIn wsX7_period wsX7_periodOf := goodIn_r _ [24, 25, 26, 27, 4, 28, 29, 13, 14, 15, 16, 17, 7, 8, 9, 10, 11, 12, 18, 19, 20, 30, 31, 32, 33, 34, 35, 36, 37, 38, 39, 40, 41, 42, 43, 44, 45, 46, 47, 48, 49] (by decide +kernel) (by decide +kernel)
set_option maxRecDepth 20000 in
theorem gX7_period_X7_periodOf : GoodIn wsX7_period (wsV RX7 90 RX7 yX7_periodOf wsX7_periodOf) := goodIn_app (goodIn_of _ (by decide +kernel)) ggX7_period_X7_periodOf
theorem dX7_period_0 : decode cX7_period 0 = .ok (.aload_n 0, 1) := by decide +kernel
theorem dX7_period_1 : decode cX7_period 1 = .ok (.iload_n 1, 1) := by decide +kernel
theorem dX7_period_2 : decode cX7_period 2 = .ok (.iload_n 2, 1) := by decide +kernel
theorem dX7_period_3 : decode cX7_period 3 = .ok (.iload_n 3, 1) := by decide +kernel
theorem dX7_period_4 : decode cX7_period 4 = .ok (.iconst 1, 1) := by decide +kernel
theorem dX7_period_5 : decode cX7_period 5 = .ok (.invokevirtual 86, 3) := by decide +kernel
theorem dX7_period_8 : decode cX7_period 8 = .ok (.ifCond .eq 18, 3) := by decide +kernel
theorem dX7_period_11 : decode cX7_period 11 = .ok (.aload_n 0, 1) := by decide +kernel
theorem dX7_period_12 : decode cX7_period 12 = .ok (.iload_n 1, 1) := by decide +kernel
theorem dX7_period_13 : decode cX7_period 13 = .ok (.iload_n 2, 1) := by decide +kernel
theorem dX7_period_14 : decode cX7_period 14 = .ok (.iload_n 3, 1) := by decide +kernel
theorem dX7_period_15 : decode cX7_period 15 = .ok (.iload 4, 2) := by decide +kernel
theorem dX7_period_17 : decode cX7_period 17 = .ok (.invokestatic 78, 3) := by decide +kernel
theorem dX7_period_20 : decode cX7_period 20 = .ok (.invokevirtual 90, 3) := by decide +kernel
theorem dX7_period_23 : decode cX7_period 23 = .ok (.goto 4, 3) := by decide +kernel
theorem dX7_period_26 : decode cX7_period 26 = .ok (.iconst 0, 1) := by decide +kernel
theorem dX7_period_27 : decode cX7_period 27 = .ok (.ireturn, 1) := by decide +kernel
set_option maxRecDepth 20000 in
theorem ggX7_periodAnew_X7_period : GoodIn wsX7_periodAnew wsX7_period := goodIn_r _ [5, 6, 7, 8, 4, 9, 10, 11, 12, 13, 14, 15, 16, 17, 18, 19, 20, 21, 22, 23, 24, 25, 26, 27, 28, 29, 30, 31, 32, 33, 34, 35, 36, 37, 38, 39, 40, 41, 42, 43, 44, 45, 46, 47, 48, 49, 50, 51, 52, 53] (by decide +kernel) (by decide +kernel)
set_option maxRecDepth 20000 in
theorem gX7_periodAnew_X7_period : GoodIn wsX7_periodAnew (wsV RX7 93 RX7 yX7_period wsX7_period) := goodIn_app (goodIn_of _ (by decide +kernel)) ggX7_periodAnew_X7_period
theorem dX7_periodAnew_0 : decode cX7_periodAnew 0 = .ok (.aload_n 0, 1) := by decide +kernel
theorem dX7_periodAnew_1 : decode cX7_periodAnew 1 = .ok (.iload_n 1, 1) := by decide +kernel
theorem dX7_periodAnew_2 : decode cX7_periodAnew 2 = .ok (.iload_n 2, 1) := by decide +kernel
theorem dX7_periodAnew_3 : decode cX7_periodAnew 3 = .ok (.iload_n 3, 1) := by decide +kernel
theorem dX7_periodAnew_4 : decode cX7_periodAnew 4 = .ok (.iload 4, 2) := by decide +kernel
theorem dX7_periodAnew_6 : decode cX7_periodAnew 6 = .ok (.invokevirtual 93, 3) := by decide +kernel
theorem dX7_periodAnew_9 : decode cX7_periodAnew 9 = .ok (.ireturn, 1) := by decide +kernel
set_option maxRecDepth 20000 in
theorem ggX7_bouncesOf_X7_step : GoodIn wsX7_bouncesOf wsX7_step := goodIn_r _ [6, 1, 7, 8, 9, 5, 10, 11, 12, 13, 14, 15, 16, 17, 18, 19, 20, 21, 22, 23, 24, 25, 26, 27, 28, 29, 30, 31, 32, 33, 34, 35, 36, 37, 38, 39, 40] (by decide +kernel) (by decide +kernel)
set_option maxRecDepth 20000 in
theorem gX7_bouncesOf_X7_step : GoodIn wsX7_bouncesOf (wsV RX7 82 RX7 yX7_step wsX7_step) := goodIn_app (goodIn_of _ (by decide +kernel)) ggX7_bouncesOf_X7_step
theorem dX7_bouncesOf_0 : decode cX7_bouncesOf 0 = .ok (.iconst 0, 1) := by decide +kernel
theorem dX7_bouncesOf_1 : decode cX7_bouncesOf 1 = .ok (.istore_n 2, 1) := by decide +kernel
theorem dX7_bouncesOf_2 : decode cX7_bouncesOf 2 = .ok (.iload_n 1, 1) := by decide +kernel
theorem dX7_bouncesOf_3 : decode cX7_bouncesOf 3 = .ok (.istore_n 3, 1) := by decide +kernel
theorem dX7_bouncesOf_4 : decode cX7_bouncesOf 4 = .ok (.iconst 1, 1) := by decide +kernel
theorem dX7_bouncesOf_5 : decode cX7_bouncesOf 5 = .ok (.istore 4, 2) := by decide +kernel
theorem dX7_bouncesOf_7 : decode cX7_bouncesOf 7 = .ok (.iload 4, 2) := by decide +kernel
theorem dX7_bouncesOf_9 : decode cX7_bouncesOf 9 = .ok (.ifCond .eq 39, 3) := by decide +kernel
theorem dX7_bouncesOf_12 : decode cX7_bouncesOf 12 = .ok (.aload_n 0, 1) := by decide +kernel
theorem dX7_bouncesOf_13 : decode cX7_bouncesOf 13 = .ok (.iload_n 3, 1) := by decide +kernel
theorem dX7_bouncesOf_14 : decode cX7_bouncesOf 14 = .ok (.invokevirtual 82, 3) := by decide +kernel
theorem dX7_bouncesOf_17 : decode cX7_bouncesOf 17 = .ok (.istore_n 3, 1) := by decide +kernel
theorem dX7_bouncesOf_18 : decode cX7_bouncesOf 18 = .ok (.iload_n 2, 1) := by decide +kernel
theorem dX7_bouncesOf_19 : decode cX7_bouncesOf 19 = .ok (.aload_n 0, 1) := by decide +kernel
theorem dX7_bouncesOf_20 : decode cX7_bouncesOf 20 = .ok (.getfield 74, 3) := by decide +kernel
theorem dX7_bouncesOf_23 : decode cX7_bouncesOf 23 = .ok (.ifCond .eq 7, 3) := by decide +kernel
theorem dX7_bouncesOf_26 : decode cX7_bouncesOf 26 = .ok (.iconst 1, 1) := by decide +kernel
theorem dX7_bouncesOf_27 : decode cX7_bouncesOf 27 = .ok (.goto 4, 3) := by decide +kernel
theorem dX7_bouncesOf_30 : decode cX7_bouncesOf 30 = .ok (.iconst 0, 1) := by decide +kernel
theorem dX7_bouncesOf_31 : decode cX7_bouncesOf 31 = .ok (.iadd, 1) := by decide +kernel
theorem dX7_bouncesOf_32 : decode cX7_bouncesOf 32 = .ok (.istore_n 2, 1) := by decide +kernel
theorem dX7_bouncesOf_33 : decode cX7_bouncesOf 33 = .ok (.iload_n 3, 1) := by decide +kernel
theorem dX7_bouncesOf_34 : decode cX7_bouncesOf 34 = .ok (.iload_n 1, 1) := by decide +kernel
theorem dX7_bouncesOf_35 : decode cX7_bouncesOf 35 = .ok (.if_icmp .eq 7, 3) := by decide +kernel
theorem dX7_bouncesOf_38 : decode cX7_bouncesOf 38 = .ok (.iconst 1, 1) := by decide +kernel
theorem dX7_bouncesOf_39 : decode cX7_bouncesOf 39 = .ok (.goto 4, 3) := by decide +kernel
theorem dX7_bouncesOf_42 : decode cX7_bouncesOf 42 = .ok (.iconst 0, 1) := by decide +kernel
theorem dX7_bouncesOf_43 : decode cX7_bouncesOf 43 = .ok (.istore 4, 2) := by decide +kernel
theorem dX7_bouncesOf_45 : decode cX7_bouncesOf 45 = .ok (.goto (-38), 3) := by decide +kernel
theorem dX7_bouncesOf_48 : decode cX7_bouncesOf 48 = .ok (.iload_n 2, 1) := by decide +kernel
theorem dX7_bouncesOf_49 : decode cX7_bouncesOf 49 = .ok (.ireturn, 1) := by decide +kernel
set_option maxRecDepth 20000 in
theorem ggX7_bounces_X7_asksShot : GoodIn wsX7_bounces wsX7_asksShot := goodIn_r _ [5, 6, 7, 8, 4, 9, 10, 11, 12, 13, 14, 15, 16, 17, 30, 31, 32, 33, 34, 35, 36, 37, 38, 39, 40, 41, 42, 43, 44, 45, 46, 47, 48, 49] (by decide +kernel) (by decide +kernel)
set_option maxRecDepth 20000 in
theorem gX7_bounces_X7_asksShot : GoodIn wsX7_bounces (wsV RX7 86 RX7 yX7_asksShot wsX7_asksShot) := goodIn_app (goodIn_of _ (by decide +kernel)) ggX7_bounces_X7_asksShot
set_option maxRecDepth 20000 in
theorem ggX7_bounces_X7_stateOf : GoodIn wsX7_bounces wsX7_stateOf := goodIn_r _ [20] (by decide +kernel) (by decide +kernel)
set_option maxRecDepth 20000 in
theorem gX7_bounces_X7_stateOf : GoodIn wsX7_bounces (va_wsS RX7 78 yX7_stateOf wsX7_stateOf) := goodIn_app (goodIn_of _ (by decide +kernel)) ggX7_bounces_X7_stateOf
set_option maxRecDepth 20000 in
theorem ggX7_bounces_X7_bouncesOf : GoodIn wsX7_bounces wsX7_bouncesOf := goodIn_r _ [24, 25, 26, 27, 28, 4, 29, 13, 14, 15, 16, 17, 7, 8, 9, 10, 11, 12, 18, 19, 20, 30, 31, 32, 33, 34, 35, 36, 37, 38, 39, 40, 41, 42, 43, 44, 45, 46, 47, 48, 49] (by decide +kernel) (by decide +kernel)
set_option maxRecDepth 20000 in
theorem gX7_bounces_X7_bouncesOf : GoodIn wsX7_bounces (wsV RX7 96 RX7 yX7_bouncesOf wsX7_bouncesOf) := goodIn_app (goodIn_of _ (by decide +kernel)) ggX7_bounces_X7_bouncesOf
theorem dX7_bounces_0 : decode cX7_bounces 0 = .ok (.aload_n 0, 1) := by decide +kernel
theorem dX7_bounces_1 : decode cX7_bounces 1 = .ok (.iload_n 1, 1) := by decide +kernel
theorem dX7_bounces_2 : decode cX7_bounces 2 = .ok (.iload_n 2, 1) := by decide +kernel
theorem dX7_bounces_3 : decode cX7_bounces 3 = .ok (.iload_n 3, 1) := by decide +kernel
theorem dX7_bounces_4 : decode cX7_bounces 4 = .ok (.iconst 1, 1) := by decide +kernel
theorem dX7_bounces_5 : decode cX7_bounces 5 = .ok (.invokevirtual 86, 3) := by decide +kernel
theorem dX7_bounces_8 : decode cX7_bounces 8 = .ok (.ifCond .eq 18, 3) := by decide +kernel
theorem dX7_bounces_11 : decode cX7_bounces 11 = .ok (.aload_n 0, 1) := by decide +kernel
theorem dX7_bounces_12 : decode cX7_bounces 12 = .ok (.iload_n 1, 1) := by decide +kernel
theorem dX7_bounces_13 : decode cX7_bounces 13 = .ok (.iload_n 2, 1) := by decide +kernel
theorem dX7_bounces_14 : decode cX7_bounces 14 = .ok (.iload_n 3, 1) := by decide +kernel
theorem dX7_bounces_15 : decode cX7_bounces 15 = .ok (.iload 4, 2) := by decide +kernel
theorem dX7_bounces_17 : decode cX7_bounces 17 = .ok (.invokestatic 78, 3) := by decide +kernel
theorem dX7_bounces_20 : decode cX7_bounces 20 = .ok (.invokevirtual 96, 3) := by decide +kernel
theorem dX7_bounces_23 : decode cX7_bounces 23 = .ok (.goto 4, 3) := by decide +kernel
theorem dX7_bounces_26 : decode cX7_bounces 26 = .ok (.iconst 0, 1) := by decide +kernel
theorem dX7_bounces_27 : decode cX7_bounces 27 = .ok (.ireturn, 1) := by decide +kernel
theorem dX7_forgets_0 : decode cX7_forgets 0 = .ok (.iconst 0, 1) := by decide +kernel
theorem dX7_forgets_1 : decode cX7_forgets 1 = .ok (.istore_n 1, 1) := by decide +kernel
theorem dX7_forgets_2 : decode cX7_forgets 2 = .ok (.iload_n 1, 1) := by decide +kernel
theorem dX7_forgets_3 : decode cX7_forgets 3 = .ok (.sipush 512, 3) := by decide +kernel
theorem dX7_forgets_6 : decode cX7_forgets 6 = .ok (.if_icmp .ge 16, 3) := by decide +kernel
theorem dX7_forgets_9 : decode cX7_forgets 9 = .ok (.aload_n 0, 1) := by decide +kernel
theorem dX7_forgets_10 : decode cX7_forgets 10 = .ok (.getfield 13, 3) := by decide +kernel
theorem dX7_forgets_13 : decode cX7_forgets 13 = .ok (.iload_n 1, 1) := by decide +kernel
theorem dX7_forgets_14 : decode cX7_forgets 14 = .ok (.iconst 0, 1) := by decide +kernel
theorem dX7_forgets_15 : decode cX7_forgets 15 = .ok (.bastore, 1) := by decide +kernel
theorem dX7_forgets_16 : decode cX7_forgets 16 = .ok (.iinc 1 1, 3) := by decide +kernel
theorem dX7_forgets_19 : decode cX7_forgets 19 = .ok (.goto (-17), 3) := by decide +kernel
theorem dX7_forgets_22 : decode cX7_forgets 22 = .ok (.return_, 1) := by decide +kernel
set_option maxRecDepth 20000 in
theorem ggX7_touched_X7_asksShot : GoodIn wsX7_touched wsX7_asksShot := goodIn_r _ [6, 7, 8, 9, 5, 10, 11, 12, 13, 14, 15, 16, 17, 18, 31, 32, 33, 34, 35, 36, 37, 38, 39, 40, 41, 42, 43, 44, 45, 46, 47, 48, 49, 50] (by decide +kernel) (by decide +kernel)
set_option maxRecDepth 20000 in
theorem gX7_touched_X7_asksShot : GoodIn wsX7_touched (wsV RX7 86 RX7 yX7_asksShot wsX7_asksShot) := goodIn_app (goodIn_of _ (by decide +kernel)) ggX7_touched_X7_asksShot
set_option maxRecDepth 20000 in
theorem ggX7_touched_X7_forgets : GoodIn wsX7_touched wsX7_forgets := goodIn_r _ [22, 1, 31, 32, 33, 34, 35, 36, 37, 38, 39, 40, 41, 42, 43, 44, 45, 46, 47, 48, 49, 50] (by decide +kernel) (by decide +kernel)
set_option maxRecDepth 20000 in
theorem gX7_touched_X7_forgets : GoodIn wsX7_touched (wsV RX7 99 RX7 yX7_forgets wsX7_forgets) := goodIn_app (goodIn_of _ (by decide +kernel)) ggX7_touched_X7_forgets
set_option maxRecDepth 20000 in
theorem ggX7_touched_X7_stateOf : GoodIn wsX7_touched wsX7_stateOf := goodIn_r _ [25] (by decide +kernel) (by decide +kernel)
set_option maxRecDepth 20000 in
theorem gX7_touched_X7_stateOf : GoodIn wsX7_touched (va_wsS RX7 78 yX7_stateOf wsX7_stateOf) := goodIn_app (goodIn_of _ (by decide +kernel)) ggX7_touched_X7_stateOf
set_option maxRecDepth 20000 in
theorem ggX7_touched_X7_step : GoodIn wsX7_touched wsX7_step := goodIn_r _ [29, 30, 14, 15, 16, 5, 17, 18, 8, 9, 10, 11, 12, 13, 23, 24, 25, 31, 32, 33, 34, 35, 36, 37, 38, 39, 40, 41, 42, 43, 44, 45, 46, 47, 48, 49, 50] (by decide +kernel) (by decide +kernel)
set_option maxRecDepth 20000 in
theorem gX7_touched_X7_step : GoodIn wsX7_touched (wsV RX7 82 RX7 yX7_step wsX7_step) := goodIn_app (goodIn_of _ (by decide +kernel)) ggX7_touched_X7_step
theorem dX7_touched_0 : decode cX7_touched 0 = .ok (.aload_n 0, 1) := by decide +kernel
theorem dX7_touched_1 : decode cX7_touched 1 = .ok (.iload_n 1, 1) := by decide +kernel
theorem dX7_touched_2 : decode cX7_touched 2 = .ok (.iload_n 2, 1) := by decide +kernel
theorem dX7_touched_3 : decode cX7_touched 3 = .ok (.iload_n 3, 1) := by decide +kernel
theorem dX7_touched_4 : decode cX7_touched 4 = .ok (.iconst 1, 1) := by decide +kernel
theorem dX7_touched_5 : decode cX7_touched 5 = .ok (.invokevirtual 86, 3) := by decide +kernel
theorem dX7_touched_8 : decode cX7_touched 8 = .ok (.ifCond .ne 5, 3) := by decide +kernel
theorem dX7_touched_11 : decode cX7_touched 11 = .ok (.iconst 0, 1) := by decide +kernel
theorem dX7_touched_12 : decode cX7_touched 12 = .ok (.ireturn, 1) := by decide +kernel
theorem dX7_touched_13 : decode cX7_touched 13 = .ok (.aload_n 0, 1) := by decide +kernel
theorem dX7_touched_14 : decode cX7_touched 14 = .ok (.invokevirtual 99, 3) := by decide +kernel
theorem dX7_touched_17 : decode cX7_touched 17 = .ok (.iload_n 1, 1) := by decide +kernel
theorem dX7_touched_18 : decode cX7_touched 18 = .ok (.iload_n 2, 1) := by decide +kernel
theorem dX7_touched_19 : decode cX7_touched 19 = .ok (.iload_n 3, 1) := by decide +kernel
theorem dX7_touched_20 : decode cX7_touched 20 = .ok (.iload 4, 2) := by decide +kernel
theorem dX7_touched_22 : decode cX7_touched 22 = .ok (.invokestatic 78, 3) := by decide +kernel
theorem dX7_touched_25 : decode cX7_touched 25 = .ok (.istore 5, 2) := by decide +kernel
theorem dX7_touched_27 : decode cX7_touched 27 = .ok (.iload 5, 2) := by decide +kernel
theorem dX7_touched_29 : decode cX7_touched 29 = .ok (.istore 6, 2) := by decide +kernel
theorem dX7_touched_31 : decode cX7_touched 31 = .ok (.iconst 0, 1) := by decide +kernel
theorem dX7_touched_32 : decode cX7_touched 32 = .ok (.istore 7, 2) := by decide +kernel
theorem dX7_touched_34 : decode cX7_touched 34 = .ok (.iconst 1, 1) := by decide +kernel
theorem dX7_touched_35 : decode cX7_touched 35 = .ok (.istore 8, 2) := by decide +kernel
theorem dX7_touched_37 : decode cX7_touched 37 = .ok (.iload 8, 2) := by decide +kernel
theorem dX7_touched_39 : decode cX7_touched 39 = .ok (.ifCond .eq 62, 3) := by decide +kernel
theorem dX7_touched_42 : decode cX7_touched 42 = .ok (.iload 7, 2) := by decide +kernel
theorem dX7_touched_44 : decode cX7_touched 44 = .ok (.aload_n 0, 1) := by decide +kernel
theorem dX7_touched_45 : decode cX7_touched 45 = .ok (.getfield 13, 3) := by decide +kernel
theorem dX7_touched_48 : decode cX7_touched 48 = .ok (.iload 6, 2) := by decide +kernel
theorem dX7_touched_50 : decode cX7_touched 50 = .ok (.bipush 64, 2) := by decide +kernel
theorem dX7_touched_52 : decode cX7_touched 52 = .ok (.irem, 1) := by decide +kernel
theorem dX7_touched_53 : decode cX7_touched 53 = .ok (.baload, 1) := by decide +kernel
theorem dX7_touched_54 : decode cX7_touched 54 = .ok (.ifCond .eq 7, 3) := by decide +kernel
theorem dX7_touched_57 : decode cX7_touched 57 = .ok (.iconst 0, 1) := by decide +kernel
theorem dX7_touched_58 : decode cX7_touched 58 = .ok (.goto 4, 3) := by decide +kernel
theorem dX7_touched_61 : decode cX7_touched 61 = .ok (.iconst 1, 1) := by decide +kernel
theorem dX7_touched_62 : decode cX7_touched 62 = .ok (.iadd, 1) := by decide +kernel
theorem dX7_touched_63 : decode cX7_touched 63 = .ok (.istore 7, 2) := by decide +kernel
theorem dX7_touched_65 : decode cX7_touched 65 = .ok (.aload_n 0, 1) := by decide +kernel
theorem dX7_touched_66 : decode cX7_touched 66 = .ok (.getfield 13, 3) := by decide +kernel
theorem dX7_touched_69 : decode cX7_touched 69 = .ok (.iload 6, 2) := by decide +kernel
theorem dX7_touched_71 : decode cX7_touched 71 = .ok (.bipush 64, 2) := by decide +kernel
theorem dX7_touched_73 : decode cX7_touched 73 = .ok (.irem, 1) := by decide +kernel
theorem dX7_touched_74 : decode cX7_touched 74 = .ok (.iconst 1, 1) := by decide +kernel
theorem dX7_touched_75 : decode cX7_touched 75 = .ok (.bastore, 1) := by decide +kernel
theorem dX7_touched_76 : decode cX7_touched 76 = .ok (.aload_n 0, 1) := by decide +kernel
theorem dX7_touched_77 : decode cX7_touched 77 = .ok (.iload 6, 2) := by decide +kernel
theorem dX7_touched_79 : decode cX7_touched 79 = .ok (.invokevirtual 82, 3) := by decide +kernel
theorem dX7_touched_82 : decode cX7_touched 82 = .ok (.istore 6, 2) := by decide +kernel
theorem dX7_touched_84 : decode cX7_touched 84 = .ok (.iload 6, 2) := by decide +kernel
theorem dX7_touched_86 : decode cX7_touched 86 = .ok (.iload 5, 2) := by decide +kernel
theorem dX7_touched_88 : decode cX7_touched 88 = .ok (.if_icmp .eq 7, 3) := by decide +kernel
theorem dX7_touched_91 : decode cX7_touched 91 = .ok (.iconst 1, 1) := by decide +kernel
theorem dX7_touched_92 : decode cX7_touched 92 = .ok (.goto 4, 3) := by decide +kernel
theorem dX7_touched_95 : decode cX7_touched 95 = .ok (.iconst 0, 1) := by decide +kernel
theorem dX7_touched_96 : decode cX7_touched 96 = .ok (.istore 8, 2) := by decide +kernel
theorem dX7_touched_98 : decode cX7_touched 98 = .ok (.goto (-61), 3) := by decide +kernel
theorem dX7_touched_101 : decode cX7_touched 101 = .ok (.iload 7, 2) := by decide +kernel
theorem dX7_touched_103 : decode cX7_touched 103 = .ok (.ireturn, 1) := by decide +kernel
set_option maxRecDepth 20000 in
theorem ggX7_bounce_X7_in : GoodIn wsX7_bounce wsX7_in := goodIn_r _ [6] (by decide +kernel) (by decide +kernel)
set_option maxRecDepth 20000 in
theorem gX7_bounce_X7_in : GoodIn wsX7_bounce (va_wsS RX7 63 yX7_in wsX7_in) := goodIn_app (goodIn_of _ (by decide +kernel)) ggX7_bounce_X7_in
set_option maxRecDepth 20000 in
theorem ggX7_bounce_X7_asksShot : GoodIn wsX7_bounce wsX7_asksShot := goodIn_r _ [10, 11, 12, 13, 5, 14, 3, 4, 6, 15, 16, 17, 18, 19, 31, 32, 33, 34, 35, 36, 37, 38, 39, 40, 41, 42, 43, 44, 45, 46, 47, 48, 49, 50] (by decide +kernel) (by decide +kernel)
set_option maxRecDepth 20000 in
theorem gX7_bounce_X7_asksShot : GoodIn wsX7_bounce (wsV RX7 86 RX7 yX7_asksShot wsX7_asksShot) := goodIn_app (goodIn_of _ (by decide +kernel)) ggX7_bounce_X7_asksShot
set_option maxRecDepth 20000 in
theorem ggX7_bounce_X7_stateOf : GoodIn wsX7_bounce wsX7_stateOf := goodIn_r _ [22] (by decide +kernel) (by decide +kernel)
set_option maxRecDepth 20000 in
theorem gX7_bounce_X7_stateOf : GoodIn wsX7_bounce (va_wsS RX7 78 yX7_stateOf wsX7_stateOf) := goodIn_app (goodIn_of _ (by decide +kernel)) ggX7_bounce_X7_stateOf
set_option maxRecDepth 20000 in
theorem ggX7_bounce_X7_bouncesOf : GoodIn wsX7_bounce wsX7_bouncesOf := goodIn_r _ [26, 2, 27, 28, 29, 5, 30, 15, 16, 17, 18, 19, 12, 13, 14, 3, 4, 6, 20, 21, 22, 31, 32, 33, 34, 35, 36, 37, 38, 39, 40, 41, 42, 43, 44, 45, 46, 47, 48, 49, 50] (by decide +kernel) (by decide +kernel)
set_option maxRecDepth 20000 in
theorem gX7_bounce_X7_bouncesOf : GoodIn wsX7_bounce (wsV RX7 96 RX7 yX7_bouncesOf wsX7_bouncesOf) := goodIn_app (goodIn_of _ (by decide +kernel)) ggX7_bounce_X7_bouncesOf
set_option maxRecDepth 20000 in
theorem ggX7_bounce_X7_step : GoodIn wsX7_bounce wsX7_step := goodIn_r _ [30, 2, 15, 16, 17, 5, 18, 19, 12, 13, 14, 3, 4, 6, 20, 21, 22, 31, 32, 33, 34, 35, 36, 37, 38, 39, 40, 41, 42, 43, 44, 45, 46, 47, 48, 49, 50] (by decide +kernel) (by decide +kernel)
set_option maxRecDepth 20000 in
theorem gX7_bounce_X7_step : GoodIn wsX7_bounce (wsV RX7 82 RX7 yX7_step wsX7_step) := goodIn_app (goodIn_of _ (by decide +kernel)) ggX7_bounce_X7_step
theorem dX7_bounce_0 : decode cX7_bounce 0 = .ok (.aload_n 0, 1) := by decide +kernel
theorem dX7_bounce_1 : decode cX7_bounce 1 = .ok (.iload_n 1, 1) := by decide +kernel
theorem dX7_bounce_2 : decode cX7_bounce 2 = .ok (.iload_n 2, 1) := by decide +kernel
theorem dX7_bounce_3 : decode cX7_bounce 3 = .ok (.iload_n 3, 1) := by decide +kernel
theorem dX7_bounce_4 : decode cX7_bounce 4 = .ok (.iload 5, 2) := by decide +kernel
theorem dX7_bounce_6 : decode cX7_bounce 6 = .ok (.iconst 0, 1) := by decide +kernel
theorem dX7_bounce_7 : decode cX7_bounce 7 = .ok (.ldc 102, 2) := by decide +kernel
theorem dX7_bounce_9 : decode cX7_bounce 9 = .ok (.invokestatic 63, 3) := by decide +kernel
theorem dX7_bounce_12 : decode cX7_bounce 12 = .ok (.invokevirtual 86, 3) := by decide +kernel
theorem dX7_bounce_15 : decode cX7_bounce 15 = .ok (.ifCond .ne 5, 3) := by decide +kernel
theorem dX7_bounce_18 : decode cX7_bounce 18 = .ok (.iconst 0, 1) := by decide +kernel
theorem dX7_bounce_19 : decode cX7_bounce 19 = .ok (.ireturn, 1) := by decide +kernel
theorem dX7_bounce_20 : decode cX7_bounce 20 = .ok (.iload_n 1, 1) := by decide +kernel
theorem dX7_bounce_21 : decode cX7_bounce 21 = .ok (.iload_n 2, 1) := by decide +kernel
theorem dX7_bounce_22 : decode cX7_bounce 22 = .ok (.iload_n 3, 1) := by decide +kernel
theorem dX7_bounce_23 : decode cX7_bounce 23 = .ok (.iload 4, 2) := by decide +kernel
theorem dX7_bounce_25 : decode cX7_bounce 25 = .ok (.invokestatic 78, 3) := by decide +kernel
theorem dX7_bounce_28 : decode cX7_bounce 28 = .ok (.istore 6, 2) := by decide +kernel
theorem dX7_bounce_30 : decode cX7_bounce 30 = .ok (.iload 5, 2) := by decide +kernel
theorem dX7_bounce_32 : decode cX7_bounce 32 = .ok (.aload_n 0, 1) := by decide +kernel
theorem dX7_bounce_33 : decode cX7_bounce 33 = .ok (.iload 6, 2) := by decide +kernel
theorem dX7_bounce_35 : decode cX7_bounce 35 = .ok (.invokevirtual 96, 3) := by decide +kernel
theorem dX7_bounce_38 : decode cX7_bounce 38 = .ok (.irem, 1) := by decide +kernel
theorem dX7_bounce_39 : decode cX7_bounce 39 = .ok (.iconst 1, 1) := by decide +kernel
theorem dX7_bounce_40 : decode cX7_bounce 40 = .ok (.iadd, 1) := by decide +kernel
theorem dX7_bounce_41 : decode cX7_bounce 41 = .ok (.istore 7, 2) := by decide +kernel
theorem dX7_bounce_43 : decode cX7_bounce 43 = .ok (.iload 7, 2) := by decide +kernel
theorem dX7_bounce_45 : decode cX7_bounce 45 = .ok (.ifCond .le 31, 3) := by decide +kernel
theorem dX7_bounce_48 : decode cX7_bounce 48 = .ok (.aload_n 0, 1) := by decide +kernel
theorem dX7_bounce_49 : decode cX7_bounce 49 = .ok (.iload 6, 2) := by decide +kernel
theorem dX7_bounce_51 : decode cX7_bounce 51 = .ok (.invokevirtual 82, 3) := by decide +kernel
theorem dX7_bounce_54 : decode cX7_bounce 54 = .ok (.istore 6, 2) := by decide +kernel
theorem dX7_bounce_56 : decode cX7_bounce 56 = .ok (.iload 7, 2) := by decide +kernel
theorem dX7_bounce_58 : decode cX7_bounce 58 = .ok (.aload_n 0, 1) := by decide +kernel
theorem dX7_bounce_59 : decode cX7_bounce 59 = .ok (.getfield 74, 3) := by decide +kernel
theorem dX7_bounce_62 : decode cX7_bounce 62 = .ok (.ifCond .eq 7, 3) := by decide +kernel
theorem dX7_bounce_65 : decode cX7_bounce 65 = .ok (.iconst 1, 1) := by decide +kernel
theorem dX7_bounce_66 : decode cX7_bounce 66 = .ok (.goto 4, 3) := by decide +kernel
theorem dX7_bounce_69 : decode cX7_bounce 69 = .ok (.iconst 0, 1) := by decide +kernel
theorem dX7_bounce_70 : decode cX7_bounce 70 = .ok (.isub, 1) := by decide +kernel
theorem dX7_bounce_71 : decode cX7_bounce 71 = .ok (.istore 7, 2) := by decide +kernel
theorem dX7_bounce_73 : decode cX7_bounce 73 = .ok (.goto (-30), 3) := by decide +kernel
theorem dX7_bounce_76 : decode cX7_bounce 76 = .ok (.iload 6, 2) := by decide +kernel
theorem dX7_bounce_78 : decode cX7_bounce 78 = .ok (.bipush 64, 2) := by decide +kernel
theorem dX7_bounce_80 : decode cX7_bounce 80 = .ok (.idiv, 1) := by decide +kernel
theorem dX7_bounce_81 : decode cX7_bounce 81 = .ok (.iconst 4, 1) := by decide +kernel
theorem dX7_bounce_82 : decode cX7_bounce 82 = .ok (.irem, 1) := by decide +kernel
theorem dX7_bounce_83 : decode cX7_bounce 83 = .ok (.ireturn, 1) := by decide +kernel
set_option maxRecDepth 20000 in
theorem ggX7_state_X7_asksShot : GoodIn wsX7_state wsX7_asksShot := goodIn_r _ [5, 6, 7, 8, 4, 9, 10, 11, 12, 13, 14, 15, 16, 17, 30, 31, 32, 33, 34, 35, 36, 37, 38, 39, 40, 41, 42, 43, 44, 45, 46, 47, 48, 49] (by decide +kernel) (by decide +kernel)
set_option maxRecDepth 20000 in
theorem gX7_state_X7_asksShot : GoodIn wsX7_state (wsV RX7 86 RX7 yX7_asksShot wsX7_asksShot) := goodIn_app (goodIn_of _ (by decide +kernel)) ggX7_state_X7_asksShot
set_option maxRecDepth 20000 in
theorem ggX7_state_X7_stateOf : GoodIn wsX7_state wsX7_stateOf := goodIn_r _ [20] (by decide +kernel) (by decide +kernel)
set_option maxRecDepth 20000 in
theorem gX7_state_X7_stateOf : GoodIn wsX7_state (va_wsS RX7 78 yX7_stateOf wsX7_stateOf) := goodIn_app (goodIn_of _ (by decide +kernel)) ggX7_state_X7_stateOf
set_option maxRecDepth 20000 in
theorem ggX7_state_X7_periodOf : GoodIn wsX7_state wsX7_periodOf := goodIn_r _ [24, 25, 26, 27, 4, 28, 29, 13, 14, 15, 16, 17, 7, 8, 9, 10, 11, 12, 18, 19, 20, 30, 31, 32, 33, 34, 35, 36, 37, 38, 39, 40, 41, 42, 43, 44, 45, 46, 47, 48, 49] (by decide +kernel) (by decide +kernel)
set_option maxRecDepth 20000 in
theorem gX7_state_X7_periodOf : GoodIn wsX7_state (wsV RX7 90 RX7 yX7_periodOf wsX7_periodOf) := goodIn_app (goodIn_of _ (by decide +kernel)) ggX7_state_X7_periodOf
set_option maxRecDepth 20000 in
theorem ggX7_state_X7_step : GoodIn wsX7_state wsX7_step := goodIn_r _ [28, 29, 13, 14, 15, 4, 16, 17, 7, 8, 9, 10, 11, 12, 18, 19, 20, 30, 31, 32, 33, 34, 35, 36, 37, 38, 39, 40, 41, 42, 43, 44, 45, 46, 47, 48, 49] (by decide +kernel) (by decide +kernel)
set_option maxRecDepth 20000 in
theorem gX7_state_X7_step : GoodIn wsX7_state (wsV RX7 82 RX7 yX7_step wsX7_step) := goodIn_app (goodIn_of _ (by decide +kernel)) ggX7_state_X7_step
theorem dX7_state_0 : decode cX7_state 0 = .ok (.aload_n 0, 1) := by decide +kernel
theorem dX7_state_1 : decode cX7_state 1 = .ok (.iload_n 1, 1) := by decide +kernel
theorem dX7_state_2 : decode cX7_state 2 = .ok (.iload_n 2, 1) := by decide +kernel
theorem dX7_state_3 : decode cX7_state 3 = .ok (.iload_n 3, 1) := by decide +kernel
theorem dX7_state_4 : decode cX7_state 4 = .ok (.iload 5, 2) := by decide +kernel
theorem dX7_state_6 : decode cX7_state 6 = .ok (.ifCond .lt 7, 3) := by decide +kernel
theorem dX7_state_9 : decode cX7_state 9 = .ok (.iconst 1, 1) := by decide +kernel
theorem dX7_state_10 : decode cX7_state 10 = .ok (.goto 4, 3) := by decide +kernel
theorem dX7_state_13 : decode cX7_state 13 = .ok (.iconst 0, 1) := by decide +kernel
theorem dX7_state_14 : decode cX7_state 14 = .ok (.invokevirtual 86, 3) := by decide +kernel
theorem dX7_state_17 : decode cX7_state 17 = .ok (.ifCond .ne 5, 3) := by decide +kernel
theorem dX7_state_20 : decode cX7_state 20 = .ok (.iconst 0, 1) := by decide +kernel
theorem dX7_state_21 : decode cX7_state 21 = .ok (.ireturn, 1) := by decide +kernel
theorem dX7_state_22 : decode cX7_state 22 = .ok (.iload_n 1, 1) := by decide +kernel
theorem dX7_state_23 : decode cX7_state 23 = .ok (.iload_n 2, 1) := by decide +kernel
theorem dX7_state_24 : decode cX7_state 24 = .ok (.iload_n 3, 1) := by decide +kernel
theorem dX7_state_25 : decode cX7_state 25 = .ok (.iload 4, 2) := by decide +kernel
theorem dX7_state_27 : decode cX7_state 27 = .ok (.invokestatic 78, 3) := by decide +kernel
theorem dX7_state_30 : decode cX7_state 30 = .ok (.istore 6, 2) := by decide +kernel
theorem dX7_state_32 : decode cX7_state 32 = .ok (.iload 5, 2) := by decide +kernel
theorem dX7_state_34 : decode cX7_state 34 = .ok (.aload_n 0, 1) := by decide +kernel
theorem dX7_state_35 : decode cX7_state 35 = .ok (.iload 6, 2) := by decide +kernel
theorem dX7_state_37 : decode cX7_state 37 = .ok (.invokevirtual 90, 3) := by decide +kernel
theorem dX7_state_40 : decode cX7_state 40 = .ok (.irem, 1) := by decide +kernel
theorem dX7_state_41 : decode cX7_state 41 = .ok (.istore 7, 2) := by decide +kernel
theorem dX7_state_43 : decode cX7_state 43 = .ok (.iconst 0, 1) := by decide +kernel
theorem dX7_state_44 : decode cX7_state 44 = .ok (.istore 8, 2) := by decide +kernel
theorem dX7_state_46 : decode cX7_state 46 = .ok (.iload 8, 2) := by decide +kernel
theorem dX7_state_48 : decode cX7_state 48 = .ok (.iload 7, 2) := by decide +kernel
theorem dX7_state_50 : decode cX7_state 50 = .ok (.if_icmp .ge 17, 3) := by decide +kernel
theorem dX7_state_53 : decode cX7_state 53 = .ok (.aload_n 0, 1) := by decide +kernel
theorem dX7_state_54 : decode cX7_state 54 = .ok (.iload 6, 2) := by decide +kernel
theorem dX7_state_56 : decode cX7_state 56 = .ok (.invokevirtual 82, 3) := by decide +kernel
theorem dX7_state_59 : decode cX7_state 59 = .ok (.istore 6, 2) := by decide +kernel
theorem dX7_state_61 : decode cX7_state 61 = .ok (.iinc 8 1, 3) := by decide +kernel
theorem dX7_state_64 : decode cX7_state 64 = .ok (.goto (-18), 3) := by decide +kernel
theorem dX7_state_67 : decode cX7_state 67 = .ok (.iload 6, 2) := by decide +kernel
theorem dX7_state_69 : decode cX7_state 69 = .ok (.ireturn, 1) := by decide +kernel
theorem dX7_floors_0 : decode cX7_floors 0 = .ok (.iconst 0, 1) := by decide +kernel
theorem dX7_floors_1 : decode cX7_floors 1 = .ok (.istore_n 1, 1) := by decide +kernel
theorem dX7_floors_2 : decode cX7_floors 2 = .ok (.iconst 0, 1) := by decide +kernel
theorem dX7_floors_3 : decode cX7_floors 3 = .ok (.istore_n 2, 1) := by decide +kernel
theorem dX7_floors_4 : decode cX7_floors 4 = .ok (.iload_n 2, 1) := by decide +kernel
theorem dX7_floors_5 : decode cX7_floors 5 = .ok (.bipush 64, 2) := by decide +kernel
theorem dX7_floors_7 : decode cX7_floors 7 = .ok (.if_icmp .ge 26, 3) := by decide +kernel
theorem dX7_floors_10 : decode cX7_floors 10 = .ok (.iload_n 1, 1) := by decide +kernel
theorem dX7_floors_11 : decode cX7_floors 11 = .ok (.aload_n 0, 1) := by decide +kernel
theorem dX7_floors_12 : decode cX7_floors 12 = .ok (.getfield 7, 3) := by decide +kernel
theorem dX7_floors_15 : decode cX7_floors 15 = .ok (.iload_n 2, 1) := by decide +kernel
theorem dX7_floors_16 : decode cX7_floors 16 = .ok (.baload, 1) := by decide +kernel
theorem dX7_floors_17 : decode cX7_floors 17 = .ok (.ifCond .eq 7, 3) := by decide +kernel
theorem dX7_floors_20 : decode cX7_floors 20 = .ok (.iconst 0, 1) := by decide +kernel
theorem dX7_floors_21 : decode cX7_floors 21 = .ok (.goto 4, 3) := by decide +kernel
theorem dX7_floors_24 : decode cX7_floors 24 = .ok (.iconst 1, 1) := by decide +kernel
theorem dX7_floors_25 : decode cX7_floors 25 = .ok (.iadd, 1) := by decide +kernel
theorem dX7_floors_26 : decode cX7_floors 26 = .ok (.istore_n 1, 1) := by decide +kernel
theorem dX7_floors_27 : decode cX7_floors 27 = .ok (.iinc 2 1, 3) := by decide +kernel
theorem dX7_floors_30 : decode cX7_floors 30 = .ok (.goto (-26), 3) := by decide +kernel
theorem dX7_floors_33 : decode cX7_floors 33 = .ok (.iload_n 1, 1) := by decide +kernel
theorem dX7_floors_34 : decode cX7_floors 34 = .ok (.ireturn, 1) := by decide +kernel
set_option maxRecDepth 20000 in
theorem ggX7_paths_X7_forgets : GoodIn wsX7_paths wsX7_forgets := goodIn_r _ [8, 3, 27, 28, 29, 30, 31, 32, 33, 34, 35, 36, 37, 38, 39, 40, 41, 42, 43, 44, 45, 46] (by decide +kernel) (by decide +kernel)
set_option maxRecDepth 20000 in
theorem gX7_paths_X7_forgets : GoodIn wsX7_paths (wsV RX7 99 RX7 yX7_forgets wsX7_forgets) := goodIn_app (goodIn_of _ (by decide +kernel)) ggX7_paths_X7_forgets
set_option maxRecDepth 20000 in
theorem ggX7_paths_X7_step : GoodIn wsX7_paths wsX7_step := goodIn_r _ [12, 13, 14, 15, 16, 7, 17, 2, 18, 19, 20, 21, 22, 23, 24, 25, 26, 27, 28, 29, 30, 31, 32, 33, 34, 35, 36, 37, 38, 39, 40, 41, 42, 43, 44, 45, 46] (by decide +kernel) (by decide +kernel)
set_option maxRecDepth 20000 in
theorem gX7_paths_X7_step : GoodIn wsX7_paths (wsV RX7 82 RX7 yX7_step wsX7_step) := goodIn_app (goodIn_of _ (by decide +kernel)) ggX7_paths_X7_step
theorem dX7_paths_0 : decode cX7_paths 0 = .ok (.aload_n 0, 1) := by decide +kernel
theorem dX7_paths_1 : decode cX7_paths 1 = .ok (.iconst 0, 1) := by decide +kernel
theorem dX7_paths_2 : decode cX7_paths 2 = .ok (.putfield 60, 3) := by decide +kernel
theorem dX7_paths_5 : decode cX7_paths 5 = .ok (.aload_n 0, 1) := by decide +kernel
theorem dX7_paths_6 : decode cX7_paths 6 = .ok (.invokevirtual 99, 3) := by decide +kernel
theorem dX7_paths_9 : decode cX7_paths 9 = .ok (.iconst 0, 1) := by decide +kernel
theorem dX7_paths_10 : decode cX7_paths 10 = .ok (.istore_n 1, 1) := by decide +kernel
theorem dX7_paths_11 : decode cX7_paths 11 = .ok (.iconst 0, 1) := by decide +kernel
theorem dX7_paths_12 : decode cX7_paths 12 = .ok (.istore_n 2, 1) := by decide +kernel
theorem dX7_paths_13 : decode cX7_paths 13 = .ok (.iload_n 2, 1) := by decide +kernel
theorem dX7_paths_14 : decode cX7_paths 14 = .ok (.sipush 512, 3) := by decide +kernel
theorem dX7_paths_17 : decode cX7_paths 17 = .ok (.if_icmp .ge 60, 3) := by decide +kernel
theorem dX7_paths_20 : decode cX7_paths 20 = .ok (.aload_n 0, 1) := by decide +kernel
theorem dX7_paths_21 : decode cX7_paths 21 = .ok (.getfield 7, 3) := by decide +kernel
theorem dX7_paths_24 : decode cX7_paths 24 = .ok (.iload_n 2, 1) := by decide +kernel
theorem dX7_paths_25 : decode cX7_paths 25 = .ok (.bipush 64, 2) := by decide +kernel
theorem dX7_paths_27 : decode cX7_paths 27 = .ok (.irem, 1) := by decide +kernel
theorem dX7_paths_28 : decode cX7_paths 28 = .ok (.baload, 1) := by decide +kernel
theorem dX7_paths_29 : decode cX7_paths 29 = .ok (.ifCond .ne 42, 3) := by decide +kernel
theorem dX7_paths_32 : decode cX7_paths 32 = .ok (.aload_n 0, 1) := by decide +kernel
theorem dX7_paths_33 : decode cX7_paths 33 = .ok (.getfield 13, 3) := by decide +kernel
theorem dX7_paths_36 : decode cX7_paths 36 = .ok (.iload_n 2, 1) := by decide +kernel
theorem dX7_paths_37 : decode cX7_paths 37 = .ok (.baload, 1) := by decide +kernel
theorem dX7_paths_38 : decode cX7_paths 38 = .ok (.ifCond .ne 33, 3) := by decide +kernel
theorem dX7_paths_41 : decode cX7_paths 41 = .ok (.iinc 1 1, 3) := by decide +kernel
theorem dX7_paths_44 : decode cX7_paths 44 = .ok (.iload_n 2, 1) := by decide +kernel
theorem dX7_paths_45 : decode cX7_paths 45 = .ok (.istore_n 3, 1) := by decide +kernel
theorem dX7_paths_46 : decode cX7_paths 46 = .ok (.aload_n 0, 1) := by decide +kernel
theorem dX7_paths_47 : decode cX7_paths 47 = .ok (.getfield 13, 3) := by decide +kernel
theorem dX7_paths_50 : decode cX7_paths 50 = .ok (.iload_n 3, 1) := by decide +kernel
theorem dX7_paths_51 : decode cX7_paths 51 = .ok (.baload, 1) := by decide +kernel
theorem dX7_paths_52 : decode cX7_paths 52 = .ok (.ifCond .ne 19, 3) := by decide +kernel
theorem dX7_paths_55 : decode cX7_paths 55 = .ok (.aload_n 0, 1) := by decide +kernel
theorem dX7_paths_56 : decode cX7_paths 56 = .ok (.getfield 13, 3) := by decide +kernel
theorem dX7_paths_59 : decode cX7_paths 59 = .ok (.iload_n 3, 1) := by decide +kernel
theorem dX7_paths_60 : decode cX7_paths 60 = .ok (.iconst 1, 1) := by decide +kernel
theorem dX7_paths_61 : decode cX7_paths 61 = .ok (.bastore, 1) := by decide +kernel
theorem dX7_paths_62 : decode cX7_paths 62 = .ok (.aload_n 0, 1) := by decide +kernel
theorem dX7_paths_63 : decode cX7_paths 63 = .ok (.iload_n 3, 1) := by decide +kernel
theorem dX7_paths_64 : decode cX7_paths 64 = .ok (.invokevirtual 82, 3) := by decide +kernel
theorem dX7_paths_67 : decode cX7_paths 67 = .ok (.istore_n 3, 1) := by decide +kernel
theorem dX7_paths_68 : decode cX7_paths 68 = .ok (.goto (-22), 3) := by decide +kernel
theorem dX7_paths_71 : decode cX7_paths 71 = .ok (.iinc 2 1, 3) := by decide +kernel
theorem dX7_paths_74 : decode cX7_paths 74 = .ok (.goto (-61), 3) := by decide +kernel
theorem dX7_paths_77 : decode cX7_paths 77 = .ok (.iload_n 1, 1) := by decide +kernel
theorem dX7_paths_78 : decode cX7_paths 78 = .ok (.ireturn, 1) := by decide +kernel
set_option maxRecDepth 20000 in
theorem ggX7_mean_X7_paths : GoodIn wsX7_mean wsX7_paths := goodIn_r _ [5, 6, 7, 8, 9, 10, 11, 4, 12, 13, 14, 15, 16, 17, 18, 19, 20, 21, 22, 23, 24, 25, 26, 27, 28, 29, 30, 35, 36, 37, 38, 39, 40, 41, 42, 43, 44, 45, 46, 47, 48, 49, 50, 51, 52, 53, 54] (by decide +kernel) (by decide +kernel)
set_option maxRecDepth 20000 in
theorem gX7_mean_X7_paths : GoodIn wsX7_mean (wsV RX7 103 RX7 yX7_paths wsX7_paths) := goodIn_app (goodIn_of _ (by decide +kernel)) ggX7_mean_X7_paths
set_option maxRecDepth 20000 in
theorem ggX7_mean_X7_floors : GoodIn wsX7_mean wsX7_floors := goodIn_r _ [34, 7, 35, 36, 37, 38, 39, 40, 41, 42, 43, 44, 45, 46, 47, 48, 49, 50, 51, 52, 53, 54] (by decide +kernel) (by decide +kernel)
set_option maxRecDepth 20000 in
theorem gX7_mean_X7_floors : GoodIn wsX7_mean (wsV RX7 107 RX7 yX7_floors wsX7_floors) := goodIn_app (goodIn_of _ (by decide +kernel)) ggX7_mean_X7_floors
theorem dX7_mean_0 : decode cX7_mean 0 = .ok (.aload_n 0, 1) := by decide +kernel
theorem dX7_mean_1 : decode cX7_mean 1 = .ok (.invokevirtual 103, 3) := by decide +kernel
theorem dX7_mean_4 : decode cX7_mean 4 = .ok (.istore_n 1, 1) := by decide +kernel
