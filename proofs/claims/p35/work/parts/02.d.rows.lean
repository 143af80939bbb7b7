theorem inJ6 : ∀ w ∈ wsJ60, w ∈ lw_tbl := by decide +kernel
theorem inJ13 : ∀ w ∈ wsJ130, w ∈ lw_tbl := by decide +kernel
theorem inJ9 : ∀ w ∈ wsJ90, w ∈ lw_tbl := by decide +kernel
theorem inJ0 : ∀ w ∈ wsJ00, w ∈ lw_tbl := by decide +kernel
set_option maxRecDepth 20000 in
theorem ggX0_init_X3_init : GoodIn wsX0_init wsX3_init := goodIn_r _ [14, 15, 2, 3, 16, 17, 23] (by decide +kernel) (by decide +kernel)
set_option maxRecDepth 20000 in
theorem gX0_init_X3_init_n23 : GoodIn wsX0_init (wsX3_init) := ggX0_init_X3_init
theorem dX0_init_0 : decode cX0_init 0 = .ok (.aload_n 0, 1) := by decide +kernel
theorem dX0_init_1 : decode cX0_init 1 = .ok (.invokespecial 3, 3) := by decide +kernel
theorem dX0_init_4 : decode cX0_init 4 = .ok (.aload_n 0, 1) := by decide +kernel
theorem dX0_init_5 : decode cX0_init 5 = .ok (.bipush 6, 2) := by decide +kernel
theorem dX0_init_7 : decode cX0_init 7 = .ok (.newarray .int, 2) := by decide +kernel
theorem dX0_init_9 : decode cX0_init 9 = .ok (.putfield 9, 3) := by decide +kernel
theorem dX0_init_12 : decode cX0_init 12 = .ok (.aload_n 0, 1) := by decide +kernel
theorem dX0_init_13 : decode cX0_init 13 = .ok (.bipush 6, 2) := by decide +kernel
theorem dX0_init_15 : decode cX0_init 15 = .ok (.newarray .int, 2) := by decide +kernel
theorem dX0_init_17 : decode cX0_init 17 = .ok (.putfield 15, 3) := by decide +kernel
theorem dX0_init_20 : decode cX0_init 20 = .ok (.aload_n 0, 1) := by decide +kernel
theorem dX0_init_21 : decode cX0_init 21 = .ok (.bipush 6, 2) := by decide +kernel
theorem dX0_init_23 : decode cX0_init 23 = .ok (.newarray .int, 2) := by decide +kernel
theorem dX0_init_25 : decode cX0_init 25 = .ok (.putfield 18, 3) := by decide +kernel
theorem dX0_init_28 : decode cX0_init 28 = .ok (.aload_n 0, 1) := by decide +kernel
theorem dX0_init_29 : decode cX0_init 29 = .ok (.new 21, 3) := by decide +kernel
theorem dX0_init_32 : decode cX0_init 32 = .ok (.dup, 1) := by decide +kernel
theorem dX0_init_33 : decode cX0_init 33 = .ok (.invokespecial 23, 3) := by decide +kernel
theorem dX0_init_36 : decode cX0_init 36 = .ok (.putfield 24, 3) := by decide +kernel
theorem dX0_init_39 : decode cX0_init 39 = .ok (.aload_n 0, 1) := by decide +kernel
theorem dX0_init_40 : decode cX0_init 40 = .ok (.iconst 0, 1) := by decide +kernel
theorem dX0_init_41 : decode cX0_init 41 = .ok (.putfield 28, 3) := by decide +kernel
theorem dX0_init_44 : decode cX0_init 44 = .ok (.return_, 1) := by decide +kernel
theorem dX0_intervals_0 : decode cX0_intervals 0 = .ok (.aload_n 0, 1) := by decide +kernel
theorem dX0_intervals_1 : decode cX0_intervals 1 = .ok (.getfield 28, 3) := by decide +kernel
theorem dX0_intervals_4 : decode cX0_intervals 4 = .ok (.ireturn, 1) := by decide +kernel
theorem dX0_isFull_0 : decode cX0_isFull 0 = .ok (.aload_n 0, 1) := by decide +kernel
theorem dX0_isFull_1 : decode cX0_isFull 1 = .ok (.getfield 28, 3) := by decide +kernel
theorem dX0_isFull_4 : decode cX0_isFull 4 = .ok (.bipush 6, 2) := by decide +kernel
theorem dX0_isFull_6 : decode cX0_isFull 6 = .ok (.if_icmp .lt 7, 3) := by decide +kernel
theorem dX0_isFull_9 : decode cX0_isFull 9 = .ok (.iconst 1, 1) := by decide +kernel
theorem dX0_isFull_10 : decode cX0_isFull 10 = .ok (.goto 4, 3) := by decide +kernel
theorem dX0_isFull_13 : decode cX0_isFull 13 = .ok (.iconst 0, 1) := by decide +kernel
theorem dX0_isFull_14 : decode cX0_isFull 14 = .ok (.ireturn, 1) := by decide +kernel
set_option maxRecDepth 20000 in
theorem ggX0_add_X6_put : GoodIn wsX0_add wsX6_put := goodIn_r _ [7] (by decide +kernel) (by decide +kernel)
set_option maxRecDepth 20000 in
theorem gX0_add_X6_put_n32 : GoodIn wsX0_add (wsX6_put) := ggX0_add_X6_put
theorem dX0_add_0 : decode cX0_add 0 = .ok (.aload_n 0, 1) := by decide +kernel
theorem dX0_add_1 : decode cX0_add 1 = .ok (.getfield 28, 3) := by decide +kernel
theorem dX0_add_4 : decode cX0_add 4 = .ok (.istore_n 2, 1) := by decide +kernel
theorem dX0_add_5 : decode cX0_add 5 = .ok (.aload_n 0, 1) := by decide +kernel
theorem dX0_add_6 : decode cX0_add 6 = .ok (.getfield 9, 3) := by decide +kernel
theorem dX0_add_9 : decode cX0_add 9 = .ok (.iload_n 2, 1) := by decide +kernel
theorem dX0_add_10 : decode cX0_add 10 = .ok (.iload_n 1, 1) := by decide +kernel
theorem dX0_add_11 : decode cX0_add 11 = .ok (.invokestatic 32, 3) := by decide +kernel
theorem dX0_add_14 : decode cX0_add 14 = .ok (.aload_n 0, 1) := by decide +kernel
theorem dX0_add_15 : decode cX0_add 15 = .ok (.getfield 15, 3) := by decide +kernel
theorem dX0_add_18 : decode cX0_add 18 = .ok (.iload_n 2, 1) := by decide +kernel
theorem dX0_add_19 : decode cX0_add 19 = .ok (.iload_n 2, 1) := by decide +kernel
theorem dX0_add_20 : decode cX0_add 20 = .ok (.invokestatic 32, 3) := by decide +kernel
theorem dX0_add_23 : decode cX0_add 23 = .ok (.aload_n 0, 1) := by decide +kernel
theorem dX0_add_24 : decode cX0_add 24 = .ok (.getfield 18, 3) := by decide +kernel
theorem dX0_add_27 : decode cX0_add 27 = .ok (.iload_n 2, 1) := by decide +kernel
theorem dX0_add_28 : decode cX0_add 28 = .ok (.iload_n 2, 1) := by decide +kernel
theorem dX0_add_29 : decode cX0_add 29 = .ok (.invokestatic 32, 3) := by decide +kernel
theorem dX0_add_32 : decode cX0_add 32 = .ok (.aload_n 0, 1) := by decide +kernel
theorem dX0_add_33 : decode cX0_add 33 = .ok (.dup, 1) := by decide +kernel
theorem dX0_add_34 : decode cX0_add 34 = .ok (.getfield 28, 3) := by decide +kernel
theorem dX0_add_37 : decode cX0_add 37 = .ok (.iconst 1, 1) := by decide +kernel
theorem dX0_add_38 : decode cX0_add 38 = .ok (.iadd, 1) := by decide +kernel
theorem dX0_add_39 : decode cX0_add 39 = .ok (.putfield 28, 3) := by decide +kernel
theorem dX0_add_42 : decode cX0_add 42 = .ok (.iload_n 2, 1) := by decide +kernel
theorem dX0_add_43 : decode cX0_add 43 = .ok (.ireturn, 1) := by decide +kernel
set_option maxRecDepth 20000 in
theorem ggX0_points_X6_at : GoodIn wsX0_points wsX6_at := goodIn_r _ [5] (by decide +kernel) (by decide +kernel)
set_option maxRecDepth 20000 in
theorem gX0_points_X6_at_n36 : GoodIn wsX0_points (wsX6_at) := ggX0_points_X6_at
theorem dX0_points_0 : decode cX0_points 0 = .ok (.iconst 0, 1) := by decide +kernel
theorem dX0_points_1 : decode cX0_points 1 = .ok (.istore_n 1, 1) := by decide +kernel
theorem dX0_points_2 : decode cX0_points 2 = .ok (.iconst 0, 1) := by decide +kernel
theorem dX0_points_3 : decode cX0_points 3 = .ok (.istore_n 2, 1) := by decide +kernel
theorem dX0_points_4 : decode cX0_points 4 = .ok (.iload_n 2, 1) := by decide +kernel
theorem dX0_points_5 : decode cX0_points 5 = .ok (.aload_n 0, 1) := by decide +kernel
theorem dX0_points_6 : decode cX0_points 6 = .ok (.getfield 28, 3) := by decide +kernel
theorem dX0_points_9 : decode cX0_points 9 = .ok (.if_icmp .ge 20, 3) := by decide +kernel
theorem dX0_points_12 : decode cX0_points 12 = .ok (.iload_n 1, 1) := by decide +kernel
theorem dX0_points_13 : decode cX0_points 13 = .ok (.aload_n 0, 1) := by decide +kernel
theorem dX0_points_14 : decode cX0_points 14 = .ok (.getfield 9, 3) := by decide +kernel
theorem dX0_points_17 : decode cX0_points 17 = .ok (.iload_n 2, 1) := by decide +kernel
theorem dX0_points_18 : decode cX0_points 18 = .ok (.invokestatic 36, 3) := by decide +kernel
theorem dX0_points_21 : decode cX0_points 21 = .ok (.iadd, 1) := by decide +kernel
theorem dX0_points_22 : decode cX0_points 22 = .ok (.istore_n 1, 1) := by decide +kernel
theorem dX0_points_23 : decode cX0_points 23 = .ok (.iinc 2 1, 3) := by decide +kernel
theorem dX0_points_26 : decode cX0_points 26 = .ok (.goto (-22), 3) := by decide +kernel
theorem dX0_points_29 : decode cX0_points 29 = .ok (.iload_n 1, 1) := by decide +kernel
theorem dX0_points_30 : decode cX0_points 30 = .ok (.ireturn, 1) := by decide +kernel
set_option maxRecDepth 20000 in
theorem ggX0_aboveAt_X6_at : GoodIn wsX0_aboveAt wsX6_at := goodIn_r _ [4] (by decide +kernel) (by decide +kernel)
set_option maxRecDepth 20000 in
theorem gX0_aboveAt_X6_at_n36 : GoodIn wsX0_aboveAt (wsX6_at) := ggX0_aboveAt_X6_at
theorem dX0_aboveAt_0 : decode cX0_aboveAt 0 = .ok (.aload_n 0, 1) := by decide +kernel
theorem dX0_aboveAt_1 : decode cX0_aboveAt 1 = .ok (.getfield 15, 3) := by decide +kernel
theorem dX0_aboveAt_4 : decode cX0_aboveAt 4 = .ok (.iload_n 1, 1) := by decide +kernel
theorem dX0_aboveAt_5 : decode cX0_aboveAt 5 = .ok (.invokestatic 36, 3) := by decide +kernel
theorem dX0_aboveAt_8 : decode cX0_aboveAt 8 = .ok (.ireturn, 1) := by decide +kernel
set_option maxRecDepth 20000 in
theorem ggX0_belowAt_X6_at : GoodIn wsX0_belowAt wsX6_at := goodIn_r _ [4] (by decide +kernel) (by decide +kernel)
set_option maxRecDepth 20000 in
theorem gX0_belowAt_X6_at_n36 : GoodIn wsX0_belowAt (wsX6_at) := ggX0_belowAt_X6_at
theorem dX0_belowAt_0 : decode cX0_belowAt 0 = .ok (.aload_n 0, 1) := by decide +kernel
theorem dX0_belowAt_1 : decode cX0_belowAt 1 = .ok (.getfield 18, 3) := by decide +kernel
theorem dX0_belowAt_4 : decode cX0_belowAt 4 = .ok (.iload_n 1, 1) := by decide +kernel
theorem dX0_belowAt_5 : decode cX0_belowAt 5 = .ok (.invokestatic 36, 3) := by decide +kernel
theorem dX0_belowAt_8 : decode cX0_belowAt 8 = .ok (.ireturn, 1) := by decide +kernel
set_option maxRecDepth 20000 in
theorem ggX0_lengthAt_X6_at : GoodIn wsX0_lengthAt wsX6_at := goodIn_r _ [5] (by decide +kernel) (by decide +kernel)
set_option maxRecDepth 20000 in
theorem gX0_lengthAt_X6_at_n36 : GoodIn wsX0_lengthAt (wsX6_at) := ggX0_lengthAt_X6_at
theorem dX0_lengthAt_0 : decode cX0_lengthAt 0 = .ok (.aload_n 0, 1) := by decide +kernel
theorem dX0_lengthAt_1 : decode cX0_lengthAt 1 = .ok (.getfield 9, 3) := by decide +kernel
theorem dX0_lengthAt_4 : decode cX0_lengthAt 4 = .ok (.aload_n 0, 1) := by decide +kernel
theorem dX0_lengthAt_5 : decode cX0_lengthAt 5 = .ok (.getfield 15, 3) := by decide +kernel
theorem dX0_lengthAt_8 : decode cX0_lengthAt 8 = .ok (.iload_n 1, 1) := by decide +kernel
theorem dX0_lengthAt_9 : decode cX0_lengthAt 9 = .ok (.invokestatic 36, 3) := by decide +kernel
theorem dX0_lengthAt_12 : decode cX0_lengthAt 12 = .ok (.invokestatic 36, 3) := by decide +kernel
theorem dX0_lengthAt_15 : decode cX0_lengthAt 15 = .ok (.ireturn, 1) := by decide +kernel
set_option maxRecDepth 20000 in
theorem ggX0_swapBelow_X6_exchangeIn : GoodIn wsX0_swapBelow wsX6_exchangeIn := goodIn_r _ [4, 5, 6, 3, 7, 8, 9, 10] (by decide +kernel) (by decide +kernel)
set_option maxRecDepth 20000 in
theorem gX0_swapBelow_X6_exchangeIn_n40 : GoodIn wsX0_swapBelow (wsX6_exchangeIn) := ggX0_swapBelow_X6_exchangeIn
set_option maxRecDepth 20000 in
theorem ggX0_swapBelow_X6_at : GoodIn wsX0_swapBelow wsX6_at := goodIn_r _ [7] (by decide +kernel) (by decide +kernel)
set_option maxRecDepth 20000 in
theorem gX0_swapBelow_X6_at_n36 : GoodIn wsX0_swapBelow (wsX6_at) := ggX0_swapBelow_X6_at
theorem dX0_swapBelow_0 : decode cX0_swapBelow 0 = .ok (.aload_n 0, 1) := by decide +kernel
theorem dX0_swapBelow_1 : decode cX0_swapBelow 1 = .ok (.getfield 18, 3) := by decide +kernel
theorem dX0_swapBelow_4 : decode cX0_swapBelow 4 = .ok (.iload_n 1, 1) := by decide +kernel
theorem dX0_swapBelow_5 : decode cX0_swapBelow 5 = .ok (.iload_n 2, 1) := by decide +kernel
theorem dX0_swapBelow_6 : decode cX0_swapBelow 6 = .ok (.invokestatic 40, 3) := by decide +kernel
theorem dX0_swapBelow_9 : decode cX0_swapBelow 9 = .ok (.aload_n 0, 1) := by decide +kernel
theorem dX0_swapBelow_10 : decode cX0_swapBelow 10 = .ok (.getfield 18, 3) := by decide +kernel
theorem dX0_swapBelow_13 : decode cX0_swapBelow 13 = .ok (.iload_n 1, 1) := by decide +kernel
theorem dX0_swapBelow_14 : decode cX0_swapBelow 14 = .ok (.invokestatic 36, 3) := by decide +kernel
theorem dX0_swapBelow_17 : decode cX0_swapBelow 17 = .ok (.ireturn, 1) := by decide +kernel
set_option maxRecDepth 20000 in
theorem ggX0_canInduce_X6_at : GoodIn wsX0_canInduce wsX6_at := goodIn_r _ [7] (by decide +kernel) (by decide +kernel)
set_option maxRecDepth 20000 in
theorem gX0_canInduce_X6_at_n36 : GoodIn wsX0_canInduce (wsX6_at) := ggX0_canInduce_X6_at
theorem dX0_canInduce_0 : decode cX0_canInduce 0 = .ok (.aload_n 0, 1) := by decide +kernel
theorem dX0_canInduce_1 : decode cX0_canInduce 1 = .ok (.getfield 15, 3) := by decide +kernel
theorem dX0_canInduce_4 : decode cX0_canInduce 4 = .ok (.aload_n 0, 1) := by decide +kernel
theorem dX0_canInduce_5 : decode cX0_canInduce 5 = .ok (.getfield 28, 3) := by decide +kernel
theorem dX0_canInduce_8 : decode cX0_canInduce 8 = .ok (.iconst 1, 1) := by decide +kernel
theorem dX0_canInduce_9 : decode cX0_canInduce 9 = .ok (.isub, 1) := by decide +kernel
theorem dX0_canInduce_10 : decode cX0_canInduce 10 = .ok (.invokestatic 36, 3) := by decide +kernel
theorem dX0_canInduce_13 : decode cX0_canInduce 13 = .ok (.istore_n 1, 1) := by decide +kernel
theorem dX0_canInduce_14 : decode cX0_canInduce 14 = .ok (.aload_n 0, 1) := by decide +kernel
theorem dX0_canInduce_15 : decode cX0_canInduce 15 = .ok (.getfield 18, 3) := by decide +kernel
theorem dX0_canInduce_18 : decode cX0_canInduce 18 = .ok (.aload_n 0, 1) := by decide +kernel
theorem dX0_canInduce_19 : decode cX0_canInduce 19 = .ok (.getfield 28, 3) := by decide +kernel
theorem dX0_canInduce_22 : decode cX0_canInduce 22 = .ok (.iconst 1, 1) := by decide +kernel
theorem dX0_canInduce_23 : decode cX0_canInduce 23 = .ok (.isub, 1) := by decide +kernel
theorem dX0_canInduce_24 : decode cX0_canInduce 24 = .ok (.invokestatic 36, 3) := by decide +kernel
theorem dX0_canInduce_27 : decode cX0_canInduce 27 = .ok (.istore_n 2, 1) := by decide +kernel
theorem dX0_canInduce_28 : decode cX0_canInduce 28 = .ok (.aload_n 0, 1) := by decide +kernel
theorem dX0_canInduce_29 : decode cX0_canInduce 29 = .ok (.getfield 28, 3) := by decide +kernel
theorem dX0_canInduce_32 : decode cX0_canInduce 32 = .ok (.ifCond .le 31, 3) := by decide +kernel
theorem dX0_canInduce_35 : decode cX0_canInduce 35 = .ok (.iload_n 1, 1) := by decide +kernel
theorem dX0_canInduce_36 : decode cX0_canInduce 36 = .ok (.iload_n 2, 1) := by decide +kernel
theorem dX0_canInduce_37 : decode cX0_canInduce 37 = .ok (.if_icmp .eq 26, 3) := by decide +kernel
theorem dX0_canInduce_40 : decode cX0_canInduce 40 = .ok (.aload_n 0, 1) := by decide +kernel
theorem dX0_canInduce_41 : decode cX0_canInduce 41 = .ok (.getfield 9, 3) := by decide +kernel
theorem dX0_canInduce_44 : decode cX0_canInduce 44 = .ok (.iload_n 1, 1) := by decide +kernel
theorem dX0_canInduce_45 : decode cX0_canInduce 45 = .ok (.invokestatic 36, 3) := by decide +kernel
theorem dX0_canInduce_48 : decode cX0_canInduce 48 = .ok (.aload_n 0, 1) := by decide +kernel
theorem dX0_canInduce_49 : decode cX0_canInduce 49 = .ok (.getfield 9, 3) := by decide +kernel
theorem dX0_canInduce_52 : decode cX0_canInduce 52 = .ok (.iload_n 2, 1) := by decide +kernel
theorem dX0_canInduce_53 : decode cX0_canInduce 53 = .ok (.invokestatic 36, 3) := by decide +kernel
theorem dX0_canInduce_56 : decode cX0_canInduce 56 = .ok (.if_icmp .eq 7, 3) := by decide +kernel
theorem dX0_canInduce_59 : decode cX0_canInduce 59 = .ok (.iconst 1, 1) := by decide +kernel
theorem dX0_canInduce_60 : decode cX0_canInduce 60 = .ok (.goto 4, 3) := by decide +kernel
theorem dX0_canInduce_63 : decode cX0_canInduce 63 = .ok (.iconst 0, 1) := by decide +kernel
theorem dX0_canInduce_64 : decode cX0_canInduce 64 = .ok (.ireturn, 1) := by decide +kernel
set_option maxRecDepth 20000 in
theorem ggX0_induceOnce_X6_at : GoodIn wsX0_induceOnce wsX6_at := goodIn_r _ [7] (by decide +kernel) (by decide +kernel)
set_option maxRecDepth 20000 in
theorem gX0_induceOnce_X6_at_n36 : GoodIn wsX0_induceOnce (wsX6_at) := ggX0_induceOnce_X6_at
set_option maxRecDepth 20000 in
theorem ggX0_induceOnce_X6_put : GoodIn wsX0_induceOnce wsX6_put := goodIn_r _ [9] (by decide +kernel) (by decide +kernel)
set_option maxRecDepth 20000 in
theorem gX0_induceOnce_X6_put_n32 : GoodIn wsX0_induceOnce (wsX6_put) := ggX0_induceOnce_X6_put
set_option maxRecDepth 20000 in
theorem ggX0_induceOnce_X0_moveLastBehind : GoodIn wsX0_induceOnce wsX0_moveLastBehind := goodIn_r _ [14, 2, 15, 6, 16, 17, 5, 7, 8, 9, 18, 19, 20, 21, 22] (by decide +kernel) (by decide +kernel)
set_option maxRecDepth 20000 in
theorem gX0_induceOnce_X0_moveLastBehind : GoodIn wsX0_induceOnce (wsV RX0 43 RX0 yX0_moveLastBehind wsX0_moveLastBehind) := goodIn_app (goodIn_of _ (by decide +kernel)) ggX0_induceOnce_X0_moveLastBehind
theorem dX0_induceOnce_0 : decode cX0_induceOnce 0 = .ok (.aload_n 0, 1) := by decide +kernel
theorem dX0_induceOnce_1 : decode cX0_induceOnce 1 = .ok (.getfield 15, 3) := by decide +kernel
theorem dX0_induceOnce_4 : decode cX0_induceOnce 4 = .ok (.aload_n 0, 1) := by decide +kernel
theorem dX0_induceOnce_5 : decode cX0_induceOnce 5 = .ok (.getfield 28, 3) := by decide +kernel
theorem dX0_induceOnce_8 : decode cX0_induceOnce 8 = .ok (.iconst 1, 1) := by decide +kernel
theorem dX0_induceOnce_9 : decode cX0_induceOnce 9 = .ok (.isub, 1) := by decide +kernel
theorem dX0_induceOnce_10 : decode cX0_induceOnce 10 = .ok (.invokestatic 36, 3) := by decide +kernel
theorem dX0_induceOnce_13 : decode cX0_induceOnce 13 = .ok (.istore_n 1, 1) := by decide +kernel
theorem dX0_induceOnce_14 : decode cX0_induceOnce 14 = .ok (.aload_n 0, 1) := by decide +kernel
theorem dX0_induceOnce_15 : decode cX0_induceOnce 15 = .ok (.getfield 18, 3) := by decide +kernel
theorem dX0_induceOnce_18 : decode cX0_induceOnce 18 = .ok (.aload_n 0, 1) := by decide +kernel
theorem dX0_induceOnce_19 : decode cX0_induceOnce 19 = .ok (.getfield 28, 3) := by decide +kernel
theorem dX0_induceOnce_22 : decode cX0_induceOnce 22 = .ok (.iconst 1, 1) := by decide +kernel
theorem dX0_induceOnce_23 : decode cX0_induceOnce 23 = .ok (.isub, 1) := by decide +kernel
theorem dX0_induceOnce_24 : decode cX0_induceOnce 24 = .ok (.invokestatic 36, 3) := by decide +kernel
theorem dX0_induceOnce_27 : decode cX0_induceOnce 27 = .ok (.istore_n 2, 1) := by decide +kernel
theorem dX0_induceOnce_28 : decode cX0_induceOnce 28 = .ok (.aload_n 0, 1) := by decide +kernel
theorem dX0_induceOnce_29 : decode cX0_induceOnce 29 = .ok (.getfield 9, 3) := by decide +kernel
theorem dX0_induceOnce_32 : decode cX0_induceOnce 32 = .ok (.iload_n 1, 1) := by decide +kernel
theorem dX0_induceOnce_33 : decode cX0_induceOnce 33 = .ok (.invokestatic 36, 3) := by decide +kernel
theorem dX0_induceOnce_36 : decode cX0_induceOnce 36 = .ok (.aload_n 0, 1) := by decide +kernel
theorem dX0_induceOnce_37 : decode cX0_induceOnce 37 = .ok (.getfield 9, 3) := by decide +kernel
theorem dX0_induceOnce_40 : decode cX0_induceOnce 40 = .ok (.iload_n 2, 1) := by decide +kernel
theorem dX0_induceOnce_41 : decode cX0_induceOnce 41 = .ok (.invokestatic 36, 3) := by decide +kernel
theorem dX0_induceOnce_44 : decode cX0_induceOnce 44 = .ok (.isub, 1) := by decide +kernel
theorem dX0_induceOnce_45 : decode cX0_induceOnce 45 = .ok (.istore_n 3, 1) := by decide +kernel
theorem dX0_induceOnce_46 : decode cX0_induceOnce 46 = .ok (.iload_n 3, 1) := by decide +kernel
theorem dX0_induceOnce_47 : decode cX0_induceOnce 47 = .ok (.ifCond .le 24, 3) := by decide +kernel
theorem dX0_induceOnce_50 : decode cX0_induceOnce 50 = .ok (.aload_n 0, 1) := by decide +kernel
theorem dX0_induceOnce_51 : decode cX0_induceOnce 51 = .ok (.getfield 9, 3) := by decide +kernel
theorem dX0_induceOnce_54 : decode cX0_induceOnce 54 = .ok (.iload_n 1, 1) := by decide +kernel
theorem dX0_induceOnce_55 : decode cX0_induceOnce 55 = .ok (.iload_n 3, 1) := by decide +kernel
theorem dX0_induceOnce_56 : decode cX0_induceOnce 56 = .ok (.invokestatic 32, 3) := by decide +kernel
theorem dX0_induceOnce_59 : decode cX0_induceOnce 59 = .ok (.aload_n 0, 1) := by decide +kernel
theorem dX0_induceOnce_60 : decode cX0_induceOnce 60 = .ok (.aload_n 0, 1) := by decide +kernel
theorem dX0_induceOnce_61 : decode cX0_induceOnce 61 = .ok (.getfield 18, 3) := by decide +kernel
theorem dX0_induceOnce_64 : decode cX0_induceOnce 64 = .ok (.iload_n 1, 1) := by decide +kernel
theorem dX0_induceOnce_65 : decode cX0_induceOnce 65 = .ok (.invokevirtual 43, 3) := by decide +kernel
theorem dX0_induceOnce_68 : decode cX0_induceOnce 68 = .ok (.goto 22, 3) := by decide +kernel
theorem dX0_induceOnce_71 : decode cX0_induceOnce 71 = .ok (.aload_n 0, 1) := by decide +kernel
theorem dX0_induceOnce_72 : decode cX0_induceOnce 72 = .ok (.getfield 9, 3) := by decide +kernel
theorem dX0_induceOnce_75 : decode cX0_induceOnce 75 = .ok (.iload_n 2, 1) := by decide +kernel
theorem dX0_induceOnce_76 : decode cX0_induceOnce 76 = .ok (.iload_n 3, 1) := by decide +kernel
theorem dX0_induceOnce_77 : decode cX0_induceOnce 77 = .ok (.ineg, 1) := by decide +kernel
theorem dX0_induceOnce_78 : decode cX0_induceOnce 78 = .ok (.invokestatic 32, 3) := by decide +kernel
theorem dX0_induceOnce_81 : decode cX0_induceOnce 81 = .ok (.aload_n 0, 1) := by decide +kernel
theorem dX0_induceOnce_82 : decode cX0_induceOnce 82 = .ok (.aload_n 0, 1) := by decide +kernel
theorem dX0_induceOnce_83 : decode cX0_induceOnce 83 = .ok (.getfield 15, 3) := by decide +kernel
theorem dX0_induceOnce_86 : decode cX0_induceOnce 86 = .ok (.iload_n 2, 1) := by decide +kernel
theorem dX0_induceOnce_87 : decode cX0_induceOnce 87 = .ok (.invokevirtual 43, 3) := by decide +kernel
theorem dX0_induceOnce_90 : decode cX0_induceOnce 90 = .ok (.return_, 1) := by decide +kernel
set_option maxRecDepth 20000 in
theorem ggX0_moveLastBehind_X6_placeOf : GoodIn wsX0_moveLastBehind wsX6_placeOf := goodIn_r _ [4, 5, 6, 3, 7] (by decide +kernel) (by decide +kernel)
set_option maxRecDepth 20000 in
theorem gX0_moveLastBehind_X6_placeOf_n47 : GoodIn wsX0_moveLastBehind (wsX6_placeOf) := ggX0_moveLastBehind_X6_placeOf
set_option maxRecDepth 20000 in
theorem ggX0_moveLastBehind_X6_at : GoodIn wsX0_moveLastBehind wsX6_at := goodIn_r _ [7] (by decide +kernel) (by decide +kernel)
set_option maxRecDepth 20000 in
theorem gX0_moveLastBehind_X6_at_n36 : GoodIn wsX0_moveLastBehind (wsX6_at) := ggX0_moveLastBehind_X6_at
set_option maxRecDepth 20000 in
theorem ggX0_moveLastBehind_X6_put : GoodIn wsX0_moveLastBehind wsX6_put := goodIn_r _ [9] (by decide +kernel) (by decide +kernel)
set_option maxRecDepth 20000 in
theorem gX0_moveLastBehind_X6_put_n32 : GoodIn wsX0_moveLastBehind (wsX6_put) := ggX0_moveLastBehind_X6_put
theorem dX0_moveLastBehind_0 : decode cX0_moveLastBehind 0 = .ok (.aload_n 1, 1) := by decide +kernel
theorem dX0_moveLastBehind_1 : decode cX0_moveLastBehind 1 = .ok (.aload_n 0, 1) := by decide +kernel
theorem dX0_moveLastBehind_2 : decode cX0_moveLastBehind 2 = .ok (.getfield 28, 3) := by decide +kernel
theorem dX0_moveLastBehind_5 : decode cX0_moveLastBehind 5 = .ok (.iload_n 2, 1) := by decide +kernel
theorem dX0_moveLastBehind_6 : decode cX0_moveLastBehind 6 = .ok (.invokestatic 47, 3) := by decide +kernel
theorem dX0_moveLastBehind_9 : decode cX0_moveLastBehind 9 = .ok (.iconst 1, 1) := by decide +kernel
theorem dX0_moveLastBehind_10 : decode cX0_moveLastBehind 10 = .ok (.iadd, 1) := by decide +kernel
theorem dX0_moveLastBehind_11 : decode cX0_moveLastBehind 11 = .ok (.istore_n 3, 1) := by decide +kernel
theorem dX0_moveLastBehind_12 : decode cX0_moveLastBehind 12 = .ok (.aload_n 1, 1) := by decide +kernel
theorem dX0_moveLastBehind_13 : decode cX0_moveLastBehind 13 = .ok (.aload_n 0, 1) := by decide +kernel
theorem dX0_moveLastBehind_14 : decode cX0_moveLastBehind 14 = .ok (.getfield 28, 3) := by decide +kernel
theorem dX0_moveLastBehind_17 : decode cX0_moveLastBehind 17 = .ok (.iconst 1, 1) := by decide +kernel
theorem dX0_moveLastBehind_18 : decode cX0_moveLastBehind 18 = .ok (.isub, 1) := by decide +kernel
theorem dX0_moveLastBehind_19 : decode cX0_moveLastBehind 19 = .ok (.invokestatic 36, 3) := by decide +kernel
theorem dX0_moveLastBehind_22 : decode cX0_moveLastBehind 22 = .ok (.istore 4, 2) := by decide +kernel
theorem dX0_moveLastBehind_24 : decode cX0_moveLastBehind 24 = .ok (.aload_n 0, 1) := by decide +kernel
theorem dX0_moveLastBehind_25 : decode cX0_moveLastBehind 25 = .ok (.getfield 28, 3) := by decide +kernel
theorem dX0_moveLastBehind_28 : decode cX0_moveLastBehind 28 = .ok (.iconst 1, 1) := by decide +kernel
theorem dX0_moveLastBehind_29 : decode cX0_moveLastBehind 29 = .ok (.isub, 1) := by decide +kernel
theorem dX0_moveLastBehind_30 : decode cX0_moveLastBehind 30 = .ok (.istore 5, 2) := by decide +kernel
theorem dX0_moveLastBehind_32 : decode cX0_moveLastBehind 32 = .ok (.iload 5, 2) := by decide +kernel
theorem dX0_moveLastBehind_34 : decode cX0_moveLastBehind 34 = .ok (.iload_n 3, 1) := by decide +kernel
theorem dX0_moveLastBehind_35 : decode cX0_moveLastBehind 35 = .ok (.if_icmp .le 23, 3) := by decide +kernel
theorem dX0_moveLastBehind_38 : decode cX0_moveLastBehind 38 = .ok (.aload_n 1, 1) := by decide +kernel
theorem dX0_moveLastBehind_39 : decode cX0_moveLastBehind 39 = .ok (.iload 5, 2) := by decide +kernel
theorem dX0_moveLastBehind_41 : decode cX0_moveLastBehind 41 = .ok (.aload_n 1, 1) := by decide +kernel
theorem dX0_moveLastBehind_42 : decode cX0_moveLastBehind 42 = .ok (.iload 5, 2) := by decide +kernel
theorem dX0_moveLastBehind_44 : decode cX0_moveLastBehind 44 = .ok (.iconst 1, 1) := by decide +kernel
theorem dX0_moveLastBehind_45 : decode cX0_moveLastBehind 45 = .ok (.isub, 1) := by decide +kernel
theorem dX0_moveLastBehind_46 : decode cX0_moveLastBehind 46 = .ok (.invokestatic 36, 3) := by decide +kernel
theorem dX0_moveLastBehind_49 : decode cX0_moveLastBehind 49 = .ok (.invokestatic 32, 3) := by decide +kernel
theorem dX0_moveLastBehind_52 : decode cX0_moveLastBehind 52 = .ok (.iinc 5 (-1), 3) := by decide +kernel
theorem dX0_moveLastBehind_55 : decode cX0_moveLastBehind 55 = .ok (.goto (-23), 3) := by decide +kernel
theorem dX0_moveLastBehind_58 : decode cX0_moveLastBehind 58 = .ok (.aload_n 1, 1) := by decide +kernel
theorem dX0_moveLastBehind_59 : decode cX0_moveLastBehind 59 = .ok (.iload_n 3, 1) := by decide +kernel
theorem dX0_moveLastBehind_60 : decode cX0_moveLastBehind 60 = .ok (.iload 4, 2) := by decide +kernel
theorem dX0_moveLastBehind_62 : decode cX0_moveLastBehind 62 = .ok (.invokestatic 32, 3) := by decide +kernel
theorem dX0_moveLastBehind_65 : decode cX0_moveLastBehind 65 = .ok (.return_, 1) := by decide +kernel
set_option maxRecDepth 20000 in
theorem ggX0_imageOf_X0_carried : GoodIn wsX0_imageOf wsX0_carried := goodIn_r _ [7, 8, 9, 10, 11, 12, 13, 14, 15, 6, 16, 17, 18, 19, 20, 21] (by decide +kernel) (by decide +kernel)
set_option maxRecDepth 20000 in
theorem gX0_imageOf_X0_carried : GoodIn wsX0_imageOf (wsV RX0 51 RX0 yX0_carried wsX0_carried) := goodIn_app (goodIn_of _ (by decide +kernel)) ggX0_imageOf_X0_carried
theorem dX0_imageOf_0 : decode cX0_imageOf 0 = .ok (.aload_n 0, 1) := by decide +kernel
theorem dX0_imageOf_1 : decode cX0_imageOf 1 = .ok (.iload_n 1, 1) := by decide +kernel
theorem dX0_imageOf_2 : decode cX0_imageOf 2 = .ok (.aload_n 0, 1) := by decide +kernel
theorem dX0_imageOf_3 : decode cX0_imageOf 3 = .ok (.getfield 15, 3) := by decide +kernel
theorem dX0_imageOf_6 : decode cX0_imageOf 6 = .ok (.aload_n 0, 1) := by decide +kernel
theorem dX0_imageOf_7 : decode cX0_imageOf 7 = .ok (.getfield 18, 3) := by decide +kernel
theorem dX0_imageOf_10 : decode cX0_imageOf 10 = .ok (.invokevirtual 51, 3) := by decide +kernel
theorem dX0_imageOf_13 : decode cX0_imageOf 13 = .ok (.ireturn, 1) := by decide +kernel
set_option maxRecDepth 20000 in
theorem ggX0_originOf_X0_carried : GoodIn wsX0_originOf wsX0_carried := goodIn_r _ [7, 8, 9, 10, 11, 12, 13, 14, 15, 6, 16, 17, 18, 19, 20, 21] (by decide +kernel) (by decide +kernel)
set_option maxRecDepth 20000 in
theorem gX0_originOf_X0_carried : GoodIn wsX0_originOf (wsV RX0 51 RX0 yX0_carried wsX0_carried) := goodIn_app (goodIn_of _ (by decide +kernel)) ggX0_originOf_X0_carried
theorem dX0_originOf_0 : decode cX0_originOf 0 = .ok (.aload_n 0, 1) := by decide +kernel
theorem dX0_originOf_1 : decode cX0_originOf 1 = .ok (.iload_n 1, 1) := by decide +kernel
theorem dX0_originOf_2 : decode cX0_originOf 2 = .ok (.aload_n 0, 1) := by decide +kernel
theorem dX0_originOf_3 : decode cX0_originOf 3 = .ok (.getfield 18, 3) := by decide +kernel
theorem dX0_originOf_6 : decode cX0_originOf 6 = .ok (.aload_n 0, 1) := by decide +kernel
theorem dX0_originOf_7 : decode cX0_originOf 7 = .ok (.getfield 15, 3) := by decide +kernel
theorem dX0_originOf_10 : decode cX0_originOf 10 = .ok (.invokevirtual 51, 3) := by decide +kernel
theorem dX0_originOf_13 : decode cX0_originOf 13 = .ok (.ireturn, 1) := by decide +kernel
set_option maxRecDepth 20000 in
theorem ggX0_carried_X6_at : GoodIn wsX0_carried wsX6_at := goodIn_r _ [5] (by decide +kernel) (by decide +kernel)
set_option maxRecDepth 20000 in
theorem gX0_carried_X6_at_n36 : GoodIn wsX0_carried (wsX6_at) := ggX0_carried_X6_at
set_option maxRecDepth 20000 in
theorem ggX0_carried_X0_beginIn : GoodIn wsX0_carried wsX0_beginIn := goodIn_r _ [10, 1, 2, 3, 4, 5, 11, 12, 13, 14, 15] (by decide +kernel) (by decide +kernel)
set_option maxRecDepth 20000 in
theorem gX0_carried_X0_beginIn : GoodIn wsX0_carried (wsV RX0 55 RX0 yX0_beginIn wsX0_beginIn) := goodIn_app (goodIn_of _ (by decide +kernel)) ggX0_carried_X0_beginIn
theorem dX0_carried_0 : decode cX0_carried 0 = .ok (.iconst 0, 1) := by decide +kernel
theorem dX0_carried_1 : decode cX0_carried 1 = .ok (.istore 4, 2) := by decide +kernel
theorem dX0_carried_3 : decode cX0_carried 3 = .ok (.iconst 0, 1) := by decide +kernel
theorem dX0_carried_4 : decode cX0_carried 4 = .ok (.istore 5, 2) := by decide +kernel
theorem dX0_carried_6 : decode cX0_carried 6 = .ok (.iload 5, 2) := by decide +kernel
theorem dX0_carried_8 : decode cX0_carried 8 = .ok (.aload_n 0, 1) := by decide +kernel
theorem dX0_carried_9 : decode cX0_carried 9 = .ok (.getfield 28, 3) := by decide +kernel
theorem dX0_carried_12 : decode cX0_carried 12 = .ok (.if_icmp .ge 54, 3) := by decide +kernel
theorem dX0_carried_15 : decode cX0_carried 15 = .ok (.aload_n 2, 1) := by decide +kernel
theorem dX0_carried_16 : decode cX0_carried 16 = .ok (.iload 5, 2) := by decide +kernel
theorem dX0_carried_18 : decode cX0_carried 18 = .ok (.invokestatic 36, 3) := by decide +kernel
theorem dX0_carried_21 : decode cX0_carried 21 = .ok (.istore 6, 2) := by decide +kernel
theorem dX0_carried_23 : decode cX0_carried 23 = .ok (.iload 4, 2) := by decide +kernel
theorem dX0_carried_25 : decode cX0_carried 25 = .ok (.aload_n 0, 1) := by decide +kernel
theorem dX0_carried_26 : decode cX0_carried 26 = .ok (.getfield 9, 3) := by decide +kernel
theorem dX0_carried_29 : decode cX0_carried 29 = .ok (.iload 6, 2) := by decide +kernel
theorem dX0_carried_31 : decode cX0_carried 31 = .ok (.invokestatic 36, 3) := by decide +kernel
theorem dX0_carried_34 : decode cX0_carried 34 = .ok (.iadd, 1) := by decide +kernel
theorem dX0_carried_35 : decode cX0_carried 35 = .ok (.istore 7, 2) := by decide +kernel
theorem dX0_carried_37 : decode cX0_carried 37 = .ok (.iload_n 1, 1) := by decide +kernel
theorem dX0_carried_38 : decode cX0_carried 38 = .ok (.iload 7, 2) := by decide +kernel
theorem dX0_carried_40 : decode cX0_carried 40 = .ok (.if_icmp .ge 16, 3) := by decide +kernel
theorem dX0_carried_43 : decode cX0_carried 43 = .ok (.aload_n 0, 1) := by decide +kernel
theorem dX0_carried_44 : decode cX0_carried 44 = .ok (.aload_n 3, 1) := by decide +kernel
theorem dX0_carried_45 : decode cX0_carried 45 = .ok (.iload 6, 2) := by decide +kernel
theorem dX0_carried_47 : decode cX0_carried 47 = .ok (.invokevirtual 55, 3) := by decide +kernel
theorem dX0_carried_50 : decode cX0_carried 50 = .ok (.iload_n 1, 1) := by decide +kernel
theorem dX0_carried_51 : decode cX0_carried 51 = .ok (.iadd, 1) := by decide +kernel
theorem dX0_carried_52 : decode cX0_carried 52 = .ok (.iload 4, 2) := by decide +kernel
theorem dX0_carried_54 : decode cX0_carried 54 = .ok (.isub, 1) := by decide +kernel
theorem dX0_carried_55 : decode cX0_carried 55 = .ok (.ireturn, 1) := by decide +kernel
theorem dX0_carried_56 : decode cX0_carried 56 = .ok (.iload 7, 2) := by decide +kernel
theorem dX0_carried_58 : decode cX0_carried 58 = .ok (.istore 4, 2) := by decide +kernel
theorem dX0_carried_60 : decode cX0_carried 60 = .ok (.iinc 5 1, 3) := by decide +kernel
theorem dX0_carried_63 : decode cX0_carried 63 = .ok (.goto (-57), 3) := by decide +kernel
theorem dX0_carried_66 : decode cX0_carried 66 = .ok (.iload_n 1, 1) := by decide +kernel
theorem dX0_carried_67 : decode cX0_carried 67 = .ok (.ireturn, 1) := by decide +kernel
set_option maxRecDepth 20000 in
theorem ggX0_beginIn_X6_at : GoodIn wsX0_beginIn wsX6_at := goodIn_r _ [5] (by decide +kernel) (by decide +kernel)
set_option maxRecDepth 20000 in
theorem gX0_beginIn_X6_at_n36 : GoodIn wsX0_beginIn (wsX6_at) := ggX0_beginIn_X6_at
theorem dX0_beginIn_0 : decode cX0_beginIn 0 = .ok (.iconst 0, 1) := by decide +kernel
theorem dX0_beginIn_1 : decode cX0_beginIn 1 = .ok (.istore_n 3, 1) := by decide +kernel
theorem dX0_beginIn_2 : decode cX0_beginIn 2 = .ok (.iconst 0, 1) := by decide +kernel
theorem dX0_beginIn_3 : decode cX0_beginIn 3 = .ok (.istore 4, 2) := by decide +kernel
theorem dX0_beginIn_5 : decode cX0_beginIn 5 = .ok (.iload 4, 2) := by decide +kernel
theorem dX0_beginIn_7 : decode cX0_beginIn 7 = .ok (.aload_n 0, 1) := by decide +kernel
theorem dX0_beginIn_8 : decode cX0_beginIn 8 = .ok (.getfield 28, 3) := by decide +kernel
theorem dX0_beginIn_11 : decode cX0_beginIn 11 = .ok (.if_icmp .ge 35, 3) := by decide +kernel
theorem dX0_beginIn_14 : decode cX0_beginIn 14 = .ok (.aload_n 1, 1) := by decide +kernel
theorem dX0_beginIn_15 : decode cX0_beginIn 15 = .ok (.iload 4, 2) := by decide +kernel
theorem dX0_beginIn_17 : decode cX0_beginIn 17 = .ok (.invokestatic 36, 3) := by decide +kernel
theorem dX0_beginIn_20 : decode cX0_beginIn 20 = .ok (.iload_n 2, 1) := by decide +kernel
theorem dX0_beginIn_21 : decode cX0_beginIn 21 = .ok (.if_icmp .eq 25, 3) := by decide +kernel
theorem dX0_beginIn_24 : decode cX0_beginIn 24 = .ok (.iload_n 3, 1) := by decide +kernel
theorem dX0_beginIn_25 : decode cX0_beginIn 25 = .ok (.aload_n 0, 1) := by decide +kernel
theorem dX0_beginIn_26 : decode cX0_beginIn 26 = .ok (.getfield 9, 3) := by decide +kernel
theorem dX0_beginIn_29 : decode cX0_beginIn 29 = .ok (.aload_n 1, 1) := by decide +kernel
theorem dX0_beginIn_30 : decode cX0_beginIn 30 = .ok (.iload 4, 2) := by decide +kernel
theorem dX0_beginIn_32 : decode cX0_beginIn 32 = .ok (.invokestatic 36, 3) := by decide +kernel
theorem dX0_beginIn_35 : decode cX0_beginIn 35 = .ok (.invokestatic 36, 3) := by decide +kernel
theorem dX0_beginIn_38 : decode cX0_beginIn 38 = .ok (.iadd, 1) := by decide +kernel
theorem dX0_beginIn_39 : decode cX0_beginIn 39 = .ok (.istore_n 3, 1) := by decide +kernel
theorem dX0_beginIn_40 : decode cX0_beginIn 40 = .ok (.iinc 4 1, 3) := by decide +kernel
theorem dX0_beginIn_43 : decode cX0_beginIn 43 = .ok (.goto (-38), 3) := by decide +kernel
theorem dX0_beginIn_46 : decode cX0_beginIn 46 = .ok (.iload_n 3, 1) := by decide +kernel
theorem dX0_beginIn_47 : decode cX0_beginIn 47 = .ok (.ireturn, 1) := by decide +kernel
set_option maxRecDepth 20000 in
theorem ggX0_imagesRound_X0_imageOf : GoodIn wsX0_imagesRound wsX0_imageOf := goodIn_r _ [5, 6, 7, 8, 9, 10, 4, 11, 12, 13, 14, 15, 16, 17, 18, 19, 20, 21, 22, 23, 24, 25] (by decide +kernel) (by decide +kernel)
set_option maxRecDepth 20000 in
theorem gX0_imagesRound_X0_imageOf : GoodIn wsX0_imagesRound (wsV RX0 58 RX0 yX0_imageOf wsX0_imageOf) := goodIn_app (goodIn_of _ (by decide +kernel)) ggX0_imagesRound_X0_imageOf
theorem dX0_imagesRound_0 : decode cX0_imagesRound 0 = .ok (.iconst 1, 1) := by decide +kernel
theorem dX0_imagesRound_1 : decode cX0_imagesRound 1 = .ok (.istore_n 2, 1) := by decide +kernel
theorem dX0_imagesRound_2 : decode cX0_imagesRound 2 = .ok (.aload_n 0, 1) := by decide +kernel
theorem dX0_imagesRound_3 : decode cX0_imagesRound 3 = .ok (.iload_n 1, 1) := by decide +kernel
theorem dX0_imagesRound_4 : decode cX0_imagesRound 4 = .ok (.invokevirtual 58, 3) := by decide +kernel
theorem dX0_imagesRound_7 : decode cX0_imagesRound 7 = .ok (.istore_n 3, 1) := by decide +kernel
theorem dX0_imagesRound_8 : decode cX0_imagesRound 8 = .ok (.iload_n 3, 1) := by decide +kernel
theorem dX0_imagesRound_9 : decode cX0_imagesRound 9 = .ok (.iload_n 1, 1) := by decide +kernel
theorem dX0_imagesRound_10 : decode cX0_imagesRound 10 = .ok (.if_icmp .eq 22, 3) := by decide +kernel
theorem dX0_imagesRound_13 : decode cX0_imagesRound 13 = .ok (.iload_n 2, 1) := by decide +kernel
theorem dX0_imagesRound_14 : decode cX0_imagesRound 14 = .ok (.sipush 300, 3) := by decide +kernel
theorem dX0_imagesRound_17 : decode cX0_imagesRound 17 = .ok (.if_icmp .ge 15, 3) := by decide +kernel
theorem dX0_imagesRound_20 : decode cX0_imagesRound 20 = .ok (.iinc 2 1, 3) := by decide +kernel
theorem dX0_imagesRound_23 : decode cX0_imagesRound 23 = .ok (.aload_n 0, 1) := by decide +kernel
theorem dX0_imagesRound_24 : decode cX0_imagesRound 24 = .ok (.iload_n 3, 1) := by decide +kernel
theorem dX0_imagesRound_25 : decode cX0_imagesRound 25 = .ok (.invokevirtual 58, 3) := by decide +kernel
theorem dX0_imagesRound_28 : decode cX0_imagesRound 28 = .ok (.istore_n 3, 1) := by decide +kernel
theorem dX0_imagesRound_29 : decode cX0_imagesRound 29 = .ok (.goto (-21), 3) := by decide +kernel
theorem dX0_imagesRound_32 : decode cX0_imagesRound 32 = .ok (.iload_n 2, 1) := by decide +kernel
theorem dX0_imagesRound_33 : decode cX0_imagesRound 33 = .ok (.ireturn, 1) := by decide +kernel
set_option maxRecDepth 20000 in
theorem ggX0_cyclesInAll_X3_clear : GoodIn wsX0_cyclesInAll wsX3_clear := goodIn_r _ [6, 7, 49] (by decide +kernel) (by decide +kernel)
set_option maxRecDepth 20000 in
theorem gX0_cyclesInAll_X3_clear : GoodIn wsX0_cyclesInAll (wsV RX0 62 RX3 yX3_clear wsX3_clear) := goodIn_app (goodIn_of _ (by decide +kernel)) ggX0_cyclesInAll_X3_clear
set_option maxRecDepth 20000 in
theorem ggX0_cyclesInAll_X0_points : GoodIn wsX0_cyclesInAll wsX0_points := goodIn_r _ [12, 13, 14, 15, 16, 17, 44, 45, 46, 47, 48] (by decide +kernel) (by decide +kernel)
set_option maxRecDepth 20000 in
theorem gX0_cyclesInAll_X0_points : GoodIn wsX0_cyclesInAll (wsV RX0 65 RX0 yX0_points wsX0_points) := goodIn_app (goodIn_of _ (by decide +kernel)) ggX0_cyclesInAll_X0_points
set_option maxRecDepth 20000 in
theorem ggX0_cyclesInAll_X3_has : GoodIn wsX0_cyclesInAll wsX3_has := goodIn_r _ [21, 7, 49] (by decide +kernel) (by decide +kernel)
set_option maxRecDepth 20000 in
theorem gX0_cyclesInAll_X3_has : GoodIn wsX0_cyclesInAll (wsV RX0 69 RX3 yX3_has wsX3_has) := goodIn_app (goodIn_of _ (by decide +kernel)) ggX0_cyclesInAll_X3_has
set_option maxRecDepth 20000 in
theorem ggX0_cyclesInAll_X0_meetCycleOf : GoodIn wsX0_cyclesInAll wsX0_meetCycleOf := goodIn_r _ [25, 1, 18, 19, 20, 5, 21, 7, 26, 27, 28, 29, 30, 31, 32, 11, 33, 34, 35, 36, 37, 38, 39, 13, 14, 15, 16, 17, 40, 41, 42, 43, 44, 45, 46, 47, 48, 49] (by decide +kernel) (by decide +kernel)
set_option maxRecDepth 20000 in
theorem gX0_cyclesInAll_X0_meetCycleOf : GoodIn wsX0_cyclesInAll (wsV RX0 73 RX0 yX0_meetCycleOf wsX0_meetCycleOf) := goodIn_app (goodIn_of _ (by decide +kernel)) ggX0_cyclesInAll_X0_meetCycleOf
theorem dX0_cyclesInAll_0 : decode cX0_cyclesInAll 0 = .ok (.aload_n 0, 1) := by decide +kernel
theorem dX0_cyclesInAll_1 : decode cX0_cyclesInAll 1 = .ok (.getfield 24, 3) := by decide +kernel
theorem dX0_cyclesInAll_4 : decode cX0_cyclesInAll 4 = .ok (.invokevirtual 62, 3) := by decide +kernel
theorem dX0_cyclesInAll_7 : decode cX0_cyclesInAll 7 = .ok (.iconst 0, 1) := by decide +kernel
theorem dX0_cyclesInAll_8 : decode cX0_cyclesInAll 8 = .ok (.istore_n 1, 1) := by decide +kernel
theorem dX0_cyclesInAll_9 : decode cX0_cyclesInAll 9 = .ok (.aload_n 0, 1) := by decide +kernel
theorem dX0_cyclesInAll_10 : decode cX0_cyclesInAll 10 = .ok (.invokevirtual 65, 3) := by decide +kernel
theorem dX0_cyclesInAll_13 : decode cX0_cyclesInAll 13 = .ok (.istore_n 2, 1) := by decide +kernel
theorem dX0_cyclesInAll_14 : decode cX0_cyclesInAll 14 = .ok (.iconst 0, 1) := by decide +kernel
theorem dX0_cyclesInAll_15 : decode cX0_cyclesInAll 15 = .ok (.istore_n 3, 1) := by decide +kernel
theorem dX0_cyclesInAll_16 : decode cX0_cyclesInAll 16 = .ok (.iload_n 3, 1) := by decide +kernel
theorem dX0_cyclesInAll_17 : decode cX0_cyclesInAll 17 = .ok (.iload_n 2, 1) := by decide +kernel
theorem dX0_cyclesInAll_18 : decode cX0_cyclesInAll 18 = .ok (.if_icmp .ge 28, 3) := by decide +kernel
theorem dX0_cyclesInAll_21 : decode cX0_cyclesInAll 21 = .ok (.aload_n 0, 1) := by decide +kernel
theorem dX0_cyclesInAll_22 : decode cX0_cyclesInAll 22 = .ok (.getfield 24, 3) := by decide +kernel
theorem dX0_cyclesInAll_25 : decode cX0_cyclesInAll 25 = .ok (.iload_n 3, 1) := by decide +kernel
theorem dX0_cyclesInAll_26 : decode cX0_cyclesInAll 26 = .ok (.invokevirtual 69, 3) := by decide +kernel
theorem dX0_cyclesInAll_29 : decode cX0_cyclesInAll 29 = .ok (.ifCond .ne 11, 3) := by decide +kernel
theorem dX0_cyclesInAll_32 : decode cX0_cyclesInAll 32 = .ok (.iinc 1 1, 3) := by decide +kernel
theorem dX0_cyclesInAll_35 : decode cX0_cyclesInAll 35 = .ok (.aload_n 0, 1) := by decide +kernel
theorem dX0_cyclesInAll_36 : decode cX0_cyclesInAll 36 = .ok (.iload_n 3, 1) := by decide +kernel
theorem dX0_cyclesInAll_37 : decode cX0_cyclesInAll 37 = .ok (.invokevirtual 73, 3) := by decide +kernel
theorem dX0_cyclesInAll_40 : decode cX0_cyclesInAll 40 = .ok (.iinc 3 1, 3) := by decide +kernel
theorem dX0_cyclesInAll_43 : decode cX0_cyclesInAll 43 = .ok (.goto (-27), 3) := by decide +kernel
theorem dX0_cyclesInAll_46 : decode cX0_cyclesInAll 46 = .ok (.iload_n 1, 1) := by decide +kernel
theorem dX0_cyclesInAll_47 : decode cX0_cyclesInAll 47 = .ok (.ireturn, 1) := by decide +kernel
set_option maxRecDepth 20000 in
theorem ggX0_meetCycleOf_X3_has : GoodIn wsX0_meetCycleOf wsX3_has := goodIn_r _ [6, 7, 37] (by decide +kernel) (by decide +kernel)
set_option maxRecDepth 20000 in
theorem gX0_meetCycleOf_X3_has : GoodIn wsX0_meetCycleOf (wsV RX0 69 RX3 yX3_has wsX3_has) := goodIn_app (goodIn_of _ (by decide +kernel)) ggX0_meetCycleOf_X3_has
set_option maxRecDepth 20000 in
theorem ggX0_meetCycleOf_X3_add : GoodIn wsX0_meetCycleOf wsX3_add := goodIn_r _ [11, 7, 37] (by decide +kernel) (by decide +kernel)
set_option maxRecDepth 20000 in
theorem gX0_meetCycleOf_X3_add : GoodIn wsX0_meetCycleOf (wsV RX0 77 RX3 yX3_add wsX3_add) := goodIn_app (goodIn_of _ (by decide +kernel)) ggX0_meetCycleOf_X3_add
set_option maxRecDepth 20000 in
theorem ggX0_meetCycleOf_X0_imageOf : GoodIn wsX0_meetCycleOf wsX0_imageOf := goodIn_r _ [16, 17, 18, 19, 20, 21, 15, 22, 23, 24, 25, 26, 27, 28, 29, 30, 31, 32, 33, 34, 35, 36] (by decide +kernel) (by decide +kernel)
set_option maxRecDepth 20000 in
theorem gX0_meetCycleOf_X0_imageOf : GoodIn wsX0_meetCycleOf (wsV RX0 58 RX0 yX0_imageOf wsX0_imageOf) := goodIn_app (goodIn_of _ (by decide +kernel)) ggX0_meetCycleOf_X0_imageOf
theorem dX0_meetCycleOf_0 : decode cX0_meetCycleOf 0 = .ok (.iload_n 1, 1) := by decide +kernel
theorem dX0_meetCycleOf_1 : decode cX0_meetCycleOf 1 = .ok (.istore_n 2, 1) := by decide +kernel
theorem dX0_meetCycleOf_2 : decode cX0_meetCycleOf 2 = .ok (.iconst 0, 1) := by decide +kernel
theorem dX0_meetCycleOf_3 : decode cX0_meetCycleOf 3 = .ok (.istore_n 3, 1) := by decide +kernel
theorem dX0_meetCycleOf_4 : decode cX0_meetCycleOf 4 = .ok (.iload_n 3, 1) := by decide +kernel
theorem dX0_meetCycleOf_5 : decode cX0_meetCycleOf 5 = .ok (.sipush 300, 3) := by decide +kernel
theorem dX0_meetCycleOf_8 : decode cX0_meetCycleOf 8 = .ok (.if_icmp .ge 34, 3) := by decide +kernel
theorem dX0_meetCycleOf_11 : decode cX0_meetCycleOf 11 = .ok (.aload_n 0, 1) := by decide +kernel
theorem dX0_meetCycleOf_12 : decode cX0_meetCycleOf 12 = .ok (.getfield 24, 3) := by decide +kernel
theorem dX0_meetCycleOf_15 : decode cX0_meetCycleOf 15 = .ok (.iload_n 2, 1) := by decide +kernel
theorem dX0_meetCycleOf_16 : decode cX0_meetCycleOf 16 = .ok (.invokevirtual 69, 3) := by decide +kernel
theorem dX0_meetCycleOf_19 : decode cX0_meetCycleOf 19 = .ok (.ifCond .ne 23, 3) := by decide +kernel
theorem dX0_meetCycleOf_22 : decode cX0_meetCycleOf 22 = .ok (.aload_n 0, 1) := by decide +kernel
theorem dX0_meetCycleOf_23 : decode cX0_meetCycleOf 23 = .ok (.getfield 24, 3) := by decide +kernel
theorem dX0_meetCycleOf_26 : decode cX0_meetCycleOf 26 = .ok (.iload_n 2, 1) := by decide +kernel
theorem dX0_meetCycleOf_27 : decode cX0_meetCycleOf 27 = .ok (.invokevirtual 77, 3) := by decide +kernel
theorem dX0_meetCycleOf_30 : decode cX0_meetCycleOf 30 = .ok (.aload_n 0, 1) := by decide +kernel
theorem dX0_meetCycleOf_31 : decode cX0_meetCycleOf 31 = .ok (.iload_n 2, 1) := by decide +kernel
theorem dX0_meetCycleOf_32 : decode cX0_meetCycleOf 32 = .ok (.invokevirtual 58, 3) := by decide +kernel
theorem dX0_meetCycleOf_35 : decode cX0_meetCycleOf 35 = .ok (.istore_n 2, 1) := by decide +kernel
theorem dX0_meetCycleOf_36 : decode cX0_meetCycleOf 36 = .ok (.iinc 3 1, 3) := by decide +kernel
theorem dX0_meetCycleOf_39 : decode cX0_meetCycleOf 39 = .ok (.goto (-35), 3) := by decide +kernel
theorem dX0_meetCycleOf_42 : decode cX0_meetCycleOf 42 = .ok (.return_, 1) := by decide +kernel
set_option maxRecDepth 20000 in
theorem ggX0_leastApart_X6_at : GoodIn wsX0_leastApart wsX6_at := goodIn_r _ [6] (by decide +kernel) (by decide +kernel)
set_option maxRecDepth 20000 in
theorem gX0_leastApart_X6_at_n36 : GoodIn wsX0_leastApart (wsX6_at) := ggX0_leastApart_X6_at
theorem dX0_leastApart_0 : decode cX0_leastApart 0 = .ok (.iconst 0, 1) := by decide +kernel
theorem dX0_leastApart_1 : decode cX0_leastApart 1 = .ok (.istore_n 1, 1) := by decide +kernel
theorem dX0_leastApart_2 : decode cX0_leastApart 2 = .ok (.iconst 0, 1) := by decide +kernel
theorem dX0_leastApart_3 : decode cX0_leastApart 3 = .ok (.istore_n 2, 1) := by decide +kernel
theorem dX0_leastApart_4 : decode cX0_leastApart 4 = .ok (.iconst 0, 1) := by decide +kernel
theorem dX0_leastApart_5 : decode cX0_leastApart 5 = .ok (.istore_n 3, 1) := by decide +kernel
theorem dX0_leastApart_6 : decode cX0_leastApart 6 = .ok (.iload_n 3, 1) := by decide +kernel
theorem dX0_leastApart_7 : decode cX0_leastApart 7 = .ok (.aload_n 0, 1) := by decide +kernel
theorem dX0_leastApart_8 : decode cX0_leastApart 8 = .ok (.getfield 28, 3) := by decide +kernel
theorem dX0_leastApart_11 : decode cX0_leastApart 11 = .ok (.if_icmp .ge 44, 3) := by decide +kernel
theorem dX0_leastApart_14 : decode cX0_leastApart 14 = .ok (.iload_n 1, 1) := by decide +kernel
theorem dX0_leastApart_15 : decode cX0_leastApart 15 = .ok (.iconst 1, 1) := by decide +kernel
theorem dX0_leastApart_16 : decode cX0_leastApart 16 = .ok (.aload_n 0, 1) := by decide +kernel
theorem dX0_leastApart_17 : decode cX0_leastApart 17 = .ok (.getfield 15, 3) := by decide +kernel
theorem dX0_leastApart_20 : decode cX0_leastApart 20 = .ok (.iload_n 3, 1) := by decide +kernel
theorem dX0_leastApart_21 : decode cX0_leastApart 21 = .ok (.invokestatic 36, 3) := by decide +kernel
theorem dX0_leastApart_24 : decode cX0_leastApart 24 = .ok (.ishl, 1) := by decide +kernel
theorem dX0_leastApart_25 : decode cX0_leastApart 25 = .ok (.ior, 1) := by decide +kernel
theorem dX0_leastApart_26 : decode cX0_leastApart 26 = .ok (.istore_n 1, 1) := by decide +kernel
theorem dX0_leastApart_27 : decode cX0_leastApart 27 = .ok (.iload_n 2, 1) := by decide +kernel
theorem dX0_leastApart_28 : decode cX0_leastApart 28 = .ok (.iconst 1, 1) := by decide +kernel
theorem dX0_leastApart_29 : decode cX0_leastApart 29 = .ok (.aload_n 0, 1) := by decide +kernel
theorem dX0_leastApart_30 : decode cX0_leastApart 30 = .ok (.getfield 18, 3) := by decide +kernel
theorem dX0_leastApart_33 : decode cX0_leastApart 33 = .ok (.iload_n 3, 1) := by decide +kernel
theorem dX0_leastApart_34 : decode cX0_leastApart 34 = .ok (.invokestatic 36, 3) := by decide +kernel
theorem dX0_leastApart_37 : decode cX0_leastApart 37 = .ok (.ishl, 1) := by decide +kernel
theorem dX0_leastApart_38 : decode cX0_leastApart 38 = .ok (.ior, 1) := by decide +kernel
theorem dX0_leastApart_39 : decode cX0_leastApart 39 = .ok (.istore_n 2, 1) := by decide +kernel
theorem dX0_leastApart_40 : decode cX0_leastApart 40 = .ok (.iload_n 1, 1) := by decide +kernel
theorem dX0_leastApart_41 : decode cX0_leastApart 41 = .ok (.iload_n 2, 1) := by decide +kernel
theorem dX0_leastApart_42 : decode cX0_leastApart 42 = .ok (.if_icmp .ne 7, 3) := by decide +kernel
theorem dX0_leastApart_45 : decode cX0_leastApart 45 = .ok (.iload_n 3, 1) := by decide +kernel
theorem dX0_leastApart_46 : decode cX0_leastApart 46 = .ok (.iconst 1, 1) := by decide +kernel
theorem dX0_leastApart_47 : decode cX0_leastApart 47 = .ok (.iadd, 1) := by decide +kernel
theorem dX0_leastApart_48 : decode cX0_leastApart 48 = .ok (.ireturn, 1) := by decide +kernel
theorem dX0_leastApart_49 : decode cX0_leastApart 49 = .ok (.iinc 3 1, 3) := by decide +kernel
theorem dX0_leastApart_52 : decode cX0_leastApart 52 = .ok (.goto (-46), 3) := by decide +kernel
theorem dX0_leastApart_55 : decode cX0_leastApart 55 = .ok (.iconst 0, 1) := by decide +kernel
theorem dX0_leastApart_56 : decode cX0_leastApart 56 = .ok (.ireturn, 1) := by decide +kernel
set_option maxRecDepth 20000 in
theorem ggX1_init_X5_init : GoodIn wsX1_init wsX5_init := goodIn_r _ [12, 13, 2, 3, 8, 14, 15, 16, 17, 18, 19, 20, 21, 22, 23, 24, 25, 26, 27, 28, 29, 30, 31] (by decide +kernel) (by decide +kernel)
set_option maxRecDepth 20000 in
theorem gX1_init_X5_init_n9 : GoodIn wsX1_init (wsX5_init) := ggX1_init_X5_init
theorem dX1_init_0 : decode cX1_init 0 = .ok (.aload_n 0, 1) := by decide +kernel
theorem dX1_init_1 : decode cX1_init 1 = .ok (.invokespecial 1, 3) := by decide +kernel
theorem dX1_init_4 : decode cX1_init 4 = .ok (.aload_n 0, 1) := by decide +kernel
theorem dX1_init_5 : decode cX1_init 5 = .ok (.new 7, 3) := by decide +kernel
theorem dX1_init_8 : decode cX1_init 8 = .ok (.dup, 1) := by decide +kernel
theorem dX1_init_9 : decode cX1_init 9 = .ok (.invokespecial 9, 3) := by decide +kernel
theorem dX1_init_12 : decode cX1_init 12 = .ok (.putfield 10, 3) := by decide +kernel
theorem dX1_init_15 : decode cX1_init 15 = .ok (.aload_n 0, 1) := by decide +kernel
theorem dX1_init_16 : decode cX1_init 16 = .ok (.sipush 161, 3) := by decide +kernel
theorem dX1_init_19 : decode cX1_init 19 = .ok (.newarray .int, 2) := by decide +kernel
theorem dX1_init_21 : decode cX1_init 21 = .ok (.putfield 16, 3) := by decide +kernel
theorem dX1_init_24 : decode cX1_init 24 = .ok (.aload_n 0, 1) := by decide +kernel
theorem dX1_init_25 : decode cX1_init 25 = .ok (.iconst 0, 1) := by decide +kernel
theorem dX1_init_26 : decode cX1_init 26 = .ok (.putfield 20, 3) := by decide +kernel
theorem dX1_init_29 : decode cX1_init 29 = .ok (.return_, 1) := by decide +kernel
set_option maxRecDepth 20000 in
theorem ggX1_codesFrom_X1_find : GoodIn wsX1_codesFrom wsX1_find := goodIn_r _ [8, 1, 3, 9, 10, 11, 12, 13, 76, 77, 78] (by decide +kernel) (by decide +kernel)
set_option maxRecDepth 20000 in
theorem gX1_codesFrom_X1_find : GoodIn wsX1_codesFrom (wsV RX1 24 RX1 yX1_find wsX1_find) := goodIn_app (goodIn_of _ (by decide +kernel)) ggX1_codesFrom_X1_find
set_option maxRecDepth 20000 in
theorem ggX1_codesFrom_X6_at : GoodIn wsX1_codesFrom wsX6_at := goodIn_r _ [11] (by decide +kernel) (by decide +kernel)
set_option maxRecDepth 20000 in
theorem gX1_codesFrom_X6_at_n28 : GoodIn wsX1_codesFrom (wsX6_at) := ggX1_codesFrom_X6_at
set_option maxRecDepth 20000 in
theorem ggX1_codesFrom_X5_beginFrom : GoodIn wsX1_codesFrom wsX5_beginFrom := goodIn_r _ [18, 19, 20, 21, 12, 10, 13, 22, 23, 24, 17, 25, 26, 27, 28, 29, 30, 31, 9, 11, 32, 33, 34, 35, 79, 80, 81, 82, 83, 84, 85, 86, 87] (by decide +kernel) (by decide +kernel)
set_option maxRecDepth 20000 in
theorem gX1_codesFrom_X5_beginFrom : GoodIn wsX1_codesFrom (wsV RX1 34 RX5 yX5_beginFrom wsX5_beginFrom) := goodIn_app (goodIn_of _ (by decide +kernel)) ggX1_codesFrom_X5_beginFrom
set_option maxRecDepth 20000 in
theorem ggX1_codesFrom_X5_shearAll : GoodIn wsX1_codesFrom wsX5_shearAll := goodIn_r _ [39, 19, 40, 20, 28, 29, 30, 17, 31, 21, 9, 10, 11, 32, 33, 34, 35, 12, 13, 22, 23, 24, 25, 26, 27, 79, 80, 81, 82, 83, 84, 85, 86, 87] (by decide +kernel) (by decide +kernel)
set_option maxRecDepth 20000 in
theorem gX1_codesFrom_X5_shearAll : GoodIn wsX1_codesFrom (wsV RX1 38 RX5 yX5_shearAll wsX5_shearAll) := goodIn_app (goodIn_of _ (by decide +kernel)) ggX1_codesFrom_X5_shearAll
set_option maxRecDepth 20000 in
theorem ggX1_codesFrom_X5_leastCode : GoodIn wsX1_codesFrom wsX5_leastCode := goodIn_r _ [44, 45, 19, 46, 47, 48, 49, 50, 51, 52, 53, 54, 55, 17, 56, 57, 58, 59, 60, 61, 62, 63, 64, 65, 66, 67, 12, 10, 13, 9, 11, 28, 29, 30, 31, 21, 32, 33, 34, 35, 20, 79, 80, 81, 82, 83, 84, 85, 86, 87] (by decide +kernel) (by decide +kernel)
set_option maxRecDepth 20000 in
theorem gX1_codesFrom_X5_leastCode : GoodIn wsX1_codesFrom (wsV RX1 41 RX5 yX5_leastCode wsX5_leastCode) := goodIn_app (goodIn_of _ (by decide +kernel)) ggX1_codesFrom_X5_leastCode
set_option maxRecDepth 20000 in
theorem ggX1_codesFrom_X5_turnAll : GoodIn wsX1_codesFrom wsX5_turnAll := goodIn_r _ [71, 19, 40, 21, 20, 72, 73, 74, 17, 75, 26, 9, 10, 11, 12, 13, 32, 33, 34, 35, 22, 23, 24, 25, 27, 28, 29, 30, 31, 79, 80, 81, 82, 83, 84, 85, 86, 87] (by decide +kernel) (by decide +kernel)
set_option maxRecDepth 20000 in
theorem gX1_codesFrom_X5_turnAll : GoodIn wsX1_codesFrom (wsV RX1 45 RX5 yX5_turnAll wsX5_turnAll) := goodIn_app (goodIn_of _ (by decide +kernel)) ggX1_codesFrom_X5_turnAll
theorem dX1_codesFrom_0 : decode cX1_codesFrom 0 = .ok (.aload_n 0, 1) := by decide +kernel
theorem dX1_codesFrom_1 : decode cX1_codesFrom 1 = .ok (.iconst 0, 1) := by decide +kernel
theorem dX1_codesFrom_2 : decode cX1_codesFrom 2 = .ok (.putfield 20, 3) := by decide +kernel
theorem dX1_codesFrom_5 : decode cX1_codesFrom 5 = .ok (.aload_n 0, 1) := by decide +kernel
theorem dX1_codesFrom_6 : decode cX1_codesFrom 6 = .ok (.iload_n 1, 1) := by decide +kernel
theorem dX1_codesFrom_7 : decode cX1_codesFrom 7 = .ok (.invokevirtual 24, 3) := by decide +kernel
theorem dX1_codesFrom_10 : decode cX1_codesFrom 10 = .ok (.iconst 0, 1) := by decide +kernel
theorem dX1_codesFrom_11 : decode cX1_codesFrom 11 = .ok (.istore_n 3, 1) := by decide +kernel
theorem dX1_codesFrom_12 : decode cX1_codesFrom 12 = .ok (.iload_n 3, 1) := by decide +kernel
theorem dX1_codesFrom_13 : decode cX1_codesFrom 13 = .ok (.sipush 161, 3) := by decide +kernel
theorem dX1_codesFrom_16 : decode cX1_codesFrom 16 = .ok (.if_icmp .ge 85, 3) := by decide +kernel
theorem dX1_codesFrom_19 : decode cX1_codesFrom 19 = .ok (.iload_n 3, 1) := by decide +kernel
theorem dX1_codesFrom_20 : decode cX1_codesFrom 20 = .ok (.aload_n 0, 1) := by decide +kernel
theorem dX1_codesFrom_21 : decode cX1_codesFrom 21 = .ok (.getfield 20, 3) := by decide +kernel
theorem dX1_codesFrom_24 : decode cX1_codesFrom 24 = .ok (.if_icmp .ge 77, 3) := by decide +kernel
theorem dX1_codesFrom_27 : decode cX1_codesFrom 27 = .ok (.aload_n 0, 1) := by decide +kernel
theorem dX1_codesFrom_28 : decode cX1_codesFrom 28 = .ok (.getfield 10, 3) := by decide +kernel
theorem dX1_codesFrom_31 : decode cX1_codesFrom 31 = .ok (.aload_n 0, 1) := by decide +kernel
theorem dX1_codesFrom_32 : decode cX1_codesFrom 32 = .ok (.getfield 16, 3) := by decide +kernel
theorem dX1_codesFrom_35 : decode cX1_codesFrom 35 = .ok (.iload_n 3, 1) := by decide +kernel
theorem dX1_codesFrom_36 : decode cX1_codesFrom 36 = .ok (.invokestatic 28, 3) := by decide +kernel
theorem dX1_codesFrom_39 : decode cX1_codesFrom 39 = .ok (.iload_n 2, 1) := by decide +kernel
theorem dX1_codesFrom_40 : decode cX1_codesFrom 40 = .ok (.invokevirtual 34, 3) := by decide +kernel
theorem dX1_codesFrom_43 : decode cX1_codesFrom 43 = .ok (.aload_n 0, 1) := by decide +kernel
theorem dX1_codesFrom_44 : decode cX1_codesFrom 44 = .ok (.getfield 10, 3) := by decide +kernel
theorem dX1_codesFrom_47 : decode cX1_codesFrom 47 = .ok (.invokevirtual 38, 3) := by decide +kernel
theorem dX1_codesFrom_50 : decode cX1_codesFrom 50 = .ok (.aload_n 0, 1) := by decide +kernel
theorem dX1_codesFrom_51 : decode cX1_codesFrom 51 = .ok (.aload_n 0, 1) := by decide +kernel
theorem dX1_codesFrom_52 : decode cX1_codesFrom 52 = .ok (.getfield 10, 3) := by decide +kernel
theorem dX1_codesFrom_55 : decode cX1_codesFrom 55 = .ok (.invokevirtual 41, 3) := by decide +kernel
theorem dX1_codesFrom_58 : decode cX1_codesFrom 58 = .ok (.invokevirtual 24, 3) := by decide +kernel
theorem dX1_codesFrom_61 : decode cX1_codesFrom 61 = .ok (.aload_n 0, 1) := by decide +kernel
theorem dX1_codesFrom_62 : decode cX1_codesFrom 62 = .ok (.getfield 10, 3) := by decide +kernel
theorem dX1_codesFrom_65 : decode cX1_codesFrom 65 = .ok (.aload_n 0, 1) := by decide +kernel
theorem dX1_codesFrom_66 : decode cX1_codesFrom 66 = .ok (.getfield 16, 3) := by decide +kernel
theorem dX1_codesFrom_69 : decode cX1_codesFrom 69 = .ok (.iload_n 3, 1) := by decide +kernel
theorem dX1_codesFrom_70 : decode cX1_codesFrom 70 = .ok (.invokestatic 28, 3) := by decide +kernel
theorem dX1_codesFrom_73 : decode cX1_codesFrom 73 = .ok (.iload_n 2, 1) := by decide +kernel
theorem dX1_codesFrom_74 : decode cX1_codesFrom 74 = .ok (.invokevirtual 34, 3) := by decide +kernel
theorem dX1_codesFrom_77 : decode cX1_codesFrom 77 = .ok (.aload_n 0, 1) := by decide +kernel
theorem dX1_codesFrom_78 : decode cX1_codesFrom 78 = .ok (.getfield 10, 3) := by decide +kernel
theorem dX1_codesFrom_81 : decode cX1_codesFrom 81 = .ok (.invokevirtual 45, 3) := by decide +kernel
theorem dX1_codesFrom_84 : decode cX1_codesFrom 84 = .ok (.aload_n 0, 1) := by decide +kernel
theorem dX1_codesFrom_85 : decode cX1_codesFrom 85 = .ok (.aload_n 0, 1) := by decide +kernel
theorem dX1_codesFrom_86 : decode cX1_codesFrom 86 = .ok (.getfield 10, 3) := by decide +kernel
theorem dX1_codesFrom_89 : decode cX1_codesFrom 89 = .ok (.invokevirtual 41, 3) := by decide +kernel
theorem dX1_codesFrom_92 : decode cX1_codesFrom 92 = .ok (.invokevirtual 24, 3) := by decide +kernel
theorem dX1_codesFrom_95 : decode cX1_codesFrom 95 = .ok (.iinc 3 1, 3) := by decide +kernel
theorem dX1_codesFrom_98 : decode cX1_codesFrom 98 = .ok (.goto (-86), 3) := by decide +kernel
theorem dX1_codesFrom_101 : decode cX1_codesFrom 101 = .ok (.aload_n 0, 1) := by decide +kernel
theorem dX1_codesFrom_102 : decode cX1_codesFrom 102 = .ok (.getfield 20, 3) := by decide +kernel
theorem dX1_codesFrom_105 : decode cX1_codesFrom 105 = .ok (.ireturn, 1) := by decide +kernel
set_option maxRecDepth 20000 in
theorem ggX1_find_X6_at : GoodIn wsX1_find wsX6_at := goodIn_r _ [5] (by decide +kernel) (by decide +kernel)
set_option maxRecDepth 20000 in
theorem gX1_find_X6_at_n28 : GoodIn wsX1_find (wsX6_at) := ggX1_find_X6_at
set_option maxRecDepth 20000 in
theorem ggX1_find_X6_put : GoodIn wsX1_find wsX6_put := goodIn_r _ [7] (by decide +kernel) (by decide +kernel)
set_option maxRecDepth 20000 in
theorem gX1_find_X6_put_n48 : GoodIn wsX1_find (wsX6_put) := ggX1_find_X6_put
theorem dX1_find_0 : decode cX1_find 0 = .ok (.iconst 0, 1) := by decide +kernel
theorem dX1_find_1 : decode cX1_find 1 = .ok (.istore_n 2, 1) := by decide +kernel
theorem dX1_find_2 : decode cX1_find 2 = .ok (.iload_n 2, 1) := by decide +kernel
theorem dX1_find_3 : decode cX1_find 3 = .ok (.aload_n 0, 1) := by decide +kernel
theorem dX1_find_4 : decode cX1_find 4 = .ok (.getfield 20, 3) := by decide +kernel
theorem dX1_find_7 : decode cX1_find 7 = .ok (.if_icmp .ge 22, 3) := by decide +kernel
theorem dX1_find_10 : decode cX1_find 10 = .ok (.aload_n 0, 1) := by decide +kernel
theorem dX1_find_11 : decode cX1_find 11 = .ok (.getfield 16, 3) := by decide +kernel
theorem dX1_find_14 : decode cX1_find 14 = .ok (.iload_n 2, 1) := by decide +kernel
theorem dX1_find_15 : decode cX1_find 15 = .ok (.invokestatic 28, 3) := by decide +kernel
theorem dX1_find_18 : decode cX1_find 18 = .ok (.iload_n 1, 1) := by decide +kernel
theorem dX1_find_19 : decode cX1_find 19 = .ok (.if_icmp .ne 4, 3) := by decide +kernel
theorem dX1_find_22 : decode cX1_find 22 = .ok (.return_, 1) := by decide +kernel
theorem dX1_find_23 : decode cX1_find 23 = .ok (.iinc 2 1, 3) := by decide +kernel
theorem dX1_find_26 : decode cX1_find 26 = .ok (.goto (-24), 3) := by decide +kernel
theorem dX1_find_29 : decode cX1_find 29 = .ok (.aload_n 0, 1) := by decide +kernel
theorem dX1_find_30 : decode cX1_find 30 = .ok (.getfield 20, 3) := by decide +kernel
theorem dX1_find_33 : decode cX1_find 33 = .ok (.sipush 161, 3) := by decide +kernel
theorem dX1_find_36 : decode cX1_find 36 = .ok (.if_icmp .ge 25, 3) := by decide +kernel
theorem dX1_find_39 : decode cX1_find 39 = .ok (.aload_n 0, 1) := by decide +kernel
theorem dX1_find_40 : decode cX1_find 40 = .ok (.getfield 16, 3) := by decide +kernel
theorem dX1_find_43 : decode cX1_find 43 = .ok (.aload_n 0, 1) := by decide +kernel
theorem dX1_find_44 : decode cX1_find 44 = .ok (.getfield 20, 3) := by decide +kernel
theorem dX1_find_47 : decode cX1_find 47 = .ok (.iload_n 1, 1) := by decide +kernel
theorem dX1_find_48 : decode cX1_find 48 = .ok (.invokestatic 48, 3) := by decide +kernel
theorem dX1_find_51 : decode cX1_find 51 = .ok (.aload_n 0, 1) := by decide +kernel
theorem dX1_find_52 : decode cX1_find 52 = .ok (.dup, 1) := by decide +kernel
theorem dX1_find_53 : decode cX1_find 53 = .ok (.getfield 20, 3) := by decide +kernel
theorem dX1_find_56 : decode cX1_find 56 = .ok (.iconst 1, 1) := by decide +kernel
theorem dX1_find_57 : decode cX1_find 57 = .ok (.iadd, 1) := by decide +kernel
theorem dX1_find_58 : decode cX1_find 58 = .ok (.putfield 20, 3) := by decide +kernel
theorem dX1_find_61 : decode cX1_find 61 = .ok (.return_, 1) := by decide +kernel
theorem dX2_init_0 : decode cX2_init 0 = .ok (.aload_n 0, 1) := by decide +kernel
theorem dX2_init_1 : decode cX2_init 1 = .ok (.invokespecial 3, 3) := by decide +kernel
theorem dX2_init_4 : decode cX2_init 4 = .ok (.aload_n 0, 1) := by decide +kernel
theorem dX2_init_5 : decode cX2_init 5 = .ok (.bipush 6, 2) := by decide +kernel
theorem dX2_init_7 : decode cX2_init 7 = .ok (.newarray .int, 2) := by decide +kernel
theorem dX2_init_9 : decode cX2_init 9 = .ok (.putfield 9, 3) := by decide +kernel
theorem dX2_init_12 : decode cX2_init 12 = .ok (.aload_n 0, 1) := by decide +kernel
theorem dX2_init_13 : decode cX2_init 13 = .ok (.iconst 0, 1) := by decide +kernel
theorem dX2_init_14 : decode cX2_init 14 = .ok (.putfield 15, 3) := by decide +kernel
theorem dX2_init_17 : decode cX2_init 17 = .ok (.return_, 1) := by decide +kernel
theorem dX2_areFull_0 : decode cX2_areFull 0 = .ok (.aload_n 0, 1) := by decide +kernel
theorem dX2_areFull_1 : decode cX2_areFull 1 = .ok (.getfield 15, 3) := by decide +kernel
theorem dX2_areFull_4 : decode cX2_areFull 4 = .ok (.bipush 6, 2) := by decide +kernel
theorem dX2_areFull_6 : decode cX2_areFull 6 = .ok (.if_icmp .lt 7, 3) := by decide +kernel
theorem dX2_areFull_9 : decode cX2_areFull 9 = .ok (.iconst 1, 1) := by decide +kernel
theorem dX2_areFull_10 : decode cX2_areFull 10 = .ok (.goto 4, 3) := by decide +kernel
theorem dX2_areFull_13 : decode cX2_areFull 13 = .ok (.iconst 0, 1) := by decide +kernel
theorem dX2_areFull_14 : decode cX2_areFull 14 = .ok (.ireturn, 1) := by decide +kernel
set_option maxRecDepth 20000 in
theorem ggX2_add_X6_put : GoodIn wsX2_add wsX6_put := goodIn_r _ [5] (by decide +kernel) (by decide +kernel)
set_option maxRecDepth 20000 in
theorem gX2_add_X6_put_n19 : GoodIn wsX2_add (wsX6_put) := ggX2_add_X6_put
theorem dX2_add_0 : decode cX2_add 0 = .ok (.aload_n 0, 1) := by decide +kernel
theorem dX2_add_1 : decode cX2_add 1 = .ok (.getfield 15, 3) := by decide +kernel
theorem dX2_add_4 : decode cX2_add 4 = .ok (.istore_n 3, 1) := by decide +kernel
theorem dX2_add_5 : decode cX2_add 5 = .ok (.aload_n 0, 1) := by decide +kernel
theorem dX2_add_6 : decode cX2_add 6 = .ok (.getfield 9, 3) := by decide +kernel
theorem dX2_add_9 : decode cX2_add 9 = .ok (.iload_n 3, 1) := by decide +kernel
theorem dX2_add_10 : decode cX2_add 10 = .ok (.iload_n 1, 1) := by decide +kernel
theorem dX2_add_11 : decode cX2_add 11 = .ok (.bipush 8, 2) := by decide +kernel
theorem dX2_add_13 : decode cX2_add 13 = .ok (.iload_n 2, 1) := by decide +kernel
theorem dX2_add_14 : decode cX2_add 14 = .ok (.imul, 1) := by decide +kernel
theorem dX2_add_15 : decode cX2_add 15 = .ok (.iadd, 1) := by decide +kernel
theorem dX2_add_16 : decode cX2_add 16 = .ok (.invokestatic 19, 3) := by decide +kernel
theorem dX2_add_19 : decode cX2_add 19 = .ok (.aload_n 0, 1) := by decide +kernel
theorem dX2_add_20 : decode cX2_add 20 = .ok (.dup, 1) := by decide +kernel
theorem dX2_add_21 : decode cX2_add 21 = .ok (.getfield 15, 3) := by decide +kernel
theorem dX2_add_24 : decode cX2_add 24 = .ok (.iconst 1, 1) := by decide +kernel
theorem dX2_add_25 : decode cX2_add 25 = .ok (.iadd, 1) := by decide +kernel
theorem dX2_add_26 : decode cX2_add 26 = .ok (.putfield 15, 3) := by decide +kernel
theorem dX2_add_29 : decode cX2_add 29 = .ok (.iload_n 3, 1) := by decide +kernel
theorem dX2_add_30 : decode cX2_add 30 = .ok (.ireturn, 1) := by decide +kernel
set_option maxRecDepth 20000 in
theorem ggX2_cellsLit_X2_isLit : GoodIn wsX2_cellsLit wsX2_isLit := goodIn_r _ [5, 6, 7, 8, 9, 10, 11, 12, 4, 13, 14, 15, 16, 17, 18, 19, 20, 21, 22, 23, 24, 25, 26, 27, 28, 29, 30, 31, 32, 33, 34, 35, 36, 37, 38] (by decide +kernel) (by decide +kernel)
set_option maxRecDepth 20000 in
theorem gX2_cellsLit_X2_isLit : GoodIn wsX2_cellsLit (wsV RX2 23 RX2 yX2_isLit wsX2_isLit) := goodIn_app (goodIn_of _ (by decide +kernel)) ggX2_cellsLit_X2_isLit
theorem dX2_cellsLit_0 : decode cX2_cellsLit 0 = .ok (.iconst 0, 1) := by decide +kernel
theorem dX2_cellsLit_1 : decode cX2_cellsLit 1 = .ok (.istore_n 2, 1) := by decide +kernel
theorem dX2_cellsLit_2 : decode cX2_cellsLit 2 = .ok (.iconst 0, 1) := by decide +kernel
theorem dX2_cellsLit_3 : decode cX2_cellsLit 3 = .ok (.istore_n 3, 1) := by decide +kernel
theorem dX2_cellsLit_4 : decode cX2_cellsLit 4 = .ok (.iload_n 3, 1) := by decide +kernel
theorem dX2_cellsLit_5 : decode cX2_cellsLit 5 = .ok (.bipush 64, 2) := by decide +kernel
theorem dX2_cellsLit_7 : decode cX2_cellsLit 7 = .ok (.if_icmp .ge 28, 3) := by decide +kernel
theorem dX2_cellsLit_10 : decode cX2_cellsLit 10 = .ok (.aload_n 0, 1) := by decide +kernel
theorem dX2_cellsLit_11 : decode cX2_cellsLit 11 = .ok (.aload_n 1, 1) := by decide +kernel
theorem dX2_cellsLit_12 : decode cX2_cellsLit 12 = .ok (.iload_n 3, 1) := by decide +kernel
theorem dX2_cellsLit_13 : decode cX2_cellsLit 13 = .ok (.bipush 8, 2) := by decide +kernel
theorem dX2_cellsLit_15 : decode cX2_cellsLit 15 = .ok (.irem, 1) := by decide +kernel
theorem dX2_cellsLit_16 : decode cX2_cellsLit 16 = .ok (.iload_n 3, 1) := by decide +kernel
theorem dX2_cellsLit_17 : decode cX2_cellsLit 17 = .ok (.bipush 8, 2) := by decide +kernel
theorem dX2_cellsLit_19 : decode cX2_cellsLit 19 = .ok (.idiv, 1) := by decide +kernel
theorem dX2_cellsLit_20 : decode cX2_cellsLit 20 = .ok (.invokevirtual 23, 3) := by decide +kernel
theorem dX2_cellsLit_23 : decode cX2_cellsLit 23 = .ok (.ifCond .eq 6, 3) := by decide +kernel
theorem dX2_cellsLit_26 : decode cX2_cellsLit 26 = .ok (.iinc 2 1, 3) := by decide +kernel
theorem dX2_cellsLit_29 : decode cX2_cellsLit 29 = .ok (.iinc 3 1, 3) := by decide +kernel
theorem dX2_cellsLit_32 : decode cX2_cellsLit 32 = .ok (.goto (-28), 3) := by decide +kernel
theorem dX2_cellsLit_35 : decode cX2_cellsLit 35 = .ok (.iload_n 2, 1) := by decide +kernel
theorem dX2_cellsLit_36 : decode cX2_cellsLit 36 = .ok (.ireturn, 1) := by decide +kernel
set_option maxRecDepth 20000 in
theorem ggX2_isLit_X6_at : GoodIn wsX2_isLit wsX6_at := goodIn_r _ [5] (by decide +kernel) (by decide +kernel)
set_option maxRecDepth 20000 in
theorem gX2_isLit_X6_at_n27 : GoodIn wsX2_isLit (wsX6_at) := ggX2_isLit_X6_at
set_option maxRecDepth 20000 in
theorem ggX2_isLit_X2_isFreeBetween : GoodIn wsX2_isLit wsX2_isFreeBetween := goodIn_r _ [9, 10, 11, 12, 13, 14, 15, 16, 17, 18, 19, 20, 21, 22, 23, 4, 24, 25, 26, 8, 27, 28, 29, 30, 33, 34] (by decide +kernel) (by decide +kernel)
set_option maxRecDepth 20000 in
theorem gX2_isLit_X2_isFreeBetween : GoodIn wsX2_isLit (va_wsS RX2 31 yX2_isFreeBetween wsX2_isFreeBetween) := goodIn_app (goodIn_of _ (by decide +kernel)) ggX2_isLit_X2_isFreeBetween
theorem dX2_isLit_0 : decode cX2_isLit 0 = .ok (.iconst 0, 1) := by decide +kernel
theorem dX2_isLit_1 : decode cX2_isLit 1 = .ok (.istore 4, 2) := by decide +kernel
theorem dX2_isLit_3 : decode cX2_isLit 3 = .ok (.iload 4, 2) := by decide +kernel
theorem dX2_isLit_5 : decode cX2_isLit 5 = .ok (.aload_n 0, 1) := by decide +kernel
theorem dX2_isLit_6 : decode cX2_isLit 6 = .ok (.getfield 15, 3) := by decide +kernel
theorem dX2_isLit_9 : decode cX2_isLit 9 = .ok (.if_icmp .ge 41, 3) := by decide +kernel
theorem dX2_isLit_12 : decode cX2_isLit 12 = .ok (.aload_n 0, 1) := by decide +kernel
theorem dX2_isLit_13 : decode cX2_isLit 13 = .ok (.getfield 9, 3) := by decide +kernel
theorem dX2_isLit_16 : decode cX2_isLit 16 = .ok (.iload 4, 2) := by decide +kernel
theorem dX2_isLit_18 : decode cX2_isLit 18 = .ok (.invokestatic 27, 3) := by decide +kernel
theorem dX2_isLit_21 : decode cX2_isLit 21 = .ok (.istore 5, 2) := by decide +kernel
theorem dX2_isLit_23 : decode cX2_isLit 23 = .ok (.aload_n 1, 1) := by decide +kernel
theorem dX2_isLit_24 : decode cX2_isLit 24 = .ok (.iload_n 2, 1) := by decide +kernel
theorem dX2_isLit_25 : decode cX2_isLit 25 = .ok (.iload_n 3, 1) := by decide +kernel
theorem dX2_isLit_26 : decode cX2_isLit 26 = .ok (.iload 5, 2) := by decide +kernel
theorem dX2_isLit_28 : decode cX2_isLit 28 = .ok (.bipush 8, 2) := by decide +kernel
theorem dX2_isLit_30 : decode cX2_isLit 30 = .ok (.irem, 1) := by decide +kernel
theorem dX2_isLit_31 : decode cX2_isLit 31 = .ok (.iload 5, 2) := by decide +kernel
theorem dX2_isLit_33 : decode cX2_isLit 33 = .ok (.bipush 8, 2) := by decide +kernel
theorem dX2_isLit_35 : decode cX2_isLit 35 = .ok (.idiv, 1) := by decide +kernel
theorem dX2_isLit_36 : decode cX2_isLit 36 = .ok (.invokestatic 31, 3) := by decide +kernel
theorem dX2_isLit_39 : decode cX2_isLit 39 = .ok (.ifCond .eq 5, 3) := by decide +kernel
theorem dX2_isLit_42 : decode cX2_isLit 42 = .ok (.iconst 1, 1) := by decide +kernel
theorem dX2_isLit_43 : decode cX2_isLit 43 = .ok (.ireturn, 1) := by decide +kernel
theorem dX2_isLit_44 : decode cX2_isLit 44 = .ok (.iinc 4 1, 3) := by decide +kernel
theorem dX2_isLit_47 : decode cX2_isLit 47 = .ok (.goto (-44), 3) := by decide +kernel
theorem dX2_isLit_50 : decode cX2_isLit 50 = .ok (.iconst 0, 1) := by decide +kernel
theorem dX2_isLit_51 : decode cX2_isLit 51 = .ok (.ireturn, 1) := by decide +kernel
set_option maxRecDepth 20000 in
theorem ggX2_isFreeBetween_X4_isBlock : GoodIn wsX2_isFreeBetween wsX4_isBlock := goodIn_r _ [12, 13, 14, 15, 16, 24, 25] (by decide +kernel) (by decide +kernel)
set_option maxRecDepth 20000 in
theorem gX2_isFreeBetween_X4_isBlock : GoodIn wsX2_isFreeBetween (wsV RX2 44 RX4 yX4_isBlock wsX4_isBlock) := goodIn_app (goodIn_of _ (by decide +kernel)) ggX2_isFreeBetween_X4_isBlock
set_option maxRecDepth 20000 in
theorem ggX2_isFreeBetween_X2_isMet : GoodIn wsX2_isFreeBetween wsX2_isMet := goodIn_r _ [20, 21, 22, 3, 23] (by decide +kernel) (by decide +kernel)
set_option maxRecDepth 20000 in
theorem gX2_isFreeBetween_X2_isMet : GoodIn wsX2_isFreeBetween (va_wsS RX2 50 yX2_isMet wsX2_isMet) := goodIn_app (goodIn_of _ (by decide +kernel)) ggX2_isFreeBetween_X2_isMet
theorem dX2_isFreeBetween_0 : decode cX2_isFreeBetween 0 = .ok (.iload_n 1, 1) := by decide +kernel
theorem dX2_isFreeBetween_1 : decode cX2_isFreeBetween 1 = .ok (.iload_n 3, 1) := by decide +kernel
theorem dX2_isFreeBetween_2 : decode cX2_isFreeBetween 2 = .ok (.invokestatic 35, 3) := by decide +kernel
theorem dX2_isFreeBetween_5 : decode cX2_isFreeBetween 5 = .ok (.istore 5, 2) := by decide +kernel
theorem dX2_isFreeBetween_7 : decode cX2_isFreeBetween 7 = .ok (.iload 5, 2) := by decide +kernel
theorem dX2_isFreeBetween_9 : decode cX2_isFreeBetween 9 = .ok (.iload_n 1, 1) := by decide +kernel
theorem dX2_isFreeBetween_10 : decode cX2_isFreeBetween 10 = .ok (.iload_n 3, 1) := by decide +kernel
theorem dX2_isFreeBetween_11 : decode cX2_isFreeBetween 11 = .ok (.invokestatic 41, 3) := by decide +kernel
theorem dX2_isFreeBetween_14 : decode cX2_isFreeBetween 14 = .ok (.if_icmp .gt 68, 3) := by decide +kernel
theorem dX2_isFreeBetween_17 : decode cX2_isFreeBetween 17 = .ok (.iload_n 2, 1) := by decide +kernel
theorem dX2_isFreeBetween_18 : decode cX2_isFreeBetween 18 = .ok (.iload 4, 2) := by decide +kernel
theorem dX2_isFreeBetween_20 : decode cX2_isFreeBetween 20 = .ok (.invokestatic 35, 3) := by decide +kernel
theorem dX2_isFreeBetween_23 : decode cX2_isFreeBetween 23 = .ok (.istore 6, 2) := by decide +kernel
theorem dX2_isFreeBetween_25 : decode cX2_isFreeBetween 25 = .ok (.iload 6, 2) := by decide +kernel
theorem dX2_isFreeBetween_27 : decode cX2_isFreeBetween 27 = .ok (.iload_n 2, 1) := by decide +kernel
theorem dX2_isFreeBetween_28 : decode cX2_isFreeBetween 28 = .ok (.iload 4, 2) := by decide +kernel
theorem dX2_isFreeBetween_30 : decode cX2_isFreeBetween 30 = .ok (.invokestatic 41, 3) := by decide +kernel
theorem dX2_isFreeBetween_33 : decode cX2_isFreeBetween 33 = .ok (.if_icmp .gt 43, 3) := by decide +kernel
theorem dX2_isFreeBetween_36 : decode cX2_isFreeBetween 36 = .ok (.aload_n 0, 1) := by decide +kernel
theorem dX2_isFreeBetween_37 : decode cX2_isFreeBetween 37 = .ok (.iload 5, 2) := by decide +kernel
theorem dX2_isFreeBetween_39 : decode cX2_isFreeBetween 39 = .ok (.iload 6, 2) := by decide +kernel
theorem dX2_isFreeBetween_41 : decode cX2_isFreeBetween 41 = .ok (.invokevirtual 44, 3) := by decide +kernel
theorem dX2_isFreeBetween_44 : decode cX2_isFreeBetween 44 = .ok (.ifCond .eq 26, 3) := by decide +kernel
theorem dX2_isFreeBetween_47 : decode cX2_isFreeBetween 47 = .ok (.iload_n 3, 1) := by decide +kernel
theorem dX2_isFreeBetween_48 : decode cX2_isFreeBetween 48 = .ok (.iload_n 1, 1) := by decide +kernel
theorem dX2_isFreeBetween_49 : decode cX2_isFreeBetween 49 = .ok (.isub, 1) := by decide +kernel
theorem dX2_isFreeBetween_50 : decode cX2_isFreeBetween 50 = .ok (.iload 4, 2) := by decide +kernel
theorem dX2_isFreeBetween_52 : decode cX2_isFreeBetween 52 = .ok (.iload_n 2, 1) := by decide +kernel
theorem dX2_isFreeBetween_53 : decode cX2_isFreeBetween 53 = .ok (.isub, 1) := by decide +kernel
theorem dX2_isFreeBetween_54 : decode cX2_isFreeBetween 54 = .ok (.iload 5, 2) := by decide +kernel
theorem dX2_isFreeBetween_56 : decode cX2_isFreeBetween 56 = .ok (.iload_n 1, 1) := by decide +kernel
theorem dX2_isFreeBetween_57 : decode cX2_isFreeBetween 57 = .ok (.isub, 1) := by decide +kernel
theorem dX2_isFreeBetween_58 : decode cX2_isFreeBetween 58 = .ok (.iload 6, 2) := by decide +kernel
theorem dX2_isFreeBetween_60 : decode cX2_isFreeBetween 60 = .ok (.iload_n 2, 1) := by decide +kernel
theorem dX2_isFreeBetween_61 : decode cX2_isFreeBetween 61 = .ok (.isub, 1) := by decide +kernel
theorem dX2_isFreeBetween_62 : decode cX2_isFreeBetween 62 = .ok (.invokestatic 50, 3) := by decide +kernel
theorem dX2_isFreeBetween_65 : decode cX2_isFreeBetween 65 = .ok (.ifCond .eq 5, 3) := by decide +kernel
theorem dX2_isFreeBetween_68 : decode cX2_isFreeBetween 68 = .ok (.iconst 0, 1) := by decide +kernel
theorem dX2_isFreeBetween_69 : decode cX2_isFreeBetween 69 = .ok (.ireturn, 1) := by decide +kernel
theorem dX2_isFreeBetween_70 : decode cX2_isFreeBetween 70 = .ok (.iinc 6 1, 3) := by decide +kernel
theorem dX2_isFreeBetween_73 : decode cX2_isFreeBetween 73 = .ok (.goto (-48), 3) := by decide +kernel
theorem dX2_isFreeBetween_76 : decode cX2_isFreeBetween 76 = .ok (.iinc 5 1, 3) := by decide +kernel
theorem dX2_isFreeBetween_79 : decode cX2_isFreeBetween 79 = .ok (.goto (-72), 3) := by decide +kernel
theorem dX2_isFreeBetween_82 : decode cX2_isFreeBetween 82 = .ok (.iconst 1, 1) := by decide +kernel
theorem dX2_isFreeBetween_83 : decode cX2_isFreeBetween 83 = .ok (.ireturn, 1) := by decide +kernel
theorem dX2_isMet_0 : decode cX2_isMet 0 = .ok (.iconst 2, 1) := by decide +kernel
theorem dX2_isMet_1 : decode cX2_isMet 1 = .ok (.iload_n 0, 1) := by decide +kernel
theorem dX2_isMet_2 : decode cX2_isMet 2 = .ok (.iload_n 3, 1) := by decide +kernel
theorem dX2_isMet_3 : decode cX2_isMet 3 = .ok (.imul, 1) := by decide +kernel
theorem dX2_isMet_4 : decode cX2_isMet 4 = .ok (.iload_n 1, 1) := by decide +kernel
theorem dX2_isMet_5 : decode cX2_isMet 5 = .ok (.iload_n 2, 1) := by decide +kernel
theorem dX2_isMet_6 : decode cX2_isMet 6 = .ok (.imul, 1) := by decide +kernel
theorem dX2_isMet_7 : decode cX2_isMet 7 = .ok (.isub, 1) := by decide +kernel
theorem dX2_isMet_8 : decode cX2_isMet 8 = .ok (.invokestatic 54, 3) := by decide +kernel
theorem dX2_isMet_11 : decode cX2_isMet 11 = .ok (.imul, 1) := by decide +kernel
theorem dX2_isMet_12 : decode cX2_isMet 12 = .ok (.istore 4, 2) := by decide +kernel
theorem dX2_isMet_14 : decode cX2_isMet 14 = .ok (.iload 4, 2) := by decide +kernel
theorem dX2_isMet_16 : decode cX2_isMet 16 = .ok (.iload_n 0, 1) := by decide +kernel
theorem dX2_isMet_17 : decode cX2_isMet 17 = .ok (.invokestatic 54, 3) := by decide +kernel
theorem dX2_isMet_20 : decode cX2_isMet 20 = .ok (.iload_n 1, 1) := by decide +kernel
theorem dX2_isMet_21 : decode cX2_isMet 21 = .ok (.invokestatic 54, 3) := by decide +kernel
theorem dX2_isMet_24 : decode cX2_isMet 24 = .ok (.iadd, 1) := by decide +kernel
theorem dX2_isMet_25 : decode cX2_isMet 25 = .ok (.if_icmp .gt 7, 3) := by decide +kernel
theorem dX2_isMet_28 : decode cX2_isMet 28 = .ok (.iconst 1, 1) := by decide +kernel
theorem dX2_isMet_29 : decode cX2_isMet 29 = .ok (.goto 4, 3) := by decide +kernel
theorem dX2_isMet_32 : decode cX2_isMet 32 = .ok (.iconst 0, 1) := by decide +kernel
theorem dX2_isMet_33 : decode cX2_isMet 33 = .ok (.ireturn, 1) := by decide +kernel
set_option maxRecDepth 20000 in
theorem ggX2_isFreeAlong_X4_isBlock : GoodIn wsX2_isFreeAlong wsX4_isBlock := goodIn_r _ [9, 10, 11, 12, 13, 18, 19] (by decide +kernel) (by decide +kernel)
set_option maxRecDepth 20000 in
theorem gX2_isFreeAlong_X4_isBlock : GoodIn wsX2_isFreeAlong (wsV RX2 44 RX4 yX4_isBlock wsX4_isBlock) := goodIn_app (goodIn_of _ (by decide +kernel)) ggX2_isFreeAlong_X4_isBlock
set_option maxRecDepth 20000 in
theorem ggX2_isFreeAlong_J6_compare_7cf53 : GoodIn wsX2_isFreeAlong wsJ6_compare_7cf53 := goodIn_r _ [17] (by decide +kernel) (by decide +kernel)
set_option maxRecDepth 20000 in
theorem gX2_isFreeAlong_J6_compare_7cf53 : GoodIn wsX2_isFreeAlong (va_wsS RX2 58 yJ6_compare_7cf53 wsJ6_compare_7cf53) := goodIn_app (goodIn_of _ (by decide +kernel)) ggX2_isFreeAlong_J6_compare_7cf53
theorem dX2_isFreeAlong_0 : decode cX2_isFreeAlong 0 = .ok (.iload_n 3, 1) := by decide +kernel
theorem dX2_isFreeAlong_1 : decode cX2_isFreeAlong 1 = .ok (.iload_n 1, 1) := by decide +kernel
theorem dX2_isFreeAlong_2 : decode cX2_isFreeAlong 2 = .ok (.isub, 1) := by decide +kernel
theorem dX2_isFreeAlong_3 : decode cX2_isFreeAlong 3 = .ok (.invokestatic 54, 3) := by decide +kernel
theorem dX2_isFreeAlong_6 : decode cX2_isFreeAlong 6 = .ok (.istore 5, 2) := by decide +kernel
theorem dX2_isFreeAlong_8 : decode cX2_isFreeAlong 8 = .ok (.iload 4, 2) := by decide +kernel
theorem dX2_isFreeAlong_10 : decode cX2_isFreeAlong 10 = .ok (.iload_n 2, 1) := by decide +kernel
theorem dX2_isFreeAlong_11 : decode cX2_isFreeAlong 11 = .ok (.isub, 1) := by decide +kernel
theorem dX2_isFreeAlong_12 : decode cX2_isFreeAlong 12 = .ok (.invokestatic 54, 3) := by decide +kernel
theorem dX2_isFreeAlong_15 : decode cX2_isFreeAlong 15 = .ok (.istore 6, 2) := by decide +kernel
theorem dX2_isFreeAlong_17 : decode cX2_isFreeAlong 17 = .ok (.iconst 0, 1) := by decide +kernel
theorem dX2_isFreeAlong_18 : decode cX2_isFreeAlong 18 = .ok (.istore 7, 2) := by decide +kernel
theorem dX2_isFreeAlong_20 : decode cX2_isFreeAlong 20 = .ok (.iconst 0, 1) := by decide +kernel
theorem dX2_isFreeAlong_21 : decode cX2_isFreeAlong 21 = .ok (.istore 8, 2) := by decide +kernel
theorem dX2_isFreeAlong_23 : decode cX2_isFreeAlong 23 = .ok (.iload_n 1, 1) := by decide +kernel
theorem dX2_isFreeAlong_24 : decode cX2_isFreeAlong 24 = .ok (.istore 9, 2) := by decide +kernel
theorem dX2_isFreeAlong_26 : decode cX2_isFreeAlong 26 = .ok (.iload_n 2, 1) := by decide +kernel
theorem dX2_isFreeAlong_27 : decode cX2_isFreeAlong 27 = .ok (.istore 10, 2) := by decide +kernel
theorem dX2_isFreeAlong_29 : decode cX2_isFreeAlong 29 = .ok (.aload_n 0, 1) := by decide +kernel
theorem dX2_isFreeAlong_30 : decode cX2_isFreeAlong 30 = .ok (.iload_n 1, 1) := by decide +kernel
theorem dX2_isFreeAlong_31 : decode cX2_isFreeAlong 31 = .ok (.iload_n 2, 1) := by decide +kernel
theorem dX2_isFreeAlong_32 : decode cX2_isFreeAlong 32 = .ok (.invokevirtual 44, 3) := by decide +kernel
theorem dX2_isFreeAlong_35 : decode cX2_isFreeAlong 35 = .ok (.ifCond .ne 7, 3) := by decide +kernel
theorem dX2_isFreeAlong_38 : decode cX2_isFreeAlong 38 = .ok (.iconst 1, 1) := by decide +kernel
theorem dX2_isFreeAlong_39 : decode cX2_isFreeAlong 39 = .ok (.goto 4, 3) := by decide +kernel
theorem dX2_isFreeAlong_42 : decode cX2_isFreeAlong 42 = .ok (.iconst 0, 1) := by decide +kernel
theorem dX2_isFreeAlong_43 : decode cX2_isFreeAlong 43 = .ok (.istore 11, 2) := by decide +kernel
theorem dX2_isFreeAlong_45 : decode cX2_isFreeAlong 45 = .ok (.iconst 0, 1) := by decide +kernel
theorem dX2_isFreeAlong_46 : decode cX2_isFreeAlong 46 = .ok (.istore 12, 2) := by decide +kernel
theorem dX2_isFreeAlong_48 : decode cX2_isFreeAlong 48 = .ok (.iload 12, 2) := by decide +kernel
theorem dX2_isFreeAlong_50 : decode cX2_isFreeAlong 50 = .ok (.bipush 14, 2) := by decide +kernel
theorem dX2_isFreeAlong_52 : decode cX2_isFreeAlong 52 = .ok (.if_icmp .ge 185, 3) := by decide +kernel
theorem dX2_isFreeAlong_55 : decode cX2_isFreeAlong 55 = .ok (.iload 11, 2) := by decide +kernel
theorem dX2_isFreeAlong_57 : decode cX2_isFreeAlong 57 = .ok (.ifCond .eq 180, 3) := by decide +kernel
theorem dX2_isFreeAlong_60 : decode cX2_isFreeAlong 60 = .ok (.iload 7, 2) := by decide +kernel
theorem dX2_isFreeAlong_62 : decode cX2_isFreeAlong 62 = .ok (.iload 8, 2) := by decide +kernel
theorem dX2_isFreeAlong_64 : decode cX2_isFreeAlong 64 = .ok (.iadd, 1) := by decide +kernel
theorem dX2_isFreeAlong_65 : decode cX2_isFreeAlong 65 = .ok (.iload 5, 2) := by decide +kernel
theorem dX2_isFreeAlong_67 : decode cX2_isFreeAlong 67 = .ok (.iload 6, 2) := by decide +kernel
theorem dX2_isFreeAlong_69 : decode cX2_isFreeAlong 69 = .ok (.iadd, 1) := by decide +kernel
theorem dX2_isFreeAlong_70 : decode cX2_isFreeAlong 70 = .ok (.if_icmp .ge 167, 3) := by decide +kernel
theorem dX2_isFreeAlong_73 : decode cX2_isFreeAlong 73 = .ok (.iconst 2, 1) := by decide +kernel
theorem dX2_isFreeAlong_74 : decode cX2_isFreeAlong 74 = .ok (.iload 7, 2) := by decide +kernel
theorem dX2_isFreeAlong_76 : decode cX2_isFreeAlong 76 = .ok (.imul, 1) := by decide +kernel
theorem dX2_isFreeAlong_77 : decode cX2_isFreeAlong 77 = .ok (.iconst 1, 1) := by decide +kernel
theorem dX2_isFreeAlong_78 : decode cX2_isFreeAlong 78 = .ok (.iadd, 1) := by decide +kernel
theorem dX2_isFreeAlong_79 : decode cX2_isFreeAlong 79 = .ok (.iload 6, 2) := by decide +kernel
theorem dX2_isFreeAlong_81 : decode cX2_isFreeAlong 81 = .ok (.imul, 1) := by decide +kernel
theorem dX2_isFreeAlong_82 : decode cX2_isFreeAlong 82 = .ok (.iconst 2, 1) := by decide +kernel
theorem dX2_isFreeAlong_83 : decode cX2_isFreeAlong 83 = .ok (.iload 8, 2) := by decide +kernel
theorem dX2_isFreeAlong_85 : decode cX2_isFreeAlong 85 = .ok (.imul, 1) := by decide +kernel
theorem dX2_isFreeAlong_86 : decode cX2_isFreeAlong 86 = .ok (.iconst 1, 1) := by decide +kernel
theorem dX2_isFreeAlong_87 : decode cX2_isFreeAlong 87 = .ok (.iadd, 1) := by decide +kernel
theorem dX2_isFreeAlong_88 : decode cX2_isFreeAlong 88 = .ok (.iload 5, 2) := by decide +kernel
theorem dX2_isFreeAlong_90 : decode cX2_isFreeAlong 90 = .ok (.imul, 1) := by decide +kernel
theorem dX2_isFreeAlong_91 : decode cX2_isFreeAlong 91 = .ok (.invokestatic 58, 3) := by decide +kernel
theorem dX2_isFreeAlong_94 : decode cX2_isFreeAlong 94 = .ok (.istore 13, 2) := by decide +kernel
theorem dX2_isFreeAlong_96 : decode cX2_isFreeAlong 96 = .ok (.iload 13, 2) := by decide +kernel
theorem dX2_isFreeAlong_98 : decode cX2_isFreeAlong 98 = .ok (.ifCond .le 8, 3) := by decide +kernel
theorem dX2_isFreeAlong_101 : decode cX2_isFreeAlong 101 = .ok (.iload 9, 2) := by decide +kernel
theorem dX2_isFreeAlong_103 : decode cX2_isFreeAlong 103 = .ok (.goto 19, 3) := by decide +kernel
theorem dX2_isFreeAlong_106 : decode cX2_isFreeAlong 106 = .ok (.iload_n 3, 1) := by decide +kernel
theorem dX2_isFreeAlong_107 : decode cX2_isFreeAlong 107 = .ok (.iload_n 1, 1) := by decide +kernel
theorem dX2_isFreeAlong_108 : decode cX2_isFreeAlong 108 = .ok (.if_icmp .le 10, 3) := by decide +kernel
theorem dX2_isFreeAlong_111 : decode cX2_isFreeAlong 111 = .ok (.iload 9, 2) := by decide +kernel
theorem dX2_isFreeAlong_113 : decode cX2_isFreeAlong 113 = .ok (.iconst 1, 1) := by decide +kernel
theorem dX2_isFreeAlong_114 : decode cX2_isFreeAlong 114 = .ok (.iadd, 1) := by decide +kernel
theorem dX2_isFreeAlong_115 : decode cX2_isFreeAlong 115 = .ok (.goto 7, 3) := by decide +kernel
theorem dX2_isFreeAlong_118 : decode cX2_isFreeAlong 118 = .ok (.iload 9, 2) := by decide +kernel
theorem dX2_isFreeAlong_120 : decode cX2_isFreeAlong 120 = .ok (.iconst 1, 1) := by decide +kernel
theorem dX2_isFreeAlong_121 : decode cX2_isFreeAlong 121 = .ok (.isub, 1) := by decide +kernel
theorem dX2_isFreeAlong_122 : decode cX2_isFreeAlong 122 = .ok (.istore 14, 2) := by decide +kernel
theorem dX2_isFreeAlong_124 : decode cX2_isFreeAlong 124 = .ok (.iload 13, 2) := by decide +kernel
theorem dX2_isFreeAlong_126 : decode cX2_isFreeAlong 126 = .ok (.ifCond .ge 8, 3) := by decide +kernel
theorem dX2_isFreeAlong_129 : decode cX2_isFreeAlong 129 = .ok (.iload 10, 2) := by decide +kernel
theorem dX2_isFreeAlong_131 : decode cX2_isFreeAlong 131 = .ok (.goto 20, 3) := by decide +kernel
theorem dX2_isFreeAlong_134 : decode cX2_isFreeAlong 134 = .ok (.iload 4, 2) := by decide +kernel
theorem dX2_isFreeAlong_136 : decode cX2_isFreeAlong 136 = .ok (.iload_n 2, 1) := by decide +kernel
theorem dX2_isFreeAlong_137 : decode cX2_isFreeAlong 137 = .ok (.if_icmp .le 10, 3) := by decide +kernel
theorem dX2_isFreeAlong_140 : decode cX2_isFreeAlong 140 = .ok (.iload 10, 2) := by decide +kernel
theorem dX2_isFreeAlong_142 : decode cX2_isFreeAlong 142 = .ok (.iconst 1, 1) := by decide +kernel
theorem dX2_isFreeAlong_143 : decode cX2_isFreeAlong 143 = .ok (.iadd, 1) := by decide +kernel
theorem dX2_isFreeAlong_144 : decode cX2_isFreeAlong 144 = .ok (.goto 7, 3) := by decide +kernel
theorem dX2_isFreeAlong_147 : decode cX2_isFreeAlong 147 = .ok (.iload 10, 2) := by decide +kernel
theorem dX2_isFreeAlong_149 : decode cX2_isFreeAlong 149 = .ok (.iconst 1, 1) := by decide +kernel
theorem dX2_isFreeAlong_150 : decode cX2_isFreeAlong 150 = .ok (.isub, 1) := by decide +kernel
theorem dX2_isFreeAlong_151 : decode cX2_isFreeAlong 151 = .ok (.istore 15, 2) := by decide +kernel
theorem dX2_isFreeAlong_153 : decode cX2_isFreeAlong 153 = .ok (.aload_n 0, 1) := by decide +kernel
theorem dX2_isFreeAlong_154 : decode cX2_isFreeAlong 154 = .ok (.iload 14, 2) := by decide +kernel
theorem dX2_isFreeAlong_156 : decode cX2_isFreeAlong 156 = .ok (.iload 15, 2) := by decide +kernel
theorem dX2_isFreeAlong_158 : decode cX2_isFreeAlong 158 = .ok (.invokevirtual 44, 3) := by decide +kernel
theorem dX2_isFreeAlong_161 : decode cX2_isFreeAlong 161 = .ok (.ifCond .ne 29, 3) := by decide +kernel
theorem dX2_isFreeAlong_164 : decode cX2_isFreeAlong 164 = .ok (.aload_n 0, 1) := by decide +kernel
theorem dX2_isFreeAlong_165 : decode cX2_isFreeAlong 165 = .ok (.iload 14, 2) := by decide +kernel
theorem dX2_isFreeAlong_167 : decode cX2_isFreeAlong 167 = .ok (.iload 10, 2) := by decide +kernel
theorem dX2_isFreeAlong_169 : decode cX2_isFreeAlong 169 = .ok (.invokevirtual 44, 3) := by decide +kernel
theorem dX2_isFreeAlong_172 : decode cX2_isFreeAlong 172 = .ok (.ifCond .ne 18, 3) := by decide +kernel
theorem dX2_isFreeAlong_175 : decode cX2_isFreeAlong 175 = .ok (.aload_n 0, 1) := by decide +kernel
theorem dX2_isFreeAlong_176 : decode cX2_isFreeAlong 176 = .ok (.iload 9, 2) := by decide +kernel
theorem dX2_isFreeAlong_178 : decode cX2_isFreeAlong 178 = .ok (.iload 15, 2) := by decide +kernel
theorem dX2_isFreeAlong_180 : decode cX2_isFreeAlong 180 = .ok (.invokevirtual 44, 3) := by decide +kernel
theorem dX2_isFreeAlong_183 : decode cX2_isFreeAlong 183 = .ok (.ifCond .ne 7, 3) := by decide +kernel
theorem dX2_isFreeAlong_186 : decode cX2_isFreeAlong 186 = .ok (.iconst 1, 1) := by decide +kernel
theorem dX2_isFreeAlong_187 : decode cX2_isFreeAlong 187 = .ok (.goto 4, 3) := by decide +kernel
theorem dX2_isFreeAlong_190 : decode cX2_isFreeAlong 190 = .ok (.iconst 0, 1) := by decide +kernel
theorem dX2_isFreeAlong_191 : decode cX2_isFreeAlong 191 = .ok (.istore 11, 2) := by decide +kernel
theorem dX2_isFreeAlong_193 : decode cX2_isFreeAlong 193 = .ok (.iload 7, 2) := by decide +kernel
theorem dX2_isFreeAlong_195 : decode cX2_isFreeAlong 195 = .ok (.iload 13, 2) := by decide +kernel
theorem dX2_isFreeAlong_197 : decode cX2_isFreeAlong 197 = .ok (.ifCond .le 7, 3) := by decide +kernel
theorem dX2_isFreeAlong_200 : decode cX2_isFreeAlong 200 = .ok (.iconst 0, 1) := by decide +kernel
theorem dX2_isFreeAlong_201 : decode cX2_isFreeAlong 201 = .ok (.goto 4, 3) := by decide +kernel
theorem dX2_isFreeAlong_204 : decode cX2_isFreeAlong 204 = .ok (.iconst 1, 1) := by decide +kernel
theorem dX2_isFreeAlong_205 : decode cX2_isFreeAlong 205 = .ok (.iadd, 1) := by decide +kernel
theorem dX2_isFreeAlong_206 : decode cX2_isFreeAlong 206 = .ok (.istore 7, 2) := by decide +kernel
theorem dX2_isFreeAlong_208 : decode cX2_isFreeAlong 208 = .ok (.iload 8, 2) := by decide +kernel
theorem dX2_isFreeAlong_210 : decode cX2_isFreeAlong 210 = .ok (.iload 13, 2) := by decide +kernel
theorem dX2_isFreeAlong_212 : decode cX2_isFreeAlong 212 = .ok (.ifCond .ge 7, 3) := by decide +kernel
theorem dX2_isFreeAlong_215 : decode cX2_isFreeAlong 215 = .ok (.iconst 0, 1) := by decide +kernel
theorem dX2_isFreeAlong_216 : decode cX2_isFreeAlong 216 = .ok (.goto 4, 3) := by decide +kernel
theorem dX2_isFreeAlong_219 : decode cX2_isFreeAlong 219 = .ok (.iconst 1, 1) := by decide +kernel
theorem dX2_isFreeAlong_220 : decode cX2_isFreeAlong 220 = .ok (.iadd, 1) := by decide +kernel
theorem dX2_isFreeAlong_221 : decode cX2_isFreeAlong 221 = .ok (.istore 8, 2) := by decide +kernel
theorem dX2_isFreeAlong_223 : decode cX2_isFreeAlong 223 = .ok (.iload 14, 2) := by decide +kernel
theorem dX2_isFreeAlong_225 : decode cX2_isFreeAlong 225 = .ok (.istore 9, 2) := by decide +kernel
theorem dX2_isFreeAlong_227 : decode cX2_isFreeAlong 227 = .ok (.iload 15, 2) := by decide +kernel
theorem dX2_isFreeAlong_229 : decode cX2_isFreeAlong 229 = .ok (.istore 10, 2) := by decide +kernel
theorem dX2_isFreeAlong_231 : decode cX2_isFreeAlong 231 = .ok (.iinc 12 1, 3) := by decide +kernel
theorem dX2_isFreeAlong_234 : decode cX2_isFreeAlong 234 = .ok (.goto (-186), 3) := by decide +kernel
theorem dX2_isFreeAlong_237 : decode cX2_isFreeAlong 237 = .ok (.iload 11, 2) := by decide +kernel
theorem dX2_isFreeAlong_239 : decode cX2_isFreeAlong 239 = .ok (.ireturn, 1) := by decide +kernel
theorem dX3_init_0 : decode cX3_init 0 = .ok (.aload_n 0, 1) := by decide +kernel
theorem dX3_init_1 : decode cX3_init 1 = .ok (.invokespecial 1, 3) := by decide +kernel
theorem dX3_init_4 : decode cX3_init 4 = .ok (.aload_n 0, 1) := by decide +kernel
theorem dX3_init_5 : decode cX3_init 5 = .ok (.bipush 8, 2) := by decide +kernel
theorem dX3_init_7 : decode cX3_init 7 = .ok (.newarray .long, 2) := by decide +kernel
theorem dX3_init_9 : decode cX3_init 9 = .ok (.putfield 9, 3) := by decide +kernel
theorem dX3_init_12 : decode cX3_init 12 = .ok (.return_, 1) := by decide +kernel
theorem dX3_clear_0 : decode cX3_clear 0 = .ok (.iconst 0, 1) := by decide +kernel
theorem dX3_clear_1 : decode cX3_clear 1 = .ok (.istore_n 1, 1) := by decide +kernel
theorem dX3_clear_2 : decode cX3_clear 2 = .ok (.iload_n 1, 1) := by decide +kernel
theorem dX3_clear_3 : decode cX3_clear 3 = .ok (.aload_n 0, 1) := by decide +kernel
theorem dX3_clear_4 : decode cX3_clear 4 = .ok (.getfield 9, 3) := by decide +kernel
theorem dX3_clear_7 : decode cX3_clear 7 = .ok (.arraylength, 1) := by decide +kernel
theorem dX3_clear_8 : decode cX3_clear 8 = .ok (.if_icmp .ge 16, 3) := by decide +kernel
theorem dX3_clear_11 : decode cX3_clear 11 = .ok (.aload_n 0, 1) := by decide +kernel
theorem dX3_clear_12 : decode cX3_clear 12 = .ok (.getfield 9, 3) := by decide +kernel
theorem dX3_clear_15 : decode cX3_clear 15 = .ok (.iload_n 1, 1) := by decide +kernel
theorem dX3_clear_16 : decode cX3_clear 16 = .ok (.lconst 0, 1) := by decide +kernel
theorem dX3_clear_17 : decode cX3_clear 17 = .ok (.lastore, 1) := by decide +kernel
theorem dX3_clear_18 : decode cX3_clear 18 = .ok (.iinc 1 1, 3) := by decide +kernel
theorem dX3_clear_21 : decode cX3_clear 21 = .ok (.goto (-19), 3) := by decide +kernel
theorem dX3_clear_24 : decode cX3_clear 24 = .ok (.return_, 1) := by decide +kernel
theorem dX3_has_0 : decode cX3_has 0 = .ok (.iload_n 1, 1) := by decide +kernel
theorem dX3_has_1 : decode cX3_has 1 = .ok (.ifCond .lt 35, 3) := by decide +kernel
theorem dX3_has_4 : decode cX3_has 4 = .ok (.iload_n 1, 1) := by decide +kernel
theorem dX3_has_5 : decode cX3_has 5 = .ok (.sipush 512, 3) := by decide +kernel
theorem dX3_has_8 : decode cX3_has 8 = .ok (.if_icmp .ge 28, 3) := by decide +kernel
theorem dX3_has_11 : decode cX3_has 11 = .ok (.aload_n 0, 1) := by decide +kernel
theorem dX3_has_12 : decode cX3_has 12 = .ok (.getfield 9, 3) := by decide +kernel
theorem dX3_has_15 : decode cX3_has 15 = .ok (.iload_n 1, 1) := by decide +kernel
theorem dX3_has_16 : decode cX3_has 16 = .ok (.bipush 64, 2) := by decide +kernel
theorem dX3_has_18 : decode cX3_has 18 = .ok (.idiv, 1) := by decide +kernel
theorem dX3_has_19 : decode cX3_has 19 = .ok (.laload, 1) := by decide +kernel
theorem dX3_has_20 : decode cX3_has 20 = .ok (.iload_n 1, 1) := by decide +kernel
theorem dX3_has_21 : decode cX3_has 21 = .ok (.bipush 64, 2) := by decide +kernel
theorem dX3_has_23 : decode cX3_has 23 = .ok (.irem, 1) := by decide +kernel
theorem dX3_has_24 : decode cX3_has 24 = .ok (.lushr, 1) := by decide +kernel
theorem dX3_has_25 : decode cX3_has 25 = .ok (.lconst 1, 1) := by decide +kernel
theorem dX3_has_26 : decode cX3_has 26 = .ok (.land, 1) := by decide +kernel
theorem dX3_has_27 : decode cX3_has 27 = .ok (.lconst 0, 1) := by decide +kernel
theorem dX3_has_28 : decode cX3_has 28 = .ok (.lcmp, 1) := by decide +kernel
theorem dX3_has_29 : decode cX3_has 29 = .ok (.ifCond .eq 7, 3) := by decide +kernel
theorem dX3_has_32 : decode cX3_has 32 = .ok (.iconst 1, 1) := by decide +kernel
theorem dX3_has_33 : decode cX3_has 33 = .ok (.goto 4, 3) := by decide +kernel
theorem dX3_has_36 : decode cX3_has 36 = .ok (.iconst 0, 1) := by decide +kernel
theorem dX3_has_37 : decode cX3_has 37 = .ok (.ireturn, 1) := by decide +kernel
theorem dX3_add_0 : decode cX3_add 0 = .ok (.iload_n 1, 1) := by decide +kernel
theorem dX3_add_1 : decode cX3_add 1 = .ok (.ifCond .lt 28, 3) := by decide +kernel
theorem dX3_add_4 : decode cX3_add 4 = .ok (.iload_n 1, 1) := by decide +kernel
theorem dX3_add_5 : decode cX3_add 5 = .ok (.sipush 512, 3) := by decide +kernel
theorem dX3_add_8 : decode cX3_add 8 = .ok (.if_icmp .ge 21, 3) := by decide +kernel
theorem dX3_add_11 : decode cX3_add 11 = .ok (.aload_n 0, 1) := by decide +kernel
theorem dX3_add_12 : decode cX3_add 12 = .ok (.getfield 9, 3) := by decide +kernel
theorem dX3_add_15 : decode cX3_add 15 = .ok (.iload_n 1, 1) := by decide +kernel
theorem dX3_add_16 : decode cX3_add 16 = .ok (.bipush 64, 2) := by decide +kernel
theorem dX3_add_18 : decode cX3_add 18 = .ok (.idiv, 1) := by decide +kernel
theorem dX3_add_19 : decode cX3_add 19 = .ok (.dup2, 1) := by decide +kernel
theorem dX3_add_20 : decode cX3_add 20 = .ok (.laload, 1) := by decide +kernel
theorem dX3_add_21 : decode cX3_add 21 = .ok (.lconst 1, 1) := by decide +kernel
theorem dX3_add_22 : decode cX3_add 22 = .ok (.iload_n 1, 1) := by decide +kernel
theorem dX3_add_23 : decode cX3_add 23 = .ok (.bipush 64, 2) := by decide +kernel
theorem dX3_add_25 : decode cX3_add 25 = .ok (.irem, 1) := by decide +kernel
theorem dX3_add_26 : decode cX3_add 26 = .ok (.lshl, 1) := by decide +kernel
theorem dX3_add_27 : decode cX3_add 27 = .ok (.lor, 1) := by decide +kernel
theorem dX3_add_28 : decode cX3_add 28 = .ok (.lastore, 1) := by decide +kernel
theorem dX3_add_29 : decode cX3_add 29 = .ok (.return_, 1) := by decide +kernel
set_option maxRecDepth 20000 in
theorem ggX4_init_X3_init : GoodIn wsX4_init wsX3_init := goodIn_r _ [10, 11, 2, 3, 12, 13, 14] (by decide +kernel) (by decide +kernel)
set_option maxRecDepth 20000 in
theorem gX4_init_X3_init_n11 : GoodIn wsX4_init (wsX3_init) := ggX4_init_X3_init
theorem dX4_init_0 : decode cX4_init 0 = .ok (.aload_n 0, 1) := by decide +kernel
theorem dX4_init_1 : decode cX4_init 1 = .ok (.invokespecial 3, 3) := by decide +kernel
theorem dX4_init_4 : decode cX4_init 4 = .ok (.aload_n 0, 1) := by decide +kernel
theorem dX4_init_5 : decode cX4_init 5 = .ok (.new 9, 3) := by decide +kernel
theorem dX4_init_8 : decode cX4_init 8 = .ok (.dup, 1) := by decide +kernel
theorem dX4_init_9 : decode cX4_init 9 = .ok (.invokespecial 11, 3) := by decide +kernel
theorem dX4_init_12 : decode cX4_init 12 = .ok (.putfield 12, 3) := by decide +kernel
theorem dX4_init_15 : decode cX4_init 15 = .ok (.aload_n 0, 1) := by decide +kernel
theorem dX4_init_16 : decode cX4_init 16 = .ok (.lconst 0, 1) := by decide +kernel
theorem dX4_init_17 : decode cX4_init 17 = .ok (.putfield 18, 3) := by decide +kernel
theorem dX4_init_20 : decode cX4_init 20 = .ok (.return_, 1) := by decide +kernel
set_option maxRecDepth 20000 in
theorem ggX4_isBlock_X6_isCell : GoodIn wsX4_isBlock wsX6_isCell := goodIn_r _ [4] (by decide +kernel) (by decide +kernel)
set_option maxRecDepth 20000 in
theorem gX4_isBlock_X6_isCell_n22 : GoodIn wsX4_isBlock (wsX6_isCell) := ggX4_isBlock_X6_isCell
theorem dX4_isBlock_0 : decode cX4_isBlock 0 = .ok (.iload_n 1, 1) := by decide +kernel
theorem dX4_isBlock_1 : decode cX4_isBlock 1 = .ok (.iload_n 2, 1) := by decide +kernel
theorem dX4_isBlock_2 : decode cX4_isBlock 2 = .ok (.invokestatic 22, 3) := by decide +kernel
theorem dX4_isBlock_5 : decode cX4_isBlock 5 = .ok (.ifCond .eq 21, 3) := by decide +kernel
theorem dX4_isBlock_8 : decode cX4_isBlock 8 = .ok (.aload_n 0, 1) := by decide +kernel
theorem dX4_isBlock_9 : decode cX4_isBlock 9 = .ok (.getfield 18, 3) := by decide +kernel
theorem dX4_isBlock_12 : decode cX4_isBlock 12 = .ok (.iload_n 1, 1) := by decide +kernel
theorem dX4_isBlock_13 : decode cX4_isBlock 13 = .ok (.bipush 8, 2) := by decide +kernel
theorem dX4_isBlock_15 : decode cX4_isBlock 15 = .ok (.iload_n 2, 1) := by decide +kernel
theorem dX4_isBlock_16 : decode cX4_isBlock 16 = .ok (.imul, 1) := by decide +kernel
theorem dX4_isBlock_17 : decode cX4_isBlock 17 = .ok (.iadd, 1) := by decide +kernel
theorem dX4_isBlock_18 : decode cX4_isBlock 18 = .ok (.lushr, 1) := by decide +kernel
theorem dX4_isBlock_19 : decode cX4_isBlock 19 = .ok (.lconst 1, 1) := by decide +kernel
theorem dX4_isBlock_20 : decode cX4_isBlock 20 = .ok (.land, 1) := by decide +kernel
theorem dX4_isBlock_21 : decode cX4_isBlock 21 = .ok (.lconst 0, 1) := by decide +kernel
theorem dX4_isBlock_22 : decode cX4_isBlock 22 = .ok (.lcmp, 1) := by decide +kernel
theorem dX4_isBlock_23 : decode cX4_isBlock 23 = .ok (.ifCond .eq 7, 3) := by decide +kernel
theorem dX4_isBlock_26 : decode cX4_isBlock 26 = .ok (.iconst 1, 1) := by decide +kernel
theorem dX4_isBlock_27 : decode cX4_isBlock 27 = .ok (.goto 4, 3) := by decide +kernel
theorem dX4_isBlock_30 : decode cX4_isBlock 30 = .ok (.iconst 0, 1) := by decide +kernel
theorem dX4_isBlock_31 : decode cX4_isBlock 31 = .ok (.ireturn, 1) := by decide +kernel
theorem dX4_lay_0 : decode cX4_lay 0 = .ok (.lconst 1, 1) := by decide +kernel
theorem dX4_lay_1 : decode cX4_lay 1 = .ok (.iload_n 1, 1) := by decide +kernel
theorem dX4_lay_2 : decode cX4_lay 2 = .ok (.bipush 8, 2) := by decide +kernel
theorem dX4_lay_4 : decode cX4_lay 4 = .ok (.iload_n 2, 1) := by decide +kernel
theorem dX4_lay_5 : decode cX4_lay 5 = .ok (.imul, 1) := by decide +kernel
theorem dX4_lay_6 : decode cX4_lay 6 = .ok (.iadd, 1) := by decide +kernel
theorem dX4_lay_7 : decode cX4_lay 7 = .ok (.lshl, 1) := by decide +kernel
theorem dX4_lay_8 : decode cX4_lay 8 = .ok (.lstore 4, 2) := by decide +kernel
theorem dX4_lay_10 : decode cX4_lay 10 = .ok (.aload_n 0, 1) := by decide +kernel
theorem dX4_lay_11 : decode cX4_lay 11 = .ok (.iload_n 3, 1) := by decide +kernel
theorem dX4_lay_12 : decode cX4_lay 12 = .ok (.ifCond .eq 13, 3) := by decide +kernel
theorem dX4_lay_15 : decode cX4_lay 15 = .ok (.aload_n 0, 1) := by decide +kernel
theorem dX4_lay_16 : decode cX4_lay 16 = .ok (.getfield 18, 3) := by decide +kernel
theorem dX4_lay_19 : decode cX4_lay 19 = .ok (.lload 4, 2) := by decide +kernel
theorem dX4_lay_21 : decode cX4_lay 21 = .ok (.lor, 1) := by decide +kernel
theorem dX4_lay_22 : decode cX4_lay 22 = .ok (.goto 14, 3) := by decide +kernel
theorem dX4_lay_25 : decode cX4_lay 25 = .ok (.aload_n 0, 1) := by decide +kernel
theorem dX4_lay_26 : decode cX4_lay 26 = .ok (.getfield 18, 3) := by decide +kernel
theorem dX4_lay_29 : decode cX4_lay 29 = .ok (.lload 4, 2) := by decide +kernel
theorem dX4_lay_31 : decode cX4_lay 31 = .ok (.ldc2_w 26, 3) := by decide +kernel
theorem dX4_lay_34 : decode cX4_lay 34 = .ok (.lxor, 1) := by decide +kernel
theorem dX4_lay_35 : decode cX4_lay 35 = .ok (.land, 1) := by decide +kernel
theorem dX4_lay_36 : decode cX4_lay 36 = .ok (.putfield 18, 3) := by decide +kernel
theorem dX4_lay_39 : decode cX4_lay 39 = .ok (.return_, 1) := by decide +kernel
set_option maxRecDepth 20000 in
theorem ggX4_floors_J13_bitCount_95d88 : GoodIn wsX4_floors wsJ13_bitCount_95d88 := goodIn_r _ [5, 6, 7, 8] (by decide +kernel) (by decide +kernel)
set_option maxRecDepth 20000 in
theorem gX4_floors_J13_bitCount_95d88 : GoodIn wsX4_floors (va_wsS RX4 28 yJ13_bitCount_95d88 wsJ13_bitCount_95d88) := goodIn_app (goodIn_of _ (by decide +kernel)) ggX4_floors_J13_bitCount_95d88
theorem dX4_floors_0 : decode cX4_floors 0 = .ok (.bipush 64, 2) := by decide +kernel
theorem dX4_floors_2 : decode cX4_floors 2 = .ok (.aload_n 0, 1) := by decide +kernel
theorem dX4_floors_3 : decode cX4_floors 3 = .ok (.getfield 18, 3) := by decide +kernel
theorem dX4_floors_6 : decode cX4_floors 6 = .ok (.invokestatic 28, 3) := by decide +kernel
theorem dX4_floors_9 : decode cX4_floors 9 = .ok (.isub, 1) := by decide +kernel
theorem dX4_floors_10 : decode cX4_floors 10 = .ok (.ireturn, 1) := by decide +kernel
theorem dX4_stateOf_0 : decode cX4_stateOf 0 = .ok (.iload_n 0, 1) := by decide +kernel
theorem dX4_stateOf_1 : decode cX4_stateOf 1 = .ok (.bipush 8, 2) := by decide +kernel
theorem dX4_stateOf_3 : decode cX4_stateOf 3 = .ok (.iload_n 1, 1) := by decide +kernel
theorem dX4_stateOf_4 : decode cX4_stateOf 4 = .ok (.imul, 1) := by decide +kernel
theorem dX4_stateOf_5 : decode cX4_stateOf 5 = .ok (.iadd, 1) := by decide +kernel
theorem dX4_stateOf_6 : decode cX4_stateOf 6 = .ok (.bipush 64, 2) := by decide +kernel
theorem dX4_stateOf_8 : decode cX4_stateOf 8 = .ok (.iload_n 2, 1) := by decide +kernel
theorem dX4_stateOf_9 : decode cX4_stateOf 9 = .ok (.imul, 1) := by decide +kernel
theorem dX4_stateOf_10 : decode cX4_stateOf 10 = .ok (.iadd, 1) := by decide +kernel
theorem dX4_stateOf_11 : decode cX4_stateOf 11 = .ok (.iload_n 3, 1) := by decide +kernel
theorem dX4_stateOf_12 : decode cX4_stateOf 12 = .ok (.ifCond .eq 9, 3) := by decide +kernel
theorem dX4_stateOf_15 : decode cX4_stateOf 15 = .ok (.sipush 256, 3) := by decide +kernel
theorem dX4_stateOf_18 : decode cX4_stateOf 18 = .ok (.goto 4, 3) := by decide +kernel
theorem dX4_stateOf_21 : decode cX4_stateOf 21 = .ok (.iconst 0, 1) := by decide +kernel
