theorem dX5_leastBeginning_47 : decode cX5_leastBeginning 47 = .ok (.istore_n 3, 1) := by decide +kernel
theorem dX5_leastBeginning_48 : decode cX5_leastBeginning 48 = .ok (.iload 4, 2) := by decide +kernel
theorem dX5_leastBeginning_50 : decode cX5_leastBeginning 50 = .ok (.istore_n 2, 1) := by decide +kernel
theorem dX5_leastBeginning_51 : decode cX5_leastBeginning 51 = .ok (.aload_n 0, 1) := by decide +kernel
theorem dX5_leastBeginning_52 : decode cX5_leastBeginning 52 = .ok (.iload_n 1, 1) := by decide +kernel
theorem dX5_leastBeginning_53 : decode cX5_leastBeginning 53 = .ok (.putfield 33, 3) := by decide +kernel
theorem dX5_leastBeginning_56 : decode cX5_leastBeginning 56 = .ok (.iinc 4 1, 3) := by decide +kernel
theorem dX5_leastBeginning_59 : decode cX5_leastBeginning 59 = .ok (.goto (-46), 3) := by decide +kernel
theorem dX5_leastBeginning_62 : decode cX5_leastBeginning 62 = .ok (.iload_n 2, 1) := by decide +kernel
theorem dX5_leastBeginning_63 : decode cX5_leastBeginning 63 = .ok (.ireturn, 1) := by decide +kernel
set_option maxRecDepth 20000 in
theorem ggX5_numberFrom_J6_bitCount_0f7a4 : GoodIn wsX5_numberFrom wsJ6_bitCount_0f7a4 := goodIn_r _ [8, 9, 10, 11] (by decide +kernel) (by decide +kernel)
set_option maxRecDepth 20000 in
theorem gX5_numberFrom_J6_bitCount_0f7a4 : GoodIn wsX5_numberFrom (va_wsS RX5 68 yJ6_bitCount_0f7a4 wsJ6_bitCount_0f7a4) := goodIn_app (goodIn_of _ (by decide +kernel)) ggX5_numberFrom_J6_bitCount_0f7a4
set_option maxRecDepth 20000 in
theorem ggX5_numberFrom_X5_numberNext : GoodIn wsX5_numberFrom wsX5_numberNext := goodIn_r _ [16, 1, 3, 4, 5, 6, 7, 8, 9, 10, 11, 17, 18, 19, 32, 33, 34, 35, 36, 37, 38, 39, 40] (by decide +kernel) (by decide +kernel)
set_option maxRecDepth 20000 in
theorem gX5_numberFrom_X5_numberNext : GoodIn wsX5_numberFrom (wsV RX5 95 RX5 yX5_numberNext wsX5_numberNext) := goodIn_app (goodIn_of _ (by decide +kernel)) ggX5_numberFrom_X5_numberNext
set_option maxRecDepth 20000 in
theorem ggX5_numberFrom_X6_at : GoodIn wsX5_numberFrom wsX6_at := goodIn_r _ [21] (by decide +kernel) (by decide +kernel)
set_option maxRecDepth 20000 in
theorem gX5_numberFrom_X6_at_n54 : GoodIn wsX5_numberFrom (wsX6_at) := ggX5_numberFrom_X6_at
set_option maxRecDepth 20000 in
theorem ggX5_numberFrom_X5_rightOf : GoodIn wsX5_numberFrom wsX5_rightOf := goodIn_r _ [25, 26, 20, 18, 21, 32, 33, 34, 35, 36, 37, 38, 39, 40] (by decide +kernel) (by decide +kernel)
set_option maxRecDepth 20000 in
theorem gX5_numberFrom_X5_rightOf : GoodIn wsX5_numberFrom (wsV RX5 47 RX5 yX5_rightOf wsX5_rightOf) := goodIn_app (goodIn_of _ (by decide +kernel)) ggX5_numberFrom_X5_rightOf
set_option maxRecDepth 20000 in
theorem ggX5_numberFrom_X5_upOf : GoodIn wsX5_numberFrom wsX5_upOf := goodIn_r _ [30, 31, 20, 18, 21, 32, 33, 34, 35, 36, 37, 38, 39, 40] (by decide +kernel) (by decide +kernel)
set_option maxRecDepth 20000 in
theorem gX5_numberFrom_X5_upOf : GoodIn wsX5_numberFrom (wsV RX5 51 RX5 yX5_upOf wsX5_upOf) := goodIn_app (goodIn_of _ (by decide +kernel)) ggX5_numberFrom_X5_upOf
theorem dX5_numberFrom_0 : decode cX5_numberFrom 0 = .ok (.iconst 0, 1) := by decide +kernel
theorem dX5_numberFrom_1 : decode cX5_numberFrom 1 = .ok (.istore_n 2, 1) := by decide +kernel
theorem dX5_numberFrom_2 : decode cX5_numberFrom 2 = .ok (.aload_n 0, 1) := by decide +kernel
theorem dX5_numberFrom_3 : decode cX5_numberFrom 3 = .ok (.getfield 33, 3) := by decide +kernel
theorem dX5_numberFrom_6 : decode cX5_numberFrom 6 = .ok (.invokestatic 68, 3) := by decide +kernel
theorem dX5_numberFrom_9 : decode cX5_numberFrom 9 = .ok (.istore_n 3, 1) := by decide +kernel
theorem dX5_numberFrom_10 : decode cX5_numberFrom 10 = .ok (.aload_n 0, 1) := by decide +kernel
theorem dX5_numberFrom_11 : decode cX5_numberFrom 11 = .ok (.iload_n 1, 1) := by decide +kernel
theorem dX5_numberFrom_12 : decode cX5_numberFrom 12 = .ok (.invokevirtual 95, 3) := by decide +kernel
theorem dX5_numberFrom_15 : decode cX5_numberFrom 15 = .ok (.iload_n 3, 1) := by decide +kernel
theorem dX5_numberFrom_16 : decode cX5_numberFrom 16 = .ok (.istore 4, 2) := by decide +kernel
theorem dX5_numberFrom_18 : decode cX5_numberFrom 18 = .ok (.iload 4, 2) := by decide +kernel
theorem dX5_numberFrom_20 : decode cX5_numberFrom 20 = .ok (.aload_n 0, 1) := by decide +kernel
theorem dX5_numberFrom_21 : decode cX5_numberFrom 21 = .ok (.getfield 37, 3) := by decide +kernel
theorem dX5_numberFrom_24 : decode cX5_numberFrom 24 = .ok (.if_icmp .ge 90, 3) := by decide +kernel
theorem dX5_numberFrom_27 : decode cX5_numberFrom 27 = .ok (.iload_n 2, 1) := by decide +kernel
theorem dX5_numberFrom_28 : decode cX5_numberFrom 28 = .ok (.iconst 5, 1) := by decide +kernel
theorem dX5_numberFrom_29 : decode cX5_numberFrom 29 = .ok (.imul, 1) := by decide +kernel
theorem dX5_numberFrom_30 : decode cX5_numberFrom 30 = .ok (.iconst 5, 1) := by decide +kernel
theorem dX5_numberFrom_31 : decode cX5_numberFrom 31 = .ok (.imul, 1) := by decide +kernel
theorem dX5_numberFrom_32 : decode cX5_numberFrom 32 = .ok (.istore_n 2, 1) := by decide +kernel
theorem dX5_numberFrom_33 : decode cX5_numberFrom 33 = .ok (.iload 4, 2) := by decide +kernel
theorem dX5_numberFrom_35 : decode cX5_numberFrom 35 = .ok (.aload_n 0, 1) := by decide +kernel
theorem dX5_numberFrom_36 : decode cX5_numberFrom 36 = .ok (.getfield 33, 3) := by decide +kernel
theorem dX5_numberFrom_39 : decode cX5_numberFrom 39 = .ok (.invokestatic 68, 3) := by decide +kernel
theorem dX5_numberFrom_42 : decode cX5_numberFrom 42 = .ok (.if_icmp .ge 66, 3) := by decide +kernel
theorem dX5_numberFrom_45 : decode cX5_numberFrom 45 = .ok (.aload_n 0, 1) := by decide +kernel
theorem dX5_numberFrom_46 : decode cX5_numberFrom 46 = .ok (.getfield 27, 3) := by decide +kernel
theorem dX5_numberFrom_49 : decode cX5_numberFrom 49 = .ok (.iload 4, 2) := by decide +kernel
theorem dX5_numberFrom_51 : decode cX5_numberFrom 51 = .ok (.invokestatic 54, 3) := by decide +kernel
theorem dX5_numberFrom_54 : decode cX5_numberFrom 54 = .ok (.istore 5, 2) := by decide +kernel
theorem dX5_numberFrom_56 : decode cX5_numberFrom 56 = .ok (.aload_n 0, 1) := by decide +kernel
theorem dX5_numberFrom_57 : decode cX5_numberFrom 57 = .ok (.aload_n 0, 1) := by decide +kernel
theorem dX5_numberFrom_58 : decode cX5_numberFrom 58 = .ok (.iload 5, 2) := by decide +kernel
theorem dX5_numberFrom_60 : decode cX5_numberFrom 60 = .ok (.invokevirtual 47, 3) := by decide +kernel
theorem dX5_numberFrom_63 : decode cX5_numberFrom 63 = .ok (.invokevirtual 95, 3) := by decide +kernel
theorem dX5_numberFrom_66 : decode cX5_numberFrom 66 = .ok (.aload_n 0, 1) := by decide +kernel
theorem dX5_numberFrom_67 : decode cX5_numberFrom 67 = .ok (.aload_n 0, 1) := by decide +kernel
theorem dX5_numberFrom_68 : decode cX5_numberFrom 68 = .ok (.iload 5, 2) := by decide +kernel
theorem dX5_numberFrom_70 : decode cX5_numberFrom 70 = .ok (.invokevirtual 51, 3) := by decide +kernel
theorem dX5_numberFrom_73 : decode cX5_numberFrom 73 = .ok (.invokevirtual 95, 3) := by decide +kernel
theorem dX5_numberFrom_76 : decode cX5_numberFrom 76 = .ok (.iload_n 2, 1) := by decide +kernel
theorem dX5_numberFrom_77 : decode cX5_numberFrom 77 = .ok (.iconst 5, 1) := by decide +kernel
theorem dX5_numberFrom_78 : decode cX5_numberFrom 78 = .ok (.aload_n 0, 1) := by decide +kernel
theorem dX5_numberFrom_79 : decode cX5_numberFrom 79 = .ok (.getfield 30, 3) := by decide +kernel
theorem dX5_numberFrom_82 : decode cX5_numberFrom 82 = .ok (.aload_n 0, 1) := by decide +kernel
theorem dX5_numberFrom_83 : decode cX5_numberFrom 83 = .ok (.iload 5, 2) := by decide +kernel
theorem dX5_numberFrom_85 : decode cX5_numberFrom 85 = .ok (.invokevirtual 47, 3) := by decide +kernel
theorem dX5_numberFrom_88 : decode cX5_numberFrom 88 = .ok (.invokestatic 54, 3) := by decide +kernel
theorem dX5_numberFrom_91 : decode cX5_numberFrom 91 = .ok (.imul, 1) := by decide +kernel
theorem dX5_numberFrom_92 : decode cX5_numberFrom 92 = .ok (.aload_n 0, 1) := by decide +kernel
theorem dX5_numberFrom_93 : decode cX5_numberFrom 93 = .ok (.getfield 30, 3) := by decide +kernel
theorem dX5_numberFrom_96 : decode cX5_numberFrom 96 = .ok (.aload_n 0, 1) := by decide +kernel
theorem dX5_numberFrom_97 : decode cX5_numberFrom 97 = .ok (.iload 5, 2) := by decide +kernel
theorem dX5_numberFrom_99 : decode cX5_numberFrom 99 = .ok (.invokevirtual 51, 3) := by decide +kernel
theorem dX5_numberFrom_102 : decode cX5_numberFrom 102 = .ok (.invokestatic 54, 3) := by decide +kernel
theorem dX5_numberFrom_105 : decode cX5_numberFrom 105 = .ok (.iadd, 1) := by decide +kernel
theorem dX5_numberFrom_106 : decode cX5_numberFrom 106 = .ok (.iadd, 1) := by decide +kernel
theorem dX5_numberFrom_107 : decode cX5_numberFrom 107 = .ok (.istore_n 2, 1) := by decide +kernel
theorem dX5_numberFrom_108 : decode cX5_numberFrom 108 = .ok (.iinc 4 1, 3) := by decide +kernel
theorem dX5_numberFrom_111 : decode cX5_numberFrom 111 = .ok (.goto (-93), 3) := by decide +kernel
theorem dX5_numberFrom_114 : decode cX5_numberFrom 114 = .ok (.iload_n 2, 1) := by decide +kernel
theorem dX5_numberFrom_115 : decode cX5_numberFrom 115 = .ok (.ireturn, 1) := by decide +kernel
set_option maxRecDepth 20000 in
theorem ggX5_numberNext_J6_bitCount_0f7a4 : GoodIn wsX5_numberNext wsJ6_bitCount_0f7a4 := goodIn_r _ [7, 8, 9, 10] (by decide +kernel) (by decide +kernel)
set_option maxRecDepth 20000 in
theorem gX5_numberNext_J6_bitCount_0f7a4 : GoodIn wsX5_numberNext (va_wsS RX5 68 yJ6_bitCount_0f7a4 wsJ6_bitCount_0f7a4) := goodIn_app (goodIn_of _ (by decide +kernel)) ggX5_numberNext_J6_bitCount_0f7a4
set_option maxRecDepth 20000 in
theorem ggX5_numberNext_X6_put : GoodIn wsX5_numberNext wsX6_put := goodIn_r _ [13] (by decide +kernel) (by decide +kernel)
set_option maxRecDepth 20000 in
theorem gX5_numberNext_X6_put_n40 : GoodIn wsX5_numberNext (wsX6_put) := ggX5_numberNext_X6_put
theorem dX5_numberNext_0 : decode cX5_numberNext 0 = .ok (.aload_n 0, 1) := by decide +kernel
theorem dX5_numberNext_1 : decode cX5_numberNext 1 = .ok (.getfield 33, 3) := by decide +kernel
theorem dX5_numberNext_4 : decode cX5_numberNext 4 = .ok (.iload_n 1, 1) := by decide +kernel
theorem dX5_numberNext_5 : decode cX5_numberNext 5 = .ok (.ishr, 1) := by decide +kernel
theorem dX5_numberNext_6 : decode cX5_numberNext 6 = .ok (.iconst 1, 1) := by decide +kernel
theorem dX5_numberNext_7 : decode cX5_numberNext 7 = .ok (.iand, 1) := by decide +kernel
theorem dX5_numberNext_8 : decode cX5_numberNext 8 = .ok (.ifCond .ne 41, 3) := by decide +kernel
theorem dX5_numberNext_11 : decode cX5_numberNext 11 = .ok (.aload_n 0, 1) := by decide +kernel
theorem dX5_numberNext_12 : decode cX5_numberNext 12 = .ok (.getfield 33, 3) := by decide +kernel
theorem dX5_numberNext_15 : decode cX5_numberNext 15 = .ok (.invokestatic 68, 3) := by decide +kernel
theorem dX5_numberNext_18 : decode cX5_numberNext 18 = .ok (.istore_n 2, 1) := by decide +kernel
theorem dX5_numberNext_19 : decode cX5_numberNext 19 = .ok (.aload_n 0, 1) := by decide +kernel
theorem dX5_numberNext_20 : decode cX5_numberNext 20 = .ok (.getfield 27, 3) := by decide +kernel
theorem dX5_numberNext_23 : decode cX5_numberNext 23 = .ok (.iload_n 2, 1) := by decide +kernel
theorem dX5_numberNext_24 : decode cX5_numberNext 24 = .ok (.iload_n 1, 1) := by decide +kernel
theorem dX5_numberNext_25 : decode cX5_numberNext 25 = .ok (.invokestatic 40, 3) := by decide +kernel
theorem dX5_numberNext_28 : decode cX5_numberNext 28 = .ok (.aload_n 0, 1) := by decide +kernel
theorem dX5_numberNext_29 : decode cX5_numberNext 29 = .ok (.getfield 30, 3) := by decide +kernel
theorem dX5_numberNext_32 : decode cX5_numberNext 32 = .ok (.iload_n 1, 1) := by decide +kernel
theorem dX5_numberNext_33 : decode cX5_numberNext 33 = .ok (.iload_n 2, 1) := by decide +kernel
theorem dX5_numberNext_34 : decode cX5_numberNext 34 = .ok (.invokestatic 40, 3) := by decide +kernel
theorem dX5_numberNext_37 : decode cX5_numberNext 37 = .ok (.aload_n 0, 1) := by decide +kernel
theorem dX5_numberNext_38 : decode cX5_numberNext 38 = .ok (.dup, 1) := by decide +kernel
theorem dX5_numberNext_39 : decode cX5_numberNext 39 = .ok (.getfield 33, 3) := by decide +kernel
theorem dX5_numberNext_42 : decode cX5_numberNext 42 = .ok (.iconst 1, 1) := by decide +kernel
theorem dX5_numberNext_43 : decode cX5_numberNext 43 = .ok (.iload_n 1, 1) := by decide +kernel
theorem dX5_numberNext_44 : decode cX5_numberNext 44 = .ok (.ishl, 1) := by decide +kernel
theorem dX5_numberNext_45 : decode cX5_numberNext 45 = .ok (.ior, 1) := by decide +kernel
theorem dX5_numberNext_46 : decode cX5_numberNext 46 = .ok (.putfield 33, 3) := by decide +kernel
theorem dX5_numberNext_49 : decode cX5_numberNext 49 = .ok (.return_, 1) := by decide +kernel
set_option maxRecDepth 20000 in
theorem ggX6_init_X4_init : GoodIn wsX6_init wsX4_init := goodIn_r _ [25, 26, 2, 3, 27, 28, 29, 30, 31, 32, 33, 34, 35, 36, 97, 71, 72] (by decide +kernel) (by decide +kernel)
set_option maxRecDepth 20000 in
theorem gX6_init_X4_init_n9 : GoodIn wsX6_init (wsX4_init) := ggX6_init_X4_init
set_option maxRecDepth 20000 in
theorem ggX6_init_X2_init : GoodIn wsX6_init wsX2_init := goodIn_r _ [38, 39, 2, 3, 40, 41, 42, 78, 79] (by decide +kernel) (by decide +kernel)
set_option maxRecDepth 20000 in
theorem gX6_init_X2_init_n18 : GoodIn wsX6_init (wsX2_init) := ggX6_init_X2_init
set_option maxRecDepth 20000 in
theorem ggX6_init_X5_init : GoodIn wsX6_init wsX5_init := goodIn_r _ [44, 45, 2, 3, 40, 46, 47, 48, 49, 50, 51, 52, 53, 54, 80, 81, 82, 83, 84, 85, 86, 87, 88] (by decide +kernel) (by decide +kernel)
set_option maxRecDepth 20000 in
theorem gX6_init_X5_init_n25 : GoodIn wsX6_init (wsX5_init) := ggX6_init_X5_init
set_option maxRecDepth 20000 in
theorem ggX6_init_X1_init : GoodIn wsX6_init wsX1_init := goodIn_r _ [56, 57, 2, 3, 58, 13, 14, 59, 40, 60, 61, 43, 44, 45, 46, 47, 48, 49, 50, 51, 52, 53, 54, 80, 81, 82, 83, 84, 85, 86, 87, 88, 89, 90, 91] (by decide +kernel) (by decide +kernel)
set_option maxRecDepth 20000 in
theorem gX6_init_X1_init_n32 : GoodIn wsX6_init (wsX1_init) := ggX6_init_X1_init
set_option maxRecDepth 20000 in
theorem ggX6_init_X0_init : GoodIn wsX6_init wsX0_init := goodIn_r _ [63, 64, 2, 3, 40, 65, 66, 67, 68, 28, 29, 69, 70, 32, 33, 34, 35, 36, 92, 93, 94, 95, 96, 97] (by decide +kernel) (by decide +kernel)
set_option maxRecDepth 20000 in
theorem gX6_init_X0_init_n39 : GoodIn wsX6_init (wsX0_init) := ggX6_init_X0_init
theorem dX6_init_0 : decode cX6_init 0 = .ok (.aload_n 0, 1) := by decide +kernel
theorem dX6_init_1 : decode cX6_init 1 = .ok (.invokespecial 1, 3) := by decide +kernel
theorem dX6_init_4 : decode cX6_init 4 = .ok (.aload_n 0, 1) := by decide +kernel
theorem dX6_init_5 : decode cX6_init 5 = .ok (.new 7, 3) := by decide +kernel
theorem dX6_init_8 : decode cX6_init 8 = .ok (.dup, 1) := by decide +kernel
theorem dX6_init_9 : decode cX6_init 9 = .ok (.invokespecial 9, 3) := by decide +kernel
theorem dX6_init_12 : decode cX6_init 12 = .ok (.putfield 10, 3) := by decide +kernel
theorem dX6_init_15 : decode cX6_init 15 = .ok (.aload_n 0, 1) := by decide +kernel
theorem dX6_init_16 : decode cX6_init 16 = .ok (.new 16, 3) := by decide +kernel
theorem dX6_init_19 : decode cX6_init 19 = .ok (.dup, 1) := by decide +kernel
theorem dX6_init_20 : decode cX6_init 20 = .ok (.invokespecial 18, 3) := by decide +kernel
theorem dX6_init_23 : decode cX6_init 23 = .ok (.putfield 19, 3) := by decide +kernel
theorem dX6_init_26 : decode cX6_init 26 = .ok (.aload_n 0, 1) := by decide +kernel
theorem dX6_init_27 : decode cX6_init 27 = .ok (.new 23, 3) := by decide +kernel
theorem dX6_init_30 : decode cX6_init 30 = .ok (.dup, 1) := by decide +kernel
theorem dX6_init_31 : decode cX6_init 31 = .ok (.invokespecial 25, 3) := by decide +kernel
theorem dX6_init_34 : decode cX6_init 34 = .ok (.putfield 26, 3) := by decide +kernel
theorem dX6_init_37 : decode cX6_init 37 = .ok (.aload_n 0, 1) := by decide +kernel
theorem dX6_init_38 : decode cX6_init 38 = .ok (.new 30, 3) := by decide +kernel
theorem dX6_init_41 : decode cX6_init 41 = .ok (.dup, 1) := by decide +kernel
theorem dX6_init_42 : decode cX6_init 42 = .ok (.invokespecial 32, 3) := by decide +kernel
theorem dX6_init_45 : decode cX6_init 45 = .ok (.putfield 33, 3) := by decide +kernel
theorem dX6_init_48 : decode cX6_init 48 = .ok (.aload_n 0, 1) := by decide +kernel
theorem dX6_init_49 : decode cX6_init 49 = .ok (.new 37, 3) := by decide +kernel
theorem dX6_init_52 : decode cX6_init 52 = .ok (.dup, 1) := by decide +kernel
theorem dX6_init_53 : decode cX6_init 53 = .ok (.invokespecial 39, 3) := by decide +kernel
theorem dX6_init_56 : decode cX6_init 56 = .ok (.putfield 40, 3) := by decide +kernel
theorem dX6_init_59 : decode cX6_init 59 = .ok (.return_, 1) := by decide +kernel
set_option maxRecDepth 20000 in
theorem ggX6_block_X6_checkCell : GoodIn wsX6_block wsX6_checkCell := goodIn_ca (goodIn_r _ [5, 6, 7, 8, 9, 4, 10] (by decide +kernel) (by decide +kernel)) (goodIn_sub (fun _ h => List.mem_cons_of_mem _ (List.mem_append_right _ h)) (by decide +kernel))
set_option maxRecDepth 20000 in
theorem gX6_block_X6_checkCell : GoodIn wsX6_block (va_wsS RX6 44 yX6_checkCell wsX6_checkCell) := goodIn_app (goodIn_of _ (by decide +kernel)) ggX6_block_X6_checkCell
set_option maxRecDepth 20000 in
theorem ggX6_block_X4_isBlock : GoodIn wsX6_block wsX4_isBlock := goodIn_r _ [15, 16, 9, 4, 10, 27, 28] (by decide +kernel) (by decide +kernel)
set_option maxRecDepth 20000 in
theorem gX6_block_X4_isBlock : GoodIn wsX6_block (wsV RX6 48 RX4 yX4_isBlock wsX4_isBlock) := goodIn_app (goodIn_of _ (by decide +kernel)) ggX6_block_X4_isBlock
set_option maxRecDepth 20000 in
theorem ggX6_block_X4_lay : GoodIn wsX6_block wsX4_lay := goodIn_r _ [20, 16, 21, 27, 28] (by decide +kernel) (by decide +kernel)
set_option maxRecDepth 20000 in
theorem gX6_block_X4_lay : GoodIn wsX6_block (wsV RX6 52 RX4 yX4_lay wsX4_lay) := goodIn_app (goodIn_of _ (by decide +kernel)) ggX6_block_X4_lay
theorem dX6_block_0 : decode cX6_block 0 = .ok (.iload_n 1, 1) := by decide +kernel
theorem dX6_block_1 : decode cX6_block 1 = .ok (.iload_n 2, 1) := by decide +kernel
theorem dX6_block_2 : decode cX6_block 2 = .ok (.invokestatic 44, 3) := by decide +kernel
theorem dX6_block_5 : decode cX6_block 5 = .ok (.aload_n 0, 1) := by decide +kernel
theorem dX6_block_6 : decode cX6_block 6 = .ok (.getfield 10, 3) := by decide +kernel
theorem dX6_block_9 : decode cX6_block 9 = .ok (.iload_n 1, 1) := by decide +kernel
theorem dX6_block_10 : decode cX6_block 10 = .ok (.iload_n 2, 1) := by decide +kernel
theorem dX6_block_11 : decode cX6_block 11 = .ok (.invokevirtual 48, 3) := by decide +kernel
theorem dX6_block_14 : decode cX6_block 14 = .ok (.istore 4, 2) := by decide +kernel
theorem dX6_block_16 : decode cX6_block 16 = .ok (.aload_n 0, 1) := by decide +kernel
theorem dX6_block_17 : decode cX6_block 17 = .ok (.getfield 10, 3) := by decide +kernel
theorem dX6_block_20 : decode cX6_block 20 = .ok (.iload_n 1, 1) := by decide +kernel
theorem dX6_block_21 : decode cX6_block 21 = .ok (.iload_n 2, 1) := by decide +kernel
theorem dX6_block_22 : decode cX6_block 22 = .ok (.iload_n 3, 1) := by decide +kernel
theorem dX6_block_23 : decode cX6_block 23 = .ok (.invokevirtual 52, 3) := by decide +kernel
theorem dX6_block_26 : decode cX6_block 26 = .ok (.iload 4, 2) := by decide +kernel
theorem dX6_block_28 : decode cX6_block 28 = .ok (.ireturn, 1) := by decide +kernel
set_option maxRecDepth 20000 in
theorem ggX6_period_X6_checkShot : GoodIn wsX6_period wsX6_checkShot := goodIn_ca (goodIn_ca (goodIn_ca (goodIn_r _ [6, 7, 8, 1, 9, 10, 5, 11, 12, 13, 14, 15, 16, 17, 18, 19, 20, 21, 22, 23, 24, 25, 26, 27, 75, 76, 77, 78, 79, 80, 81] (by decide +kernel) (by decide +kernel)) (goodIn_sub (fun _ h => List.mem_cons_of_mem _ (List.mem_append_left _ (List.mem_append_left _ (List.mem_append_right _ h)))) (by decide +kernel))) (goodIn_sub (fun _ h => List.mem_cons_of_mem _ (List.mem_append_left _ (List.mem_append_right _ h))) (by decide +kernel))) (goodIn_sub (fun _ h => List.mem_cons_of_mem _ (List.mem_append_right _ h)) (by decide +kernel))
set_option maxRecDepth 20000 in
theorem gX6_period_X6_checkShot : GoodIn wsX6_period (wsV RX6 56 RX6 yX6_checkShot wsX6_checkShot) := goodIn_app (goodIn_of _ (by decide +kernel)) ggX6_period_X6_checkShot
set_option maxRecDepth 20000 in
theorem ggX6_period_X4_stateOf : GoodIn wsX6_period wsX4_stateOf := goodIn_r _ [30] (by decide +kernel) (by decide +kernel)
set_option maxRecDepth 20000 in
theorem gX6_period_X4_stateOf : GoodIn wsX6_period (va_wsS RX6 60 yX4_stateOf wsX4_stateOf) := goodIn_app (goodIn_of _ (by decide +kernel)) ggX6_period_X4_stateOf
set_option maxRecDepth 20000 in
theorem ggX6_period_X4_stepsRound : GoodIn wsX6_period wsX4_stepsRound := goodIn_r _ [34, 35, 36, 37, 25, 38, 39, 40, 41, 42, 43, 44, 45, 46, 47, 48, 49, 50, 51, 52, 53, 54, 55, 56, 57, 58, 59, 60, 61, 62, 63, 64, 65, 66, 67, 68, 69, 70, 23, 24, 26, 27, 15, 5, 16, 71, 29, 30, 72, 73, 74, 80, 81] (by decide +kernel) (by decide +kernel)
set_option maxRecDepth 20000 in
theorem gX6_period_X4_stepsRound : GoodIn wsX6_period (wsV RX6 64 RX4 yX4_stepsRound wsX4_stepsRound) := goodIn_app (goodIn_of _ (by decide +kernel)) ggX6_period_X4_stepsRound
theorem dX6_period_0 : decode cX6_period 0 = .ok (.aload_n 0, 1) := by decide +kernel
theorem dX6_period_1 : decode cX6_period 1 = .ok (.iload_n 1, 1) := by decide +kernel
theorem dX6_period_2 : decode cX6_period 2 = .ok (.iload_n 2, 1) := by decide +kernel
theorem dX6_period_3 : decode cX6_period 3 = .ok (.iload_n 3, 1) := by decide +kernel
theorem dX6_period_4 : decode cX6_period 4 = .ok (.iconst 0, 1) := by decide +kernel
theorem dX6_period_5 : decode cX6_period 5 = .ok (.iconst 0, 1) := by decide +kernel
theorem dX6_period_6 : decode cX6_period 6 = .ok (.invokevirtual 56, 3) := by decide +kernel
theorem dX6_period_9 : decode cX6_period 9 = .ok (.aload_n 0, 1) := by decide +kernel
theorem dX6_period_10 : decode cX6_period 10 = .ok (.getfield 10, 3) := by decide +kernel
theorem dX6_period_13 : decode cX6_period 13 = .ok (.iload_n 1, 1) := by decide +kernel
theorem dX6_period_14 : decode cX6_period 14 = .ok (.iload_n 2, 1) := by decide +kernel
theorem dX6_period_15 : decode cX6_period 15 = .ok (.iload_n 3, 1) := by decide +kernel
theorem dX6_period_16 : decode cX6_period 16 = .ok (.iload 4, 2) := by decide +kernel
theorem dX6_period_18 : decode cX6_period 18 = .ok (.invokestatic 60, 3) := by decide +kernel
theorem dX6_period_21 : decode cX6_period 21 = .ok (.invokevirtual 64, 3) := by decide +kernel
theorem dX6_period_24 : decode cX6_period 24 = .ok (.ireturn, 1) := by decide +kernel
set_option maxRecDepth 20000 in
theorem ggX6_periodAnew_X6_checkShot : GoodIn wsX6_periodAnew wsX6_checkShot := goodIn_ca (goodIn_ca (goodIn_ca (goodIn_r _ [6, 7, 8, 1, 9, 10, 5, 11, 12, 13, 14, 15, 16, 17, 18, 19, 20, 21, 22, 23, 24, 25, 26, 27, 72, 73, 74, 75, 76, 77, 78] (by decide +kernel) (by decide +kernel)) (goodIn_sub (fun _ h => List.mem_cons_of_mem _ (List.mem_append_left _ (List.mem_append_left _ (List.mem_append_right _ h)))) (by decide +kernel))) (goodIn_sub (fun _ h => List.mem_cons_of_mem _ (List.mem_append_left _ (List.mem_append_right _ h))) (by decide +kernel))) (goodIn_sub (fun _ h => List.mem_cons_of_mem _ (List.mem_append_right _ h)) (by decide +kernel))
set_option maxRecDepth 20000 in
theorem gX6_periodAnew_X6_checkShot : GoodIn wsX6_periodAnew (wsV RX6 56 RX6 yX6_checkShot wsX6_checkShot) := goodIn_app (goodIn_of _ (by decide +kernel)) ggX6_periodAnew_X6_checkShot
set_option maxRecDepth 20000 in
theorem ggX6_periodAnew_X4_stateOf : GoodIn wsX6_periodAnew wsX4_stateOf := goodIn_r _ [30] (by decide +kernel) (by decide +kernel)
set_option maxRecDepth 20000 in
theorem gX6_periodAnew_X4_stateOf : GoodIn wsX6_periodAnew (va_wsS RX6 60 yX4_stateOf wsX4_stateOf) := goodIn_app (goodIn_of _ (by decide +kernel)) ggX6_periodAnew_X4_stateOf
set_option maxRecDepth 20000 in
theorem ggX6_periodAnew_X4_stepsRoundBackwards : GoodIn wsX6_periodAnew wsX4_stepsRoundBackwards := goodIn_r _ [34, 35, 36, 37, 25, 38, 39, 40, 41, 42, 43, 44, 45, 46, 47, 48, 49, 50, 51, 52, 53, 54, 55, 56, 57, 58, 59, 60, 61, 62, 63, 64, 65, 66, 67, 23, 24, 26, 27, 15, 5, 16, 68, 69, 70, 71, 29, 30, 77, 78] (by decide +kernel) (by decide +kernel)
set_option maxRecDepth 20000 in
theorem gX6_periodAnew_X4_stepsRoundBackwards : GoodIn wsX6_periodAnew (wsV RX6 68 RX4 yX4_stepsRoundBackwards wsX4_stepsRoundBackwards) := goodIn_app (goodIn_of _ (by decide +kernel)) ggX6_periodAnew_X4_stepsRoundBackwards
theorem dX6_periodAnew_0 : decode cX6_periodAnew 0 = .ok (.aload_n 0, 1) := by decide +kernel
theorem dX6_periodAnew_1 : decode cX6_periodAnew 1 = .ok (.iload_n 1, 1) := by decide +kernel
theorem dX6_periodAnew_2 : decode cX6_periodAnew 2 = .ok (.iload_n 2, 1) := by decide +kernel
theorem dX6_periodAnew_3 : decode cX6_periodAnew 3 = .ok (.iload_n 3, 1) := by decide +kernel
theorem dX6_periodAnew_4 : decode cX6_periodAnew 4 = .ok (.iconst 0, 1) := by decide +kernel
theorem dX6_periodAnew_5 : decode cX6_periodAnew 5 = .ok (.iconst 0, 1) := by decide +kernel
theorem dX6_periodAnew_6 : decode cX6_periodAnew 6 = .ok (.invokevirtual 56, 3) := by decide +kernel
theorem dX6_periodAnew_9 : decode cX6_periodAnew 9 = .ok (.aload_n 0, 1) := by decide +kernel
theorem dX6_periodAnew_10 : decode cX6_periodAnew 10 = .ok (.getfield 10, 3) := by decide +kernel
theorem dX6_periodAnew_13 : decode cX6_periodAnew 13 = .ok (.iload_n 1, 1) := by decide +kernel
theorem dX6_periodAnew_14 : decode cX6_periodAnew 14 = .ok (.iload_n 2, 1) := by decide +kernel
theorem dX6_periodAnew_15 : decode cX6_periodAnew 15 = .ok (.iload_n 3, 1) := by decide +kernel
theorem dX6_periodAnew_16 : decode cX6_periodAnew 16 = .ok (.iload 4, 2) := by decide +kernel
theorem dX6_periodAnew_18 : decode cX6_periodAnew 18 = .ok (.invokestatic 60, 3) := by decide +kernel
theorem dX6_periodAnew_21 : decode cX6_periodAnew 21 = .ok (.invokevirtual 68, 3) := by decide +kernel
theorem dX6_periodAnew_24 : decode cX6_periodAnew 24 = .ok (.ireturn, 1) := by decide +kernel
set_option maxRecDepth 20000 in
theorem ggX6_bounces_X6_checkShot : GoodIn wsX6_bounces wsX6_checkShot := goodIn_ca (goodIn_ca (goodIn_ca (goodIn_r _ [6, 7, 8, 1, 9, 10, 5, 11, 12, 13, 14, 15, 16, 17, 18, 19, 20, 21, 22, 23, 24, 25, 26, 27, 79, 80, 81, 82, 83, 84, 85] (by decide +kernel) (by decide +kernel)) (goodIn_sub (fun _ h => List.mem_cons_of_mem _ (List.mem_append_left _ (List.mem_append_left _ (List.mem_append_right _ h)))) (by decide +kernel))) (goodIn_sub (fun _ h => List.mem_cons_of_mem _ (List.mem_append_left _ (List.mem_append_right _ h))) (by decide +kernel))) (goodIn_sub (fun _ h => List.mem_cons_of_mem _ (List.mem_append_right _ h)) (by decide +kernel))
set_option maxRecDepth 20000 in
theorem gX6_bounces_X6_checkShot : GoodIn wsX6_bounces (wsV RX6 56 RX6 yX6_checkShot wsX6_checkShot) := goodIn_app (goodIn_of _ (by decide +kernel)) ggX6_bounces_X6_checkShot
set_option maxRecDepth 20000 in
theorem ggX6_bounces_X4_stateOf : GoodIn wsX6_bounces wsX4_stateOf := goodIn_r _ [30] (by decide +kernel) (by decide +kernel)
set_option maxRecDepth 20000 in
theorem gX6_bounces_X4_stateOf : GoodIn wsX6_bounces (va_wsS RX6 60 yX4_stateOf wsX4_stateOf) := goodIn_app (goodIn_of _ (by decide +kernel)) ggX6_bounces_X4_stateOf
set_option maxRecDepth 20000 in
theorem ggX6_bounces_X4_bouncesRound : GoodIn wsX6_bounces wsX4_bouncesRound := goodIn_r _ [34, 35, 36, 37, 25, 38, 39, 40, 41, 42, 43, 44, 45, 46, 47, 48, 49, 50, 51, 52, 53, 54, 55, 56, 57, 58, 59, 60, 61, 62, 63, 64, 65, 66, 67, 23, 24, 26, 27, 15, 5, 16, 68, 69, 70, 71, 72, 73, 74, 75, 29, 30, 76, 77, 78, 84, 85] (by decide +kernel) (by decide +kernel)
set_option maxRecDepth 20000 in
theorem gX6_bounces_X4_bouncesRound : GoodIn wsX6_bounces (wsV RX6 71 RX4 yX4_bouncesRound wsX4_bouncesRound) := goodIn_app (goodIn_of _ (by decide +kernel)) ggX6_bounces_X4_bouncesRound
theorem dX6_bounces_0 : decode cX6_bounces 0 = .ok (.aload_n 0, 1) := by decide +kernel
theorem dX6_bounces_1 : decode cX6_bounces 1 = .ok (.iload_n 1, 1) := by decide +kernel
theorem dX6_bounces_2 : decode cX6_bounces 2 = .ok (.iload_n 2, 1) := by decide +kernel
theorem dX6_bounces_3 : decode cX6_bounces 3 = .ok (.iload_n 3, 1) := by decide +kernel
theorem dX6_bounces_4 : decode cX6_bounces 4 = .ok (.iconst 0, 1) := by decide +kernel
theorem dX6_bounces_5 : decode cX6_bounces 5 = .ok (.iconst 0, 1) := by decide +kernel
theorem dX6_bounces_6 : decode cX6_bounces 6 = .ok (.invokevirtual 56, 3) := by decide +kernel
theorem dX6_bounces_9 : decode cX6_bounces 9 = .ok (.aload_n 0, 1) := by decide +kernel
theorem dX6_bounces_10 : decode cX6_bounces 10 = .ok (.getfield 10, 3) := by decide +kernel
theorem dX6_bounces_13 : decode cX6_bounces 13 = .ok (.iload_n 1, 1) := by decide +kernel
theorem dX6_bounces_14 : decode cX6_bounces 14 = .ok (.iload_n 2, 1) := by decide +kernel
theorem dX6_bounces_15 : decode cX6_bounces 15 = .ok (.iload_n 3, 1) := by decide +kernel
theorem dX6_bounces_16 : decode cX6_bounces 16 = .ok (.iload 4, 2) := by decide +kernel
theorem dX6_bounces_18 : decode cX6_bounces 18 = .ok (.invokestatic 60, 3) := by decide +kernel
theorem dX6_bounces_21 : decode cX6_bounces 21 = .ok (.invokevirtual 71, 3) := by decide +kernel
theorem dX6_bounces_24 : decode cX6_bounces 24 = .ok (.ireturn, 1) := by decide +kernel
set_option maxRecDepth 20000 in
theorem ggX6_touched_X6_checkShot : GoodIn wsX6_touched wsX6_checkShot := goodIn_ca (goodIn_ca (goodIn_ca (goodIn_r _ [6, 7, 8, 1, 9, 10, 5, 11, 12, 13, 14, 15, 16, 17, 18, 19, 20, 21, 22, 23, 24, 25, 26, 27, 82, 83, 84, 85, 86, 87, 88] (by decide +kernel) (by decide +kernel)) (goodIn_sub (fun _ h => List.mem_cons_of_mem _ (List.mem_append_left _ (List.mem_append_left _ (List.mem_append_right _ h)))) (by decide +kernel))) (goodIn_sub (fun _ h => List.mem_cons_of_mem _ (List.mem_append_left _ (List.mem_append_right _ h))) (by decide +kernel))) (goodIn_sub (fun _ h => List.mem_cons_of_mem _ (List.mem_append_right _ h)) (by decide +kernel))
set_option maxRecDepth 20000 in
theorem gX6_touched_X6_checkShot : GoodIn wsX6_touched (wsV RX6 56 RX6 yX6_checkShot wsX6_checkShot) := goodIn_app (goodIn_of _ (by decide +kernel)) ggX6_touched_X6_checkShot
set_option maxRecDepth 20000 in
theorem ggX6_touched_X4_stateOf : GoodIn wsX6_touched wsX4_stateOf := goodIn_r _ [30] (by decide +kernel) (by decide +kernel)
set_option maxRecDepth 20000 in
theorem gX6_touched_X4_stateOf : GoodIn wsX6_touched (va_wsS RX6 60 yX4_stateOf wsX4_stateOf) := goodIn_app (goodIn_of _ (by decide +kernel)) ggX6_touched_X4_stateOf
set_option maxRecDepth 20000 in
theorem ggX6_touched_X4_cellsRound : GoodIn wsX6_touched wsX4_cellsRound := goodIn_r _ [34, 35, 36, 25, 37, 38, 39, 40, 41, 42, 43, 44, 45, 46, 47, 48, 49, 50, 51, 52, 53, 54, 55, 56, 57, 58, 59, 60, 61, 62, 63, 64, 65, 66, 67, 68, 69, 70, 23, 24, 26, 27, 15, 5, 16, 71, 29, 30, 72, 73, 74, 75, 76, 77, 78, 79, 80, 81, 87, 88] (by decide +kernel) (by decide +kernel)
set_option maxRecDepth 20000 in
theorem gX6_touched_X4_cellsRound : GoodIn wsX6_touched (wsV RX6 74 RX4 yX4_cellsRound wsX4_cellsRound) := goodIn_app (goodIn_of _ (by decide +kernel)) ggX6_touched_X4_cellsRound
theorem dX6_touched_0 : decode cX6_touched 0 = .ok (.aload_n 0, 1) := by decide +kernel
theorem dX6_touched_1 : decode cX6_touched 1 = .ok (.iload_n 1, 1) := by decide +kernel
theorem dX6_touched_2 : decode cX6_touched 2 = .ok (.iload_n 2, 1) := by decide +kernel
theorem dX6_touched_3 : decode cX6_touched 3 = .ok (.iload_n 3, 1) := by decide +kernel
theorem dX6_touched_4 : decode cX6_touched 4 = .ok (.iconst 0, 1) := by decide +kernel
theorem dX6_touched_5 : decode cX6_touched 5 = .ok (.iconst 0, 1) := by decide +kernel
theorem dX6_touched_6 : decode cX6_touched 6 = .ok (.invokevirtual 56, 3) := by decide +kernel
theorem dX6_touched_9 : decode cX6_touched 9 = .ok (.aload_n 0, 1) := by decide +kernel
theorem dX6_touched_10 : decode cX6_touched 10 = .ok (.getfield 10, 3) := by decide +kernel
theorem dX6_touched_13 : decode cX6_touched 13 = .ok (.iload_n 1, 1) := by decide +kernel
theorem dX6_touched_14 : decode cX6_touched 14 = .ok (.iload_n 2, 1) := by decide +kernel
theorem dX6_touched_15 : decode cX6_touched 15 = .ok (.iload_n 3, 1) := by decide +kernel
theorem dX6_touched_16 : decode cX6_touched 16 = .ok (.iload 4, 2) := by decide +kernel
theorem dX6_touched_18 : decode cX6_touched 18 = .ok (.invokestatic 60, 3) := by decide +kernel
theorem dX6_touched_21 : decode cX6_touched 21 = .ok (.invokevirtual 74, 3) := by decide +kernel
theorem dX6_touched_24 : decode cX6_touched 24 = .ok (.ireturn, 1) := by decide +kernel
set_option maxRecDepth 20000 in
theorem ggX6_bounce_X6_checkShot : GoodIn wsX6_bounce wsX6_checkShot := goodIn_ca (goodIn_ca (goodIn_ca (goodIn_r _ [7, 8, 9, 2, 10, 11, 6, 12, 13, 14, 15, 16, 17, 18, 19, 20, 21, 22, 23, 24, 25, 26, 27, 28, 84, 85, 86, 87, 88, 89, 90] (by decide +kernel) (by decide +kernel)) (goodIn_sub (fun _ h => List.mem_cons_of_mem _ (List.mem_append_left _ (List.mem_append_left _ (List.mem_append_right _ h)))) (by decide +kernel))) (goodIn_sub (fun _ h => List.mem_cons_of_mem _ (List.mem_append_left _ (List.mem_append_right _ h))) (by decide +kernel))) (goodIn_sub (fun _ h => List.mem_cons_of_mem _ (List.mem_append_right _ h)) (by decide +kernel))
set_option maxRecDepth 20000 in
theorem gX6_bounce_X6_checkShot : GoodIn wsX6_bounce (wsV RX6 56 RX6 yX6_checkShot wsX6_checkShot) := goodIn_app (goodIn_of _ (by decide +kernel)) ggX6_bounce_X6_checkShot
set_option maxRecDepth 20000 in
theorem ggX6_bounce_X4_stateOf : GoodIn wsX6_bounce wsX4_stateOf := goodIn_r _ [31] (by decide +kernel) (by decide +kernel)
set_option maxRecDepth 20000 in
theorem gX6_bounce_X4_stateOf : GoodIn wsX6_bounce (va_wsS RX6 60 yX4_stateOf wsX4_stateOf) := goodIn_app (goodIn_of _ (by decide +kernel)) ggX6_bounce_X4_stateOf
set_option maxRecDepth 20000 in
theorem ggX6_bounce_X4_sideOfBounce : GoodIn wsX6_bounce wsX4_sideOfBounce := goodIn_r _ [35, 36, 37, 38, 26, 39, 40, 41, 42, 43, 44, 45, 46, 47, 48, 49, 50, 51, 52, 53, 54, 55, 56, 57, 58, 59, 60, 61, 62, 63, 64, 65, 66, 67, 68, 69, 70, 71, 72, 24, 25, 27, 28, 16, 6, 17, 73, 74, 75, 76, 77, 78, 79, 80, 30, 31, 81, 82, 83, 89, 90] (by decide +kernel) (by decide +kernel)
set_option maxRecDepth 20000 in
theorem gX6_bounce_X4_sideOfBounce : GoodIn wsX6_bounce (wsV RX6 78 RX4 yX4_sideOfBounce wsX4_sideOfBounce) := goodIn_app (goodIn_of _ (by decide +kernel)) ggX6_bounce_X4_sideOfBounce
theorem dX6_bounce_0 : decode cX6_bounce 0 = .ok (.aload_n 0, 1) := by decide +kernel
theorem dX6_bounce_1 : decode cX6_bounce 1 = .ok (.iload_n 1, 1) := by decide +kernel
theorem dX6_bounce_2 : decode cX6_bounce 2 = .ok (.iload_n 2, 1) := by decide +kernel
theorem dX6_bounce_3 : decode cX6_bounce 3 = .ok (.iload_n 3, 1) := by decide +kernel
theorem dX6_bounce_4 : decode cX6_bounce 4 = .ok (.iload 5, 2) := by decide +kernel
theorem dX6_bounce_6 : decode cX6_bounce 6 = .ok (.ldc 77, 2) := by decide +kernel
theorem dX6_bounce_8 : decode cX6_bounce 8 = .ok (.invokevirtual 56, 3) := by decide +kernel
theorem dX6_bounce_11 : decode cX6_bounce 11 = .ok (.aload_n 0, 1) := by decide +kernel
theorem dX6_bounce_12 : decode cX6_bounce 12 = .ok (.getfield 10, 3) := by decide +kernel
theorem dX6_bounce_15 : decode cX6_bounce 15 = .ok (.iload_n 1, 1) := by decide +kernel
theorem dX6_bounce_16 : decode cX6_bounce 16 = .ok (.iload_n 2, 1) := by decide +kernel
theorem dX6_bounce_17 : decode cX6_bounce 17 = .ok (.iload_n 3, 1) := by decide +kernel
theorem dX6_bounce_18 : decode cX6_bounce 18 = .ok (.iload 4, 2) := by decide +kernel
theorem dX6_bounce_20 : decode cX6_bounce 20 = .ok (.invokestatic 60, 3) := by decide +kernel
theorem dX6_bounce_23 : decode cX6_bounce 23 = .ok (.iload 5, 2) := by decide +kernel
theorem dX6_bounce_25 : decode cX6_bounce 25 = .ok (.invokevirtual 78, 3) := by decide +kernel
theorem dX6_bounce_28 : decode cX6_bounce 28 = .ok (.ireturn, 1) := by decide +kernel
set_option maxRecDepth 20000 in
theorem ggX6_state_X6_checkShot : GoodIn wsX6_state wsX6_checkShot := goodIn_ca (goodIn_ca (goodIn_ca (goodIn_r _ [7, 8, 9, 2, 10, 11, 6, 12, 13, 14, 15, 16, 17, 18, 19, 20, 21, 22, 23, 24, 25, 26, 27, 28, 80, 81, 82, 83, 84, 85, 86] (by decide +kernel) (by decide +kernel)) (goodIn_sub (fun _ h => List.mem_cons_of_mem _ (List.mem_append_left _ (List.mem_append_left _ (List.mem_append_right _ h)))) (by decide +kernel))) (goodIn_sub (fun _ h => List.mem_cons_of_mem _ (List.mem_append_left _ (List.mem_append_right _ h))) (by decide +kernel))) (goodIn_sub (fun _ h => List.mem_cons_of_mem _ (List.mem_append_right _ h)) (by decide +kernel))
set_option maxRecDepth 20000 in
theorem gX6_state_X6_checkShot : GoodIn wsX6_state (wsV RX6 56 RX6 yX6_checkShot wsX6_checkShot) := goodIn_app (goodIn_of _ (by decide +kernel)) ggX6_state_X6_checkShot
set_option maxRecDepth 20000 in
theorem ggX6_state_X4_stateOf : GoodIn wsX6_state wsX4_stateOf := goodIn_r _ [31] (by decide +kernel) (by decide +kernel)
set_option maxRecDepth 20000 in
theorem gX6_state_X4_stateOf : GoodIn wsX6_state (va_wsS RX6 60 yX4_stateOf wsX4_stateOf) := goodIn_app (goodIn_of _ (by decide +kernel)) ggX6_state_X4_stateOf
set_option maxRecDepth 20000 in
theorem ggX6_state_X4_stateBehind : GoodIn wsX6_state wsX4_stateBehind := goodIn_r _ [35, 36, 37, 38, 26, 39, 40, 41, 42, 43, 44, 45, 46, 47, 48, 49, 50, 51, 52, 53, 54, 55, 56, 57, 58, 59, 60, 61, 62, 63, 64, 65, 66, 67, 68, 69, 70, 71, 72, 73, 74, 75, 24, 25, 27, 28, 16, 6, 17, 76, 30, 31, 77, 78, 79, 85, 86] (by decide +kernel) (by decide +kernel)
set_option maxRecDepth 20000 in
theorem gX6_state_X4_stateBehind : GoodIn wsX6_state (wsV RX6 83 RX4 yX4_stateBehind wsX4_stateBehind) := goodIn_app (goodIn_of _ (by decide +kernel)) ggX6_state_X4_stateBehind
theorem dX6_state_0 : decode cX6_state 0 = .ok (.aload_n 0, 1) := by decide +kernel
theorem dX6_state_1 : decode cX6_state 1 = .ok (.iload_n 1, 1) := by decide +kernel
theorem dX6_state_2 : decode cX6_state 2 = .ok (.iload_n 2, 1) := by decide +kernel
theorem dX6_state_3 : decode cX6_state 3 = .ok (.iload_n 3, 1) := by decide +kernel
theorem dX6_state_4 : decode cX6_state 4 = .ok (.iload 5, 2) := by decide +kernel
theorem dX6_state_6 : decode cX6_state 6 = .ok (.ldc 82, 2) := by decide +kernel
theorem dX6_state_8 : decode cX6_state 8 = .ok (.invokevirtual 56, 3) := by decide +kernel
theorem dX6_state_11 : decode cX6_state 11 = .ok (.aload_n 0, 1) := by decide +kernel
theorem dX6_state_12 : decode cX6_state 12 = .ok (.getfield 10, 3) := by decide +kernel
theorem dX6_state_15 : decode cX6_state 15 = .ok (.iload_n 1, 1) := by decide +kernel
theorem dX6_state_16 : decode cX6_state 16 = .ok (.iload_n 2, 1) := by decide +kernel
theorem dX6_state_17 : decode cX6_state 17 = .ok (.iload_n 3, 1) := by decide +kernel
theorem dX6_state_18 : decode cX6_state 18 = .ok (.iload 4, 2) := by decide +kernel
theorem dX6_state_20 : decode cX6_state 20 = .ok (.invokestatic 60, 3) := by decide +kernel
theorem dX6_state_23 : decode cX6_state 23 = .ok (.iload 5, 2) := by decide +kernel
theorem dX6_state_25 : decode cX6_state 25 = .ok (.invokevirtual 83, 3) := by decide +kernel
theorem dX6_state_28 : decode cX6_state 28 = .ok (.ireturn, 1) := by decide +kernel
set_option maxRecDepth 20000 in
theorem ggX6_lamp_X6_checkCell : GoodIn wsX6_lamp wsX6_checkCell := goodIn_ca (goodIn_r _ [7, 8, 9, 10, 11, 6, 12] (by decide +kernel) (by decide +kernel)) (goodIn_sub (fun _ h => List.mem_cons_of_mem _ (List.mem_append_right _ h)) (by decide +kernel))
set_option maxRecDepth 20000 in
theorem gX6_lamp_X6_checkCell : GoodIn wsX6_lamp (va_wsS RX6 44 yX6_checkCell wsX6_checkCell) := goodIn_app (goodIn_of _ (by decide +kernel)) ggX6_lamp_X6_checkCell
set_option maxRecDepth 20000 in
theorem ggX6_lamp_X2_areFull : GoodIn wsX6_lamp wsX2_areFull := goodIn_r _ [17, 18, 31, 32] (by decide +kernel) (by decide +kernel)
set_option maxRecDepth 20000 in
theorem gX6_lamp_X2_areFull : GoodIn wsX6_lamp (wsV RX6 93 RX2 yX2_areFull wsX2_areFull) := goodIn_app (goodIn_of _ (by decide +kernel)) ggX6_lamp_X2_areFull
set_option maxRecDepth 20000 in
theorem ggX6_lamp_X2_add : GoodIn wsX6_lamp wsX2_add := goodIn_r _ [22, 18, 23, 24, 6, 25, 31, 32] (by decide +kernel) (by decide +kernel)
set_option maxRecDepth 20000 in
theorem gX6_lamp_X2_add : GoodIn wsX6_lamp (wsV RX6 104 RX2 yX2_add wsX2_add) := goodIn_app (goodIn_of _ (by decide +kernel)) ggX6_lamp_X2_add
theorem dX6_lamp_0 : decode cX6_lamp 0 = .ok (.iload_n 1, 1) := by decide +kernel
theorem dX6_lamp_1 : decode cX6_lamp 1 = .ok (.iload_n 2, 1) := by decide +kernel
theorem dX6_lamp_2 : decode cX6_lamp 2 = .ok (.invokestatic 44, 3) := by decide +kernel
theorem dX6_lamp_5 : decode cX6_lamp 5 = .ok (.aload_n 0, 1) := by decide +kernel
theorem dX6_lamp_6 : decode cX6_lamp 6 = .ok (.getfield 19, 3) := by decide +kernel
theorem dX6_lamp_9 : decode cX6_lamp 9 = .ok (.invokevirtual 93, 3) := by decide +kernel
theorem dX6_lamp_12 : decode cX6_lamp 12 = .ok (.ifCond .eq 13, 3) := by decide +kernel
theorem dX6_lamp_15 : decode cX6_lamp 15 = .ok (.new 97, 3) := by decide +kernel
theorem dX6_lamp_18 : decode cX6_lamp 18 = .ok (.dup, 1) := by decide +kernel
theorem dX6_lamp_19 : decode cX6_lamp 19 = .ok (.ldc 99, 2) := by decide +kernel
theorem dX6_lamp_21 : decode cX6_lamp 21 = .ok (.invokespecial 101, 3) := by decide +kernel
theorem dX6_lamp_24 : decode cX6_lamp 24 = .ok (.athrow, 1) := by decide +kernel
theorem dX6_lamp_25 : decode cX6_lamp 25 = .ok (.aload_n 0, 1) := by decide +kernel
theorem dX6_lamp_26 : decode cX6_lamp 26 = .ok (.getfield 19, 3) := by decide +kernel
theorem dX6_lamp_29 : decode cX6_lamp 29 = .ok (.iload_n 1, 1) := by decide +kernel
theorem dX6_lamp_30 : decode cX6_lamp 30 = .ok (.iload_n 2, 1) := by decide +kernel
theorem dX6_lamp_31 : decode cX6_lamp 31 = .ok (.invokevirtual 104, 3) := by decide +kernel
theorem dX6_lamp_34 : decode cX6_lamp 34 = .ok (.ireturn, 1) := by decide +kernel
set_option maxRecDepth 20000 in
theorem ggX6_sees_X6_checkCell : GoodIn wsX6_sees wsX6_checkCell := goodIn_ca (goodIn_r _ [5, 6, 7, 8, 9, 4, 10] (by decide +kernel) (by decide +kernel)) (goodIn_sub (fun _ h => List.mem_cons_of_mem _ (List.mem_append_right _ h)) (by decide +kernel))
set_option maxRecDepth 20000 in
theorem gX6_sees_X6_checkCell : GoodIn wsX6_sees (va_wsS RX6 44 yX6_checkCell wsX6_checkCell) := goodIn_app (goodIn_of _ (by decide +kernel)) ggX6_sees_X6_checkCell
set_option maxRecDepth 20000 in
theorem ggX6_sees_X2_isFreeBetween : GoodIn wsX6_sees wsX2_isFreeBetween := goodIn_r _ [14, 15, 16, 17, 18, 19, 20, 21, 22, 23, 24, 25, 26, 27, 9, 4, 10, 28, 29, 13, 30, 31, 32, 33, 39, 40] (by decide +kernel) (by decide +kernel)
set_option maxRecDepth 20000 in
theorem gX6_sees_X2_isFreeBetween : GoodIn wsX6_sees (va_wsS RX6 107 yX2_isFreeBetween wsX2_isFreeBetween) := goodIn_app (goodIn_of _ (by decide +kernel)) ggX6_sees_X2_isFreeBetween
theorem dX6_sees_0 : decode cX6_sees 0 = .ok (.iload_n 1, 1) := by decide +kernel
theorem dX6_sees_1 : decode cX6_sees 1 = .ok (.iload_n 2, 1) := by decide +kernel
theorem dX6_sees_2 : decode cX6_sees 2 = .ok (.invokestatic 44, 3) := by decide +kernel
theorem dX6_sees_5 : decode cX6_sees 5 = .ok (.iload_n 3, 1) := by decide +kernel
theorem dX6_sees_6 : decode cX6_sees 6 = .ok (.iload 4, 2) := by decide +kernel
theorem dX6_sees_8 : decode cX6_sees 8 = .ok (.invokestatic 44, 3) := by decide +kernel
theorem dX6_sees_11 : decode cX6_sees 11 = .ok (.aload_n 0, 1) := by decide +kernel
theorem dX6_sees_12 : decode cX6_sees 12 = .ok (.getfield 10, 3) := by decide +kernel
theorem dX6_sees_15 : decode cX6_sees 15 = .ok (.iload_n 1, 1) := by decide +kernel
theorem dX6_sees_16 : decode cX6_sees 16 = .ok (.iload_n 2, 1) := by decide +kernel
theorem dX6_sees_17 : decode cX6_sees 17 = .ok (.iload_n 3, 1) := by decide +kernel
theorem dX6_sees_18 : decode cX6_sees 18 = .ok (.iload 4, 2) := by decide +kernel
theorem dX6_sees_20 : decode cX6_sees 20 = .ok (.invokestatic 107, 3) := by decide +kernel
theorem dX6_sees_23 : decode cX6_sees 23 = .ok (.ireturn, 1) := by decide +kernel
set_option maxRecDepth 20000 in
theorem ggX6_seesAnew_X6_checkCell : GoodIn wsX6_seesAnew wsX6_checkCell := goodIn_ca (goodIn_r _ [5, 6, 7, 8, 9, 4, 10] (by decide +kernel) (by decide +kernel)) (goodIn_sub (fun _ h => List.mem_cons_of_mem _ (List.mem_append_right _ h)) (by decide +kernel))
set_option maxRecDepth 20000 in
theorem gX6_seesAnew_X6_checkCell : GoodIn wsX6_seesAnew (va_wsS RX6 44 yX6_checkCell wsX6_checkCell) := goodIn_app (goodIn_of _ (by decide +kernel)) ggX6_seesAnew_X6_checkCell
set_option maxRecDepth 20000 in
theorem ggX6_seesAnew_X2_isFreeAlong : GoodIn wsX6_seesAnew wsX2_isFreeAlong := goodIn_r _ [14, 15, 16, 17, 18, 19, 20, 21, 22, 23, 24, 9, 4, 10, 25, 26, 27, 28, 34, 35] (by decide +kernel) (by decide +kernel)
set_option maxRecDepth 20000 in
theorem gX6_seesAnew_X2_isFreeAlong : GoodIn wsX6_seesAnew (va_wsS RX6 111 yX2_isFreeAlong wsX2_isFreeAlong) := goodIn_app (goodIn_of _ (by decide +kernel)) ggX6_seesAnew_X2_isFreeAlong
theorem dX6_seesAnew_0 : decode cX6_seesAnew 0 = .ok (.iload_n 1, 1) := by decide +kernel
theorem dX6_seesAnew_1 : decode cX6_seesAnew 1 = .ok (.iload_n 2, 1) := by decide +kernel
theorem dX6_seesAnew_2 : decode cX6_seesAnew 2 = .ok (.invokestatic 44, 3) := by decide +kernel
theorem dX6_seesAnew_5 : decode cX6_seesAnew 5 = .ok (.iload_n 3, 1) := by decide +kernel
theorem dX6_seesAnew_6 : decode cX6_seesAnew 6 = .ok (.iload 4, 2) := by decide +kernel
theorem dX6_seesAnew_8 : decode cX6_seesAnew 8 = .ok (.invokestatic 44, 3) := by decide +kernel
theorem dX6_seesAnew_11 : decode cX6_seesAnew 11 = .ok (.aload_n 0, 1) := by decide +kernel
theorem dX6_seesAnew_12 : decode cX6_seesAnew 12 = .ok (.getfield 10, 3) := by decide +kernel
theorem dX6_seesAnew_15 : decode cX6_seesAnew 15 = .ok (.iload_n 1, 1) := by decide +kernel
theorem dX6_seesAnew_16 : decode cX6_seesAnew 16 = .ok (.iload_n 2, 1) := by decide +kernel
theorem dX6_seesAnew_17 : decode cX6_seesAnew 17 = .ok (.iload_n 3, 1) := by decide +kernel
theorem dX6_seesAnew_18 : decode cX6_seesAnew 18 = .ok (.iload 4, 2) := by decide +kernel
theorem dX6_seesAnew_20 : decode cX6_seesAnew 20 = .ok (.invokestatic 111, 3) := by decide +kernel
theorem dX6_seesAnew_23 : decode cX6_seesAnew 23 = .ok (.ireturn, 1) := by decide +kernel
set_option maxRecDepth 20000 in
theorem ggX6_lit_X2_cellsLit : GoodIn wsX6_lit wsX2_cellsLit := goodIn_r _ [7, 8, 9, 10, 6, 11, 12, 13, 14, 15, 16, 17, 18, 19, 20, 21, 22, 23, 24, 25, 26, 27, 28, 29, 30, 31, 32, 33, 34, 35, 36, 37, 38, 39, 40, 46, 47, 48, 49] (by decide +kernel) (by decide +kernel)
set_option maxRecDepth 20000 in
theorem gX6_lit_X2_cellsLit : GoodIn wsX6_lit (wsV RX6 114 RX2 yX2_cellsLit wsX2_cellsLit) := goodIn_app (goodIn_of _ (by decide +kernel)) ggX6_lit_X2_cellsLit
theorem dX6_lit_0 : decode cX6_lit 0 = .ok (.aload_n 0, 1) := by decide +kernel
theorem dX6_lit_1 : decode cX6_lit 1 = .ok (.getfield 19, 3) := by decide +kernel
theorem dX6_lit_4 : decode cX6_lit 4 = .ok (.aload_n 0, 1) := by decide +kernel
theorem dX6_lit_5 : decode cX6_lit 5 = .ok (.getfield 10, 3) := by decide +kernel
theorem dX6_lit_8 : decode cX6_lit 8 = .ok (.invokevirtual 114, 3) := by decide +kernel
theorem dX6_lit_11 : decode cX6_lit 11 = .ok (.ireturn, 1) := by decide +kernel
set_option maxRecDepth 20000 in
theorem ggX6_share_X4_floors : GoodIn wsX6_share wsX4_floors := goodIn_r _ [7, 8, 9, 10, 11, 12, 13, 14, 15, 57, 58] (by decide +kernel) (by decide +kernel)
set_option maxRecDepth 20000 in
theorem gX6_share_X4_floors : GoodIn wsX6_share (wsV RX6 118 RX4 yX4_floors wsX4_floors) := goodIn_app (goodIn_of _ (by decide +kernel)) ggX6_share_X4_floors
set_option maxRecDepth 20000 in
theorem ggX6_share_X2_cellsLit : GoodIn wsX6_share wsX2_cellsLit := goodIn_r _ [20, 21, 22, 23, 19, 24, 25, 26, 27, 28, 29, 30, 31, 32, 33, 34, 35, 36, 37, 38, 39, 40, 41, 42, 6, 43, 8, 44, 45, 46, 47, 48, 49, 50, 51, 59, 60, 57, 58] (by decide +kernel) (by decide +kernel)
set_option maxRecDepth 20000 in
theorem gX6_share_X2_cellsLit : GoodIn wsX6_share (wsV RX6 114 RX2 yX2_cellsLit wsX2_cellsLit) := goodIn_app (goodIn_of _ (by decide +kernel)) ggX6_share_X2_cellsLit
theorem dX6_share_0 : decode cX6_share 0 = .ok (.aload_n 0, 1) := by decide +kernel
theorem dX6_share_1 : decode cX6_share 1 = .ok (.getfield 10, 3) := by decide +kernel
theorem dX6_share_4 : decode cX6_share 4 = .ok (.invokevirtual 118, 3) := by decide +kernel
theorem dX6_share_7 : decode cX6_share 7 = .ok (.istore_n 1, 1) := by decide +kernel
theorem dX6_share_8 : decode cX6_share 8 = .ok (.iload_n 1, 1) := by decide +kernel
theorem dX6_share_9 : decode cX6_share 9 = .ok (.ifCond .le 21, 3) := by decide +kernel
theorem dX6_share_12 : decode cX6_share 12 = .ok (.aload_n 0, 1) := by decide +kernel
theorem dX6_share_13 : decode cX6_share 13 = .ok (.getfield 19, 3) := by decide +kernel
theorem dX6_share_16 : decode cX6_share 16 = .ok (.aload_n 0, 1) := by decide +kernel
theorem dX6_share_17 : decode cX6_share 17 = .ok (.getfield 10, 3) := by decide +kernel
theorem dX6_share_20 : decode cX6_share 20 = .ok (.invokevirtual 114, 3) := by decide +kernel
theorem dX6_share_23 : decode cX6_share 23 = .ok (.i2f, 1) := by decide +kernel
theorem dX6_share_24 : decode cX6_share 24 = .ok (.iload_n 1, 1) := by decide +kernel
theorem dX6_share_25 : decode cX6_share 25 = .ok (.i2f, 1) := by decide +kernel
theorem dX6_share_26 : decode cX6_share 26 = .ok (.fdiv, 1) := by decide +kernel
theorem dX6_share_27 : decode cX6_share 27 = .ok (.goto 4, 3) := by decide +kernel
theorem dX6_share_30 : decode cX6_share 30 = .ok (.fconst 0, 1) := by decide +kernel
theorem dX6_share_31 : decode cX6_share 31 = .ok (.freturn, 1) := by decide +kernel
set_option maxRecDepth 20000 in
theorem ggX6_surface_X6_checkRange : GoodIn wsX6_surface wsX6_checkRange := goodIn_ca (goodIn_r _ [5, 6, 7] (by decide +kernel) (by decide +kernel)) (goodIn_sub (fun _ h => List.mem_cons_of_mem _ (List.mem_append_right _ h)) (by decide +kernel))
set_option maxRecDepth 20000 in
theorem gX6_surface_X6_checkRange : GoodIn wsX6_surface (va_wsS RX6 121 yX6_checkRange wsX6_checkRange) := goodIn_app (goodIn_of _ (by decide +kernel)) ggX6_surface_X6_checkRange
set_option maxRecDepth 20000 in
theorem ggX6_surface_X5_squares : GoodIn wsX6_surface wsX5_squares := goodIn_r _ [12, 13, 43, 44, 45, 46, 47, 48, 49, 50, 51] (by decide +kernel) (by decide +kernel)
set_option maxRecDepth 20000 in
theorem gX6_surface_X5_squares : GoodIn wsX6_surface (wsV RX6 125 RX5 yX5_squares wsX5_squares) := goodIn_app (goodIn_of _ (by decide +kernel)) ggX6_surface_X5_squares
set_option maxRecDepth 20000 in
theorem ggX6_surface_X5_begin : GoodIn wsX6_surface wsX5_begin := goodIn_r _ [17, 13, 18, 19, 20, 4, 21, 22, 23, 24, 11, 25, 26, 27, 28, 29, 30, 31, 32, 33, 34, 35, 36, 37, 43, 44, 45, 46, 47, 48, 49, 50, 51] (by decide +kernel) (by decide +kernel)
set_option maxRecDepth 20000 in
theorem gX6_surface_X5_begin : GoodIn wsX6_surface (wsV RX6 128 RX5 yX5_begin wsX5_begin) := goodIn_app (goodIn_of _ (by decide +kernel)) ggX6_surface_X5_begin
theorem dX6_surface_0 : decode cX6_surface 0 = .ok (.iload_n 1, 1) := by decide +kernel
theorem dX6_surface_1 : decode cX6_surface 1 = .ok (.iconst 1, 1) := by decide +kernel
theorem dX6_surface_2 : decode cX6_surface 2 = .ok (.iconst 5, 1) := by decide +kernel
theorem dX6_surface_3 : decode cX6_surface 3 = .ok (.invokestatic 121, 3) := by decide +kernel
theorem dX6_surface_6 : decode cX6_surface 6 = .ok (.aload_n 0, 1) := by decide +kernel
theorem dX6_surface_7 : decode cX6_surface 7 = .ok (.getfield 26, 3) := by decide +kernel
theorem dX6_surface_10 : decode cX6_surface 10 = .ok (.invokevirtual 125, 3) := by decide +kernel
theorem dX6_surface_13 : decode cX6_surface 13 = .ok (.istore_n 2, 1) := by decide +kernel
theorem dX6_surface_14 : decode cX6_surface 14 = .ok (.aload_n 0, 1) := by decide +kernel
theorem dX6_surface_15 : decode cX6_surface 15 = .ok (.getfield 26, 3) := by decide +kernel
theorem dX6_surface_18 : decode cX6_surface 18 = .ok (.iload_n 1, 1) := by decide +kernel
theorem dX6_surface_19 : decode cX6_surface 19 = .ok (.invokevirtual 128, 3) := by decide +kernel
theorem dX6_surface_22 : decode cX6_surface 22 = .ok (.iload_n 2, 1) := by decide +kernel
theorem dX6_surface_23 : decode cX6_surface 23 = .ok (.ireturn, 1) := by decide +kernel
set_option maxRecDepth 20000 in
theorem ggX6_glue_X5_squares : GoodIn wsX6_glue wsX5_squares := goodIn_r _ [6, 7, 47, 48, 49, 50, 51, 52, 53, 54, 55] (by decide +kernel) (by decide +kernel)
set_option maxRecDepth 20000 in
theorem gX6_glue_X5_squares : GoodIn wsX6_glue (wsV RX6 125 RX5 yX5_squares wsX5_squares) := goodIn_app (goodIn_of _ (by decide +kernel)) ggX6_glue_X5_squares
set_option maxRecDepth 20000 in
theorem ggX6_glue_X6_checkPlace : GoodIn wsX6_glue wsX6_checkPlace := goodIn_ca (goodIn_r _ [11, 12, 13] (by decide +kernel) (by decide +kernel)) (goodIn_sub (fun _ h => List.mem_cons_of_mem _ (List.mem_append_right _ h)) (by decide +kernel))
set_option maxRecDepth 20000 in
theorem gX6_glue_X6_checkPlace : GoodIn wsX6_glue (va_wsS RX6 132 yX6_checkPlace wsX6_checkPlace) := goodIn_app (goodIn_of _ (by decide +kernel)) ggX6_glue_X6_checkPlace
set_option maxRecDepth 20000 in
theorem ggX6_glue_X5_exchangeTwo : GoodIn wsX6_glue wsX5_exchangeTwo := goodIn_r _ [17, 18, 19, 20, 10, 21, 22, 23, 24, 25, 26, 27, 28, 29, 30, 5, 31, 7, 32, 33, 34, 35, 36, 37, 38, 39, 40, 41, 47, 48, 49, 50, 51, 52, 53, 54, 55] (by decide +kernel) (by decide +kernel)
set_option maxRecDepth 20000 in
theorem gX6_glue_X5_exchangeTwo : GoodIn wsX6_glue (wsV RX6 135 RX5 yX5_exchangeTwo wsX5_exchangeTwo) := goodIn_app (goodIn_of _ (by decide +kernel)) ggX6_glue_X5_exchangeTwo
theorem dX6_glue_0 : decode cX6_glue 0 = .ok (.iload_n 1, 1) := by decide +kernel
theorem dX6_glue_1 : decode cX6_glue 1 = .ok (.aload_n 0, 1) := by decide +kernel
theorem dX6_glue_2 : decode cX6_glue 2 = .ok (.getfield 26, 3) := by decide +kernel
theorem dX6_glue_5 : decode cX6_glue 5 = .ok (.invokevirtual 125, 3) := by decide +kernel
theorem dX6_glue_8 : decode cX6_glue 8 = .ok (.invokestatic 132, 3) := by decide +kernel
theorem dX6_glue_11 : decode cX6_glue 11 = .ok (.iload_n 2, 1) := by decide +kernel
theorem dX6_glue_12 : decode cX6_glue 12 = .ok (.aload_n 0, 1) := by decide +kernel
theorem dX6_glue_13 : decode cX6_glue 13 = .ok (.getfield 26, 3) := by decide +kernel
theorem dX6_glue_16 : decode cX6_glue 16 = .ok (.invokevirtual 125, 3) := by decide +kernel
theorem dX6_glue_19 : decode cX6_glue 19 = .ok (.invokestatic 132, 3) := by decide +kernel
theorem dX6_glue_22 : decode cX6_glue 22 = .ok (.aload_n 0, 1) := by decide +kernel
theorem dX6_glue_23 : decode cX6_glue 23 = .ok (.getfield 26, 3) := by decide +kernel
theorem dX6_glue_26 : decode cX6_glue 26 = .ok (.iload_n 1, 1) := by decide +kernel
theorem dX6_glue_27 : decode cX6_glue 27 = .ok (.iload_n 2, 1) := by decide +kernel
theorem dX6_glue_28 : decode cX6_glue 28 = .ok (.iload_n 3, 1) := by decide +kernel
theorem dX6_glue_29 : decode cX6_glue 29 = .ok (.invokevirtual 135, 3) := by decide +kernel
theorem dX6_glue_32 : decode cX6_glue 32 = .ok (.ireturn, 1) := by decide +kernel
set_option maxRecDepth 20000 in
theorem ggX6_shear_X5_shearAll : GoodIn wsX6_shear wsX5_shearAll := goodIn_r _ [6, 7, 8, 9, 10, 11, 12, 5, 13, 14, 15, 16, 17, 18, 19, 20, 21, 22, 23, 24, 25, 26, 27, 28, 29, 62, 63, 64, 65, 66, 67, 68, 69, 70] (by decide +kernel) (by decide +kernel)
set_option maxRecDepth 20000 in
theorem gX6_shear_X5_shearAll : GoodIn wsX6_shear (wsV RX6 139 RX5 yX5_shearAll wsX5_shearAll) := goodIn_app (goodIn_of _ (by decide +kernel)) ggX6_shear_X5_shearAll
set_option maxRecDepth 20000 in
theorem ggX6_shear_X5_leastCode : GoodIn wsX6_shear wsX5_leastCode := goodIn_r _ [33, 34, 7, 35, 36, 37, 38, 39, 40, 41, 42, 43, 44, 5, 45, 46, 47, 48, 49, 50, 51, 52, 53, 54, 55, 56, 22, 16, 23, 15, 17, 10, 11, 12, 13, 14, 18, 19, 20, 21, 9, 62, 63, 64, 65, 66, 67, 68, 69, 70] (by decide +kernel) (by decide +kernel)
set_option maxRecDepth 20000 in
theorem gX6_shear_X5_leastCode : GoodIn wsX6_shear (wsV RX6 142 RX5 yX5_leastCode wsX5_leastCode) := goodIn_app (goodIn_of _ (by decide +kernel)) ggX6_shear_X5_leastCode
theorem dX6_shear_0 : decode cX6_shear 0 = .ok (.aload_n 0, 1) := by decide +kernel
theorem dX6_shear_1 : decode cX6_shear 1 = .ok (.getfield 26, 3) := by decide +kernel
theorem dX6_shear_4 : decode cX6_shear 4 = .ok (.invokevirtual 139, 3) := by decide +kernel
theorem dX6_shear_7 : decode cX6_shear 7 = .ok (.aload_n 0, 1) := by decide +kernel
theorem dX6_shear_8 : decode cX6_shear 8 = .ok (.getfield 26, 3) := by decide +kernel
theorem dX6_shear_11 : decode cX6_shear 11 = .ok (.invokevirtual 142, 3) := by decide +kernel
theorem dX6_shear_14 : decode cX6_shear 14 = .ok (.ireturn, 1) := by decide +kernel
set_option maxRecDepth 20000 in
theorem ggX6_turn_X5_turnAll : GoodIn wsX6_turn wsX5_turnAll := goodIn_r _ [6, 7, 8, 9, 10, 11, 12, 13, 5, 14, 15, 16, 17, 18, 19, 20, 21, 22, 23, 24, 25, 26, 27, 28, 29, 30, 31, 32, 33, 66, 67, 68, 69, 70, 71, 72, 73, 74] (by decide +kernel) (by decide +kernel)
set_option maxRecDepth 20000 in
theorem gX6_turn_X5_turnAll : GoodIn wsX6_turn (wsV RX6 145 RX5 yX5_turnAll wsX5_turnAll) := goodIn_app (goodIn_of _ (by decide +kernel)) ggX6_turn_X5_turnAll
set_option maxRecDepth 20000 in
theorem ggX6_turn_X5_leastCode : GoodIn wsX6_turn wsX5_leastCode := goodIn_r _ [37, 38, 7, 39, 40, 41, 42, 43, 44, 45, 46, 47, 48, 5, 49, 50, 51, 52, 53, 54, 55, 56, 57, 58, 59, 60, 19, 17, 20, 16, 18, 30, 31, 32, 33, 9, 21, 22, 23, 24, 10, 66, 67, 68, 69, 70, 71, 72, 73, 74] (by decide +kernel) (by decide +kernel)
set_option maxRecDepth 20000 in
theorem gX6_turn_X5_leastCode : GoodIn wsX6_turn (wsV RX6 142 RX5 yX5_leastCode wsX5_leastCode) := goodIn_app (goodIn_of _ (by decide +kernel)) ggX6_turn_X5_leastCode
theorem dX6_turn_0 : decode cX6_turn 0 = .ok (.aload_n 0, 1) := by decide +kernel
theorem dX6_turn_1 : decode cX6_turn 1 = .ok (.getfield 26, 3) := by decide +kernel
theorem dX6_turn_4 : decode cX6_turn 4 = .ok (.invokevirtual 145, 3) := by decide +kernel
theorem dX6_turn_7 : decode cX6_turn 7 = .ok (.aload_n 0, 1) := by decide +kernel
theorem dX6_turn_8 : decode cX6_turn 8 = .ok (.getfield 26, 3) := by decide +kernel
theorem dX6_turn_11 : decode cX6_turn 11 = .ok (.invokevirtual 142, 3) := by decide +kernel
theorem dX6_turn_14 : decode cX6_turn 14 = .ok (.ireturn, 1) := by decide +kernel
set_option maxRecDepth 20000 in
theorem ggX6_square_X5_squares : GoodIn wsX6_square wsX5_squares := goodIn_r _ [6, 7, 78, 79, 80, 81, 82, 83, 84, 85, 86] (by decide +kernel) (by decide +kernel)
set_option maxRecDepth 20000 in
theorem gX6_square_X5_squares : GoodIn wsX6_square (wsV RX6 125 RX5 yX5_squares wsX5_squares) := goodIn_app (goodIn_of _ (by decide +kernel)) ggX6_square_X5_squares
set_option maxRecDepth 20000 in
theorem ggX6_square_X6_checkPlace : GoodIn wsX6_square wsX6_checkPlace := goodIn_ca (goodIn_r _ [11, 12, 13] (by decide +kernel) (by decide +kernel)) (goodIn_sub (fun _ h => List.mem_cons_of_mem _ (List.mem_append_left _ (List.mem_append_right _ h))) (by decide +kernel))
set_option maxRecDepth 20000 in
theorem gX6_square_X6_checkPlace : GoodIn wsX6_square (va_wsS RX6 132 yX6_checkPlace wsX6_checkPlace) := goodIn_app (goodIn_of _ (by decide +kernel)) ggX6_square_X6_checkPlace
set_option maxRecDepth 20000 in
theorem ggX6_square_X6_checkRange : GoodIn wsX6_square wsX6_checkRange := goodIn_ca (goodIn_r _ [16, 17, 18] (by decide +kernel) (by decide +kernel)) (goodIn_sub (fun _ h => List.mem_cons_of_mem _ (List.mem_append_right _ h)) (by decide +kernel))
set_option maxRecDepth 20000 in
theorem gX6_square_X6_checkRange : GoodIn wsX6_square (va_wsS RX6 121 yX6_checkRange wsX6_checkRange) := goodIn_app (goodIn_of _ (by decide +kernel)) ggX6_square_X6_checkRange
set_option maxRecDepth 20000 in
theorem ggX6_square_X5_rightOf : GoodIn wsX6_square wsX5_rightOf := goodIn_r _ [22, 23, 24, 10, 25, 78, 79, 80, 81, 82, 83, 84, 85, 86] (by decide +kernel) (by decide +kernel)
set_option maxRecDepth 20000 in
theorem gX6_square_X5_rightOf : GoodIn wsX6_square (wsV RX6 148 RX5 yX5_rightOf wsX5_rightOf) := goodIn_app (goodIn_of _ (by decide +kernel)) ggX6_square_X5_rightOf
set_option maxRecDepth 20000 in
theorem ggX6_square_X5_upOf : GoodIn wsX6_square wsX5_upOf := goodIn_r _ [29, 30, 24, 10, 25, 78, 79, 80, 81, 82, 83, 84, 85, 86] (by decide +kernel) (by decide +kernel)
set_option maxRecDepth 20000 in
theorem gX6_square_X5_upOf : GoodIn wsX6_square (wsV RX6 151 RX5 yX5_upOf wsX5_upOf) := goodIn_app (goodIn_of _ (by decide +kernel)) ggX6_square_X5_upOf
set_option maxRecDepth 20000 in
theorem ggX6_square_X5_leftOf : GoodIn wsX6_square wsX5_leftOf := goodIn_r _ [34, 35, 24, 10, 25, 78, 79, 80, 81, 82, 83, 84, 85, 86] (by decide +kernel) (by decide +kernel)
set_option maxRecDepth 20000 in
theorem gX6_square_X5_leftOf : GoodIn wsX6_square (wsV RX6 154 RX5 yX5_leftOf wsX5_leftOf) := goodIn_app (goodIn_of _ (by decide +kernel)) ggX6_square_X5_leftOf
set_option maxRecDepth 20000 in
theorem ggX6_square_X5_downOf : GoodIn wsX6_square wsX5_downOf := goodIn_r _ [39, 40, 24, 10, 25, 78, 79, 80, 81, 82, 83, 84, 85, 86] (by decide +kernel) (by decide +kernel)
set_option maxRecDepth 20000 in
theorem gX6_square_X5_downOf : GoodIn wsX6_square (wsV RX6 157 RX5 yX5_downOf wsX5_downOf) := goodIn_app (goodIn_of _ (by decide +kernel)) ggX6_square_X5_downOf
set_option maxRecDepth 20000 in
theorem ggX6_square_X5_sizeOf : GoodIn wsX6_square wsX5_sizeOf := goodIn_r _ [44, 45, 46, 47, 5, 48, 7, 49, 50, 51, 52, 53, 54, 55, 56, 40, 35, 30, 23, 24, 10, 25, 57, 58, 59, 60, 20, 21, 22, 61, 62, 63, 64, 65, 27, 28, 29, 66, 67, 68, 69, 70, 71, 72, 78, 79, 80, 81, 82, 83, 84, 85, 86] (by decide +kernel) (by decide +kernel)
set_option maxRecDepth 20000 in
theorem gX6_square_X5_sizeOf : GoodIn wsX6_square (wsV RX6 160 RX5 yX5_sizeOf wsX5_sizeOf) := goodIn_app (goodIn_of _ (by decide +kernel)) ggX6_square_X5_sizeOf
theorem dX6_square_0 : decode cX6_square 0 = .ok (.iload_n 1, 1) := by decide +kernel
theorem dX6_square_1 : decode cX6_square 1 = .ok (.aload_n 0, 1) := by decide +kernel
theorem dX6_square_2 : decode cX6_square 2 = .ok (.getfield 26, 3) := by decide +kernel
theorem dX6_square_5 : decode cX6_square 5 = .ok (.invokevirtual 125, 3) := by decide +kernel
theorem dX6_square_8 : decode cX6_square 8 = .ok (.invokestatic 132, 3) := by decide +kernel
theorem dX6_square_11 : decode cX6_square 11 = .ok (.iload_n 2, 1) := by decide +kernel
theorem dX6_square_12 : decode cX6_square 12 = .ok (.iconst 0, 1) := by decide +kernel
theorem dX6_square_13 : decode cX6_square 13 = .ok (.bipush 6, 2) := by decide +kernel
theorem dX6_square_15 : decode cX6_square 15 = .ok (.invokestatic 121, 3) := by decide +kernel
theorem dX6_square_18 : decode cX6_square 18 = .ok (.iload_n 2, 1) := by decide +kernel
theorem dX6_square_19 : decode cX6_square 19 = .ok (.tableswitch 93 0 5 #[37, 46, 55, 64, 73, 83], 37) := by decide +kernel
theorem dX6_square_56 : decode cX6_square 56 = .ok (.aload_n 0, 1) := by decide +kernel
theorem dX6_square_57 : decode cX6_square 57 = .ok (.getfield 26, 3) := by decide +kernel
theorem dX6_square_60 : decode cX6_square 60 = .ok (.iload_n 1, 1) := by decide +kernel
theorem dX6_square_61 : decode cX6_square 61 = .ok (.invokevirtual 148, 3) := by decide +kernel
theorem dX6_square_64 : decode cX6_square 64 = .ok (.ireturn, 1) := by decide +kernel
theorem dX6_square_65 : decode cX6_square 65 = .ok (.aload_n 0, 1) := by decide +kernel
theorem dX6_square_66 : decode cX6_square 66 = .ok (.getfield 26, 3) := by decide +kernel
theorem dX6_square_69 : decode cX6_square 69 = .ok (.iload_n 1, 1) := by decide +kernel
theorem dX6_square_70 : decode cX6_square 70 = .ok (.invokevirtual 151, 3) := by decide +kernel
theorem dX6_square_73 : decode cX6_square 73 = .ok (.ireturn, 1) := by decide +kernel
theorem dX6_square_74 : decode cX6_square 74 = .ok (.aload_n 0, 1) := by decide +kernel
theorem dX6_square_75 : decode cX6_square 75 = .ok (.getfield 26, 3) := by decide +kernel
theorem dX6_square_78 : decode cX6_square 78 = .ok (.iload_n 1, 1) := by decide +kernel
theorem dX6_square_79 : decode cX6_square 79 = .ok (.invokevirtual 154, 3) := by decide +kernel
theorem dX6_square_82 : decode cX6_square 82 = .ok (.ireturn, 1) := by decide +kernel
theorem dX6_square_83 : decode cX6_square 83 = .ok (.aload_n 0, 1) := by decide +kernel
theorem dX6_square_84 : decode cX6_square 84 = .ok (.getfield 26, 3) := by decide +kernel
theorem dX6_square_87 : decode cX6_square 87 = .ok (.iload_n 1, 1) := by decide +kernel
theorem dX6_square_88 : decode cX6_square 88 = .ok (.invokevirtual 157, 3) := by decide +kernel
theorem dX6_square_91 : decode cX6_square 91 = .ok (.ireturn, 1) := by decide +kernel
theorem dX6_square_92 : decode cX6_square 92 = .ok (.aload_n 0, 1) := by decide +kernel
theorem dX6_square_93 : decode cX6_square 93 = .ok (.getfield 26, 3) := by decide +kernel
theorem dX6_square_96 : decode cX6_square 96 = .ok (.iload_n 1, 1) := by decide +kernel
theorem dX6_square_97 : decode cX6_square 97 = .ok (.iconst 1, 1) := by decide +kernel
theorem dX6_square_98 : decode cX6_square 98 = .ok (.invokevirtual 160, 3) := by decide +kernel
theorem dX6_square_101 : decode cX6_square 101 = .ok (.ireturn, 1) := by decide +kernel
theorem dX6_square_102 : decode cX6_square 102 = .ok (.aload_n 0, 1) := by decide +kernel
theorem dX6_square_103 : decode cX6_square 103 = .ok (.getfield 26, 3) := by decide +kernel
theorem dX6_square_106 : decode cX6_square 106 = .ok (.iload_n 1, 1) := by decide +kernel
theorem dX6_square_107 : decode cX6_square 107 = .ok (.iconst 2, 1) := by decide +kernel
theorem dX6_square_108 : decode cX6_square 108 = .ok (.invokevirtual 160, 3) := by decide +kernel
theorem dX6_square_111 : decode cX6_square 111 = .ok (.ireturn, 1) := by decide +kernel
theorem dX6_square_112 : decode cX6_square 112 = .ok (.aload_n 0, 1) := by decide +kernel
theorem dX6_square_113 : decode cX6_square 113 = .ok (.getfield 26, 3) := by decide +kernel
theorem dX6_square_116 : decode cX6_square 116 = .ok (.iload_n 1, 1) := by decide +kernel
theorem dX6_square_117 : decode cX6_square 117 = .ok (.iconst 3, 1) := by decide +kernel
theorem dX6_square_118 : decode cX6_square 118 = .ok (.invokevirtual 160, 3) := by decide +kernel
theorem dX6_square_121 : decode cX6_square 121 = .ok (.ireturn, 1) := by decide +kernel
set_option maxRecDepth 20000 in
theorem ggX6_count_X6_checkRange : GoodIn wsX6_count wsX6_checkRange := goodIn_ca (goodIn_r _ [5, 6, 7] (by decide +kernel) (by decide +kernel)) (goodIn_sub (fun _ h => List.mem_cons_of_mem _ (List.mem_append_right _ h)) (by decide +kernel))
set_option maxRecDepth 20000 in
theorem gX6_count_X6_checkRange : GoodIn wsX6_count (va_wsS RX6 121 yX6_checkRange wsX6_checkRange) := goodIn_app (goodIn_of _ (by decide +kernel)) ggX6_count_X6_checkRange
set_option maxRecDepth 20000 in
theorem ggX6_count_X5_squares : GoodIn wsX6_count wsX5_squares := goodIn_r _ [12, 13, 56, 57, 58, 59, 60, 61, 62, 63, 64] (by decide +kernel) (by decide +kernel)
set_option maxRecDepth 20000 in
theorem gX6_count_X5_squares : GoodIn wsX6_count (wsV RX6 125 RX5 yX5_squares wsX5_squares) := goodIn_app (goodIn_of _ (by decide +kernel)) ggX6_count_X5_squares
set_option maxRecDepth 20000 in
theorem ggX6_count_X5_groups : GoodIn wsX6_count wsX5_groups := goodIn_r _ [17, 13, 18, 19, 20, 11, 21, 22, 23, 24, 25, 26, 27, 28, 29, 30, 31, 32, 33, 34, 4, 35, 36, 37, 38, 39, 40, 41, 42, 43, 44, 45, 46, 47, 48, 49, 50, 56, 57, 58, 59, 60, 61, 62, 63, 64] (by decide +kernel) (by decide +kernel)
set_option maxRecDepth 20000 in
theorem gX6_count_X5_groups : GoodIn wsX6_count (wsV RX6 163 RX5 yX5_groups wsX5_groups) := goodIn_app (goodIn_of _ (by decide +kernel)) ggX6_count_X5_groups
theorem dX6_count_0 : decode cX6_count 0 = .ok (.iload_n 1, 1) := by decide +kernel
theorem dX6_count_1 : decode cX6_count 1 = .ok (.iconst 0, 1) := by decide +kernel
theorem dX6_count_2 : decode cX6_count 2 = .ok (.iconst 4, 1) := by decide +kernel
theorem dX6_count_3 : decode cX6_count 3 = .ok (.invokestatic 121, 3) := by decide +kernel
theorem dX6_count_6 : decode cX6_count 6 = .ok (.iload_n 1, 1) := by decide +kernel
theorem dX6_count_7 : decode cX6_count 7 = .ok (.ifCond .ne 13, 3) := by decide +kernel
theorem dX6_count_10 : decode cX6_count 10 = .ok (.aload_n 0, 1) := by decide +kernel
theorem dX6_count_11 : decode cX6_count 11 = .ok (.getfield 26, 3) := by decide +kernel
theorem dX6_count_14 : decode cX6_count 14 = .ok (.invokevirtual 125, 3) := by decide +kernel
theorem dX6_count_17 : decode cX6_count 17 = .ok (.goto 11, 3) := by decide +kernel
theorem dX6_count_20 : decode cX6_count 20 = .ok (.aload_n 0, 1) := by decide +kernel
theorem dX6_count_21 : decode cX6_count 21 = .ok (.getfield 26, 3) := by decide +kernel
theorem dX6_count_24 : decode cX6_count 24 = .ok (.iload_n 1, 1) := by decide +kernel
theorem dX6_count_25 : decode cX6_count 25 = .ok (.invokevirtual 163, 3) := by decide +kernel
theorem dX6_count_28 : decode cX6_count 28 = .ok (.ireturn, 1) := by decide +kernel
set_option maxRecDepth 20000 in
theorem ggX6_genus_X5_groups : GoodIn wsX6_genus wsX5_groups := goodIn_r _ [8, 9, 10, 11, 12, 7, 13, 14, 15, 16, 17, 18, 19, 20, 21, 22, 23, 24, 25, 26, 27, 28, 29, 30, 31, 32, 33, 34, 35, 36, 37, 38, 39, 40, 41, 42, 43, 53, 54, 55, 56, 57, 58, 59, 60, 61] (by decide +kernel) (by decide +kernel)
set_option maxRecDepth 20000 in
theorem gX6_genus_X5_groups : GoodIn wsX6_genus (wsV RX6 163 RX5 yX5_groups wsX5_groups) := goodIn_app (goodIn_of _ (by decide +kernel)) ggX6_genus_X5_groups
set_option maxRecDepth 20000 in
theorem ggX6_genus_X5_squares : GoodIn wsX6_genus wsX5_squares := goodIn_r _ [47, 9, 53, 54, 55, 56, 57, 58, 59, 60, 61] (by decide +kernel) (by decide +kernel)
set_option maxRecDepth 20000 in
theorem gX6_genus_X5_squares : GoodIn wsX6_genus (wsV RX6 125 RX5 yX5_squares wsX5_squares) := goodIn_app (goodIn_of _ (by decide +kernel)) ggX6_genus_X5_squares
theorem dX6_genus_0 : decode cX6_genus 0 = .ok (.aload_n 0, 1) := by decide +kernel
theorem dX6_genus_1 : decode cX6_genus 1 = .ok (.getfield 26, 3) := by decide +kernel
theorem dX6_genus_4 : decode cX6_genus 4 = .ok (.iconst 2, 1) := by decide +kernel
theorem dX6_genus_5 : decode cX6_genus 5 = .ok (.invokevirtual 163, 3) := by decide +kernel
theorem dX6_genus_8 : decode cX6_genus 8 = .ok (.iconst 1, 1) := by decide +kernel
theorem dX6_genus_9 : decode cX6_genus 9 = .ok (.if_icmp .le 13, 3) := by decide +kernel
theorem dX6_genus_12 : decode cX6_genus 12 = .ok (.new 97, 3) := by decide +kernel
theorem dX6_genus_15 : decode cX6_genus 15 = .ok (.dup, 1) := by decide +kernel
theorem dX6_genus_16 : decode cX6_genus 16 = .ok (.ldc 166, 2) := by decide +kernel
theorem dX6_genus_18 : decode cX6_genus 18 = .ok (.invokespecial 101, 3) := by decide +kernel
theorem dX6_genus_21 : decode cX6_genus 21 = .ok (.athrow, 1) := by decide +kernel
theorem dX6_genus_22 : decode cX6_genus 22 = .ok (.iconst 1, 1) := by decide +kernel
theorem dX6_genus_23 : decode cX6_genus 23 = .ok (.aload_n 0, 1) := by decide +kernel
theorem dX6_genus_24 : decode cX6_genus 24 = .ok (.getfield 26, 3) := by decide +kernel
theorem dX6_genus_27 : decode cX6_genus 27 = .ok (.invokevirtual 125, 3) := by decide +kernel
theorem dX6_genus_30 : decode cX6_genus 30 = .ok (.aload_n 0, 1) := by decide +kernel
theorem dX6_genus_31 : decode cX6_genus 31 = .ok (.getfield 26, 3) := by decide +kernel
theorem dX6_genus_34 : decode cX6_genus 34 = .ok (.iconst 1, 1) := by decide +kernel
theorem dX6_genus_35 : decode cX6_genus 35 = .ok (.invokevirtual 163, 3) := by decide +kernel
theorem dX6_genus_38 : decode cX6_genus 38 = .ok (.isub, 1) := by decide +kernel
theorem dX6_genus_39 : decode cX6_genus 39 = .ok (.iconst 2, 1) := by decide +kernel
theorem dX6_genus_40 : decode cX6_genus 40 = .ok (.idiv, 1) := by decide +kernel
theorem dX6_genus_41 : decode cX6_genus 41 = .ok (.iadd, 1) := by decide +kernel
theorem dX6_genus_42 : decode cX6_genus 42 = .ok (.ireturn, 1) := by decide +kernel
set_option maxRecDepth 20000 in
theorem ggX6_code_X5_leastCode : GoodIn wsX6_code wsX5_leastCode := goodIn_r _ [6, 7, 8, 9, 10, 11, 12, 13, 14, 15, 16, 17, 18, 5, 19, 20, 21, 22, 23, 24, 25, 26, 27, 28, 29, 30, 31, 32, 33, 34, 35, 36, 37, 38, 39, 40, 41, 42, 43, 44, 45, 51, 52, 53, 54, 55, 56, 57, 58, 59] (by decide +kernel) (by decide +kernel)
set_option maxRecDepth 20000 in
theorem gX6_code_X5_leastCode : GoodIn wsX6_code (wsV RX6 142 RX5 yX5_leastCode wsX5_leastCode) := goodIn_app (goodIn_of _ (by decide +kernel)) ggX6_code_X5_leastCode
theorem dX6_code_0 : decode cX6_code 0 = .ok (.aload_n 0, 1) := by decide +kernel
theorem dX6_code_1 : decode cX6_code 1 = .ok (.getfield 26, 3) := by decide +kernel
theorem dX6_code_4 : decode cX6_code 4 = .ok (.invokevirtual 142, 3) := by decide +kernel
theorem dX6_code_7 : decode cX6_code 7 = .ok (.ireturn, 1) := by decide +kernel
set_option maxRecDepth 20000 in
theorem ggX6_kin_X5_leastCode : GoodIn wsX6_kin wsX5_leastCode := goodIn_r _ [7, 8, 9, 10, 11, 12, 13, 14, 15, 16, 17, 18, 19, 6, 20, 21, 22, 23, 24, 25, 26, 27, 28, 29, 30, 31, 32, 33, 34, 35, 36, 37, 38, 39, 40, 41, 42, 43, 44, 45, 46, 92, 93, 94, 95, 96, 97, 98, 99, 100] (by decide +kernel) (by decide +kernel)
set_option maxRecDepth 20000 in
theorem gX6_kin_X5_leastCode : GoodIn wsX6_kin (wsV RX6 142 RX5 yX5_leastCode wsX5_leastCode) := goodIn_app (goodIn_of _ (by decide +kernel)) ggX6_kin_X5_leastCode
set_option maxRecDepth 20000 in
theorem ggX6_kin_X5_squares : GoodIn wsX6_kin wsX5_squares := goodIn_r _ [50, 9, 92, 93, 94, 95, 96, 97, 98, 99, 100] (by decide +kernel) (by decide +kernel)
set_option maxRecDepth 20000 in
theorem gX6_kin_X5_squares : GoodIn wsX6_kin (wsV RX6 125 RX5 yX5_squares wsX5_squares) := goodIn_app (goodIn_of _ (by decide +kernel)) ggX6_kin_X5_squares
set_option maxRecDepth 20000 in
theorem ggX6_kin_X1_codesFrom : GoodIn wsX6_kin wsX1_codesFrom := goodIn_r _ [55, 56, 57, 58, 59, 60, 61, 54, 62, 35, 33, 36, 32, 34, 63, 64, 65, 6, 66, 9, 46, 41, 67, 68, 69, 70, 71, 72, 37, 38, 39, 40, 42, 43, 44, 45, 73, 74, 75, 76, 77, 78, 4, 5, 7, 8, 10, 11, 12, 13, 14, 15, 16, 17, 18, 19, 20, 21, 22, 23, 24, 25, 26, 27, 28, 29, 30, 31, 79, 80, 81, 82, 83, 84, 85, 86, 101, 102, 103, 92, 93, 94, 95, 96, 97, 98, 99, 100] (by decide +kernel) (by decide +kernel)
set_option maxRecDepth 20000 in
theorem gX6_kin_X1_codesFrom : GoodIn wsX6_kin (wsV RX6 168 RX1 yX1_codesFrom wsX1_codesFrom) := goodIn_app (goodIn_of _ (by decide +kernel)) ggX6_kin_X1_codesFrom
theorem dX6_kin_0 : decode cX6_kin 0 = .ok (.aload_n 0, 1) := by decide +kernel
theorem dX6_kin_1 : decode cX6_kin 1 = .ok (.getfield 33, 3) := by decide +kernel
theorem dX6_kin_4 : decode cX6_kin 4 = .ok (.aload_n 0, 1) := by decide +kernel
theorem dX6_kin_5 : decode cX6_kin 5 = .ok (.getfield 26, 3) := by decide +kernel
theorem dX6_kin_8 : decode cX6_kin 8 = .ok (.invokevirtual 142, 3) := by decide +kernel
theorem dX6_kin_11 : decode cX6_kin 11 = .ok (.aload_n 0, 1) := by decide +kernel
theorem dX6_kin_12 : decode cX6_kin 12 = .ok (.getfield 26, 3) := by decide +kernel
theorem dX6_kin_15 : decode cX6_kin 15 = .ok (.invokevirtual 125, 3) := by decide +kernel
theorem dX6_kin_18 : decode cX6_kin 18 = .ok (.invokevirtual 168, 3) := by decide +kernel
theorem dX6_kin_21 : decode cX6_kin 21 = .ok (.ireturn, 1) := by decide +kernel
set_option maxRecDepth 20000 in
theorem ggX6_interval_X6_checkRange : GoodIn wsX6_interval wsX6_checkRange := goodIn_ca (goodIn_r _ [7, 8, 9] (by decide +kernel) (by decide +kernel)) (goodIn_sub (fun _ h => List.mem_cons_of_mem _ (List.mem_append_right _ h)) (by decide +kernel))
set_option maxRecDepth 20000 in
theorem gX6_interval_X6_checkRange : GoodIn wsX6_interval (va_wsS RX6 121 yX6_checkRange wsX6_checkRange) := goodIn_app (goodIn_of _ (by decide +kernel)) ggX6_interval_X6_checkRange
set_option maxRecDepth 20000 in
theorem ggX6_interval_X0_isFull : GoodIn wsX6_interval wsX0_isFull := goodIn_r _ [14, 15, 30, 31, 32, 33, 34] (by decide +kernel) (by decide +kernel)
set_option maxRecDepth 20000 in
theorem gX6_interval_X0_isFull : GoodIn wsX6_interval (wsV RX6 171 RX0 yX0_isFull wsX0_isFull) := goodIn_app (goodIn_of _ (by decide +kernel)) ggX6_interval_X0_isFull
set_option maxRecDepth 20000 in
theorem ggX6_interval_X0_add : GoodIn wsX6_interval wsX0_add := goodIn_r _ [19, 15, 20, 21, 22, 23, 6, 24, 30, 31, 32, 33, 34] (by decide +kernel) (by decide +kernel)
set_option maxRecDepth 20000 in
theorem gX6_interval_X0_add : GoodIn wsX6_interval (wsV RX6 176 RX0 yX0_add wsX0_add) := goodIn_app (goodIn_of _ (by decide +kernel)) ggX6_interval_X0_add
theorem dX6_interval_0 : decode cX6_interval 0 = .ok (.iload_n 1, 1) := by decide +kernel
theorem dX6_interval_1 : decode cX6_interval 1 = .ok (.iconst 1, 1) := by decide +kernel
theorem dX6_interval_2 : decode cX6_interval 2 = .ok (.bipush 50, 2) := by decide +kernel
theorem dX6_interval_4 : decode cX6_interval 4 = .ok (.invokestatic 121, 3) := by decide +kernel
theorem dX6_interval_7 : decode cX6_interval 7 = .ok (.aload_n 0, 1) := by decide +kernel
theorem dX6_interval_8 : decode cX6_interval 8 = .ok (.getfield 40, 3) := by decide +kernel
theorem dX6_interval_11 : decode cX6_interval 11 = .ok (.invokevirtual 171, 3) := by decide +kernel
theorem dX6_interval_14 : decode cX6_interval 14 = .ok (.ifCond .eq 13, 3) := by decide +kernel
theorem dX6_interval_17 : decode cX6_interval 17 = .ok (.new 97, 3) := by decide +kernel
theorem dX6_interval_20 : decode cX6_interval 20 = .ok (.dup, 1) := by decide +kernel
theorem dX6_interval_21 : decode cX6_interval 21 = .ok (.ldc 174, 2) := by decide +kernel
theorem dX6_interval_23 : decode cX6_interval 23 = .ok (.invokespecial 101, 3) := by decide +kernel
theorem dX6_interval_26 : decode cX6_interval 26 = .ok (.athrow, 1) := by decide +kernel
theorem dX6_interval_27 : decode cX6_interval 27 = .ok (.aload_n 0, 1) := by decide +kernel
theorem dX6_interval_28 : decode cX6_interval 28 = .ok (.getfield 40, 3) := by decide +kernel
theorem dX6_interval_31 : decode cX6_interval 31 = .ok (.iload_n 1, 1) := by decide +kernel
theorem dX6_interval_32 : decode cX6_interval 32 = .ok (.invokevirtual 176, 3) := by decide +kernel
theorem dX6_interval_35 : decode cX6_interval 35 = .ok (.ireturn, 1) := by decide +kernel
set_option maxRecDepth 20000 in
theorem ggX6_swap_X0_intervals : GoodIn wsX6_swap wsX0_intervals := goodIn_r _ [6, 7, 32, 33, 34, 35, 36] (by decide +kernel) (by decide +kernel)
set_option maxRecDepth 20000 in
theorem gX6_swap_X0_intervals : GoodIn wsX6_swap (wsV RX6 178 RX0 yX0_intervals wsX0_intervals) := goodIn_app (goodIn_of _ (by decide +kernel)) ggX6_swap_X0_intervals
set_option maxRecDepth 20000 in
theorem ggX6_swap_X6_checkPlace : GoodIn wsX6_swap wsX6_checkPlace := goodIn_ca (goodIn_r _ [11, 12, 13] (by decide +kernel) (by decide +kernel)) (goodIn_sub (fun _ h => List.mem_cons_of_mem _ (List.mem_append_right _ h)) (by decide +kernel))
set_option maxRecDepth 20000 in
theorem gX6_swap_X6_checkPlace : GoodIn wsX6_swap (va_wsS RX6 132 yX6_checkPlace wsX6_checkPlace) := goodIn_app (goodIn_of _ (by decide +kernel)) ggX6_swap_X6_checkPlace
set_option maxRecDepth 20000 in
theorem ggX6_swap_X0_swapBelow : GoodIn wsX6_swap wsX0_swapBelow := goodIn_r _ [17, 18, 19, 10, 20, 21, 22, 23, 24, 25, 26, 32, 33, 34, 35, 36] (by decide +kernel) (by decide +kernel)
set_option maxRecDepth 20000 in
theorem gX6_swap_X0_swapBelow : GoodIn wsX6_swap (wsV RX6 181 RX0 yX0_swapBelow wsX0_swapBelow) := goodIn_app (goodIn_of _ (by decide +kernel)) ggX6_swap_X0_swapBelow
theorem dX6_swap_0 : decode cX6_swap 0 = .ok (.iload_n 1, 1) := by decide +kernel
theorem dX6_swap_1 : decode cX6_swap 1 = .ok (.aload_n 0, 1) := by decide +kernel
theorem dX6_swap_2 : decode cX6_swap 2 = .ok (.getfield 40, 3) := by decide +kernel
theorem dX6_swap_5 : decode cX6_swap 5 = .ok (.invokevirtual 178, 3) := by decide +kernel
theorem dX6_swap_8 : decode cX6_swap 8 = .ok (.invokestatic 132, 3) := by decide +kernel
theorem dX6_swap_11 : decode cX6_swap 11 = .ok (.iload_n 2, 1) := by decide +kernel
theorem dX6_swap_12 : decode cX6_swap 12 = .ok (.aload_n 0, 1) := by decide +kernel
theorem dX6_swap_13 : decode cX6_swap 13 = .ok (.getfield 40, 3) := by decide +kernel
theorem dX6_swap_16 : decode cX6_swap 16 = .ok (.invokevirtual 178, 3) := by decide +kernel
theorem dX6_swap_19 : decode cX6_swap 19 = .ok (.invokestatic 132, 3) := by decide +kernel
theorem dX6_swap_22 : decode cX6_swap 22 = .ok (.aload_n 0, 1) := by decide +kernel
theorem dX6_swap_23 : decode cX6_swap 23 = .ok (.getfield 40, 3) := by decide +kernel
theorem dX6_swap_26 : decode cX6_swap 26 = .ok (.iload_n 1, 1) := by decide +kernel
theorem dX6_swap_27 : decode cX6_swap 27 = .ok (.iload_n 2, 1) := by decide +kernel
theorem dX6_swap_28 : decode cX6_swap 28 = .ok (.invokevirtual 181, 3) := by decide +kernel
theorem dX6_swap_31 : decode cX6_swap 31 = .ok (.ireturn, 1) := by decide +kernel
set_option maxRecDepth 20000 in
theorem ggX6_induce_X0_canInduce : GoodIn wsX6_induce wsX0_canInduce := goodIn_r _ [8, 9, 10, 11, 12, 13, 14, 15, 38, 39, 40, 41, 42] (by decide +kernel) (by decide +kernel)
set_option maxRecDepth 20000 in
theorem gX6_induce_X0_canInduce : GoodIn wsX6_induce (wsV RX6 184 RX0 yX0_canInduce wsX0_canInduce) := goodIn_app (goodIn_of _ (by decide +kernel)) ggX6_induce_X0_canInduce
set_option maxRecDepth 20000 in
theorem ggX6_induce_X0_induceOnce : GoodIn wsX6_induce wsX0_induceOnce := goodIn_r _ [19, 9, 10, 11, 12, 13, 14, 15, 20, 21, 22, 23, 24, 7, 25, 26, 27, 28, 38, 39, 40, 41, 42] (by decide +kernel) (by decide +kernel)
set_option maxRecDepth 20000 in
theorem gX6_induce_X0_induceOnce : GoodIn wsX6_induce (wsV RX6 189 RX0 yX0_induceOnce wsX0_induceOnce) := goodIn_app (goodIn_of _ (by decide +kernel)) ggX6_induce_X0_induceOnce
set_option maxRecDepth 20000 in
theorem ggX6_induce_X0_points : GoodIn wsX6_induce wsX0_points := goodIn_r _ [32, 10, 12, 13, 14, 15, 38, 39, 40, 41, 42] (by decide +kernel) (by decide +kernel)
set_option maxRecDepth 20000 in
theorem gX6_induce_X0_points : GoodIn wsX6_induce (wsV RX6 192 RX0 yX0_points wsX0_points) := goodIn_app (goodIn_of _ (by decide +kernel)) ggX6_induce_X0_points
theorem dX6_induce_0 : decode cX6_induce 0 = .ok (.aload_n 0, 1) := by decide +kernel
theorem dX6_induce_1 : decode cX6_induce 1 = .ok (.getfield 40, 3) := by decide +kernel
theorem dX6_induce_4 : decode cX6_induce 4 = .ok (.invokevirtual 184, 3) := by decide +kernel
theorem dX6_induce_7 : decode cX6_induce 7 = .ok (.ifCond .ne 13, 3) := by decide +kernel
theorem dX6_induce_10 : decode cX6_induce 10 = .ok (.new 97, 3) := by decide +kernel
theorem dX6_induce_13 : decode cX6_induce 13 = .ok (.dup, 1) := by decide +kernel
theorem dX6_induce_14 : decode cX6_induce 14 = .ok (.ldc 187, 2) := by decide +kernel
theorem dX6_induce_16 : decode cX6_induce 16 = .ok (.invokespecial 101, 3) := by decide +kernel
theorem dX6_induce_19 : decode cX6_induce 19 = .ok (.athrow, 1) := by decide +kernel
theorem dX6_induce_20 : decode cX6_induce 20 = .ok (.aload_n 0, 1) := by decide +kernel
theorem dX6_induce_21 : decode cX6_induce 21 = .ok (.getfield 40, 3) := by decide +kernel
theorem dX6_induce_24 : decode cX6_induce 24 = .ok (.invokevirtual 189, 3) := by decide +kernel
theorem dX6_induce_27 : decode cX6_induce 27 = .ok (.aload_n 0, 1) := by decide +kernel
theorem dX6_induce_28 : decode cX6_induce 28 = .ok (.getfield 40, 3) := by decide +kernel
theorem dX6_induce_31 : decode cX6_induce 31 = .ok (.invokevirtual 192, 3) := by decide +kernel
theorem dX6_induce_34 : decode cX6_induce 34 = .ok (.ireturn, 1) := by decide +kernel
set_option maxRecDepth 20000 in
theorem ggX6_told_X0_intervals : GoodIn wsX6_told wsX0_intervals := goodIn_r _ [6, 7, 41, 42, 43, 44, 45] (by decide +kernel) (by decide +kernel)
set_option maxRecDepth 20000 in
theorem gX6_told_X0_intervals : GoodIn wsX6_told (wsV RX6 178 RX0 yX0_intervals wsX0_intervals) := goodIn_app (goodIn_of _ (by decide +kernel)) ggX6_told_X0_intervals
set_option maxRecDepth 20000 in
theorem ggX6_told_X6_checkPlace : GoodIn wsX6_told wsX6_checkPlace := goodIn_ca (goodIn_r _ [11, 12, 13] (by decide +kernel) (by decide +kernel)) (goodIn_sub (fun _ h => List.mem_cons_of_mem _ (List.mem_append_left _ (List.mem_append_right _ h))) (by decide +kernel))
set_option maxRecDepth 20000 in
theorem gX6_told_X6_checkPlace : GoodIn wsX6_told (va_wsS RX6 132 yX6_checkPlace wsX6_checkPlace) := goodIn_app (goodIn_of _ (by decide +kernel)) ggX6_told_X6_checkPlace
set_option maxRecDepth 20000 in
theorem ggX6_told_X6_checkRange : GoodIn wsX6_told wsX6_checkRange := goodIn_ca (goodIn_r _ [16, 17, 18] (by decide +kernel) (by decide +kernel)) (goodIn_sub (fun _ h => List.mem_cons_of_mem _ (List.mem_append_right _ h)) (by decide +kernel))
set_option maxRecDepth 20000 in
theorem gX6_told_X6_checkRange : GoodIn wsX6_told (va_wsS RX6 121 yX6_checkRange wsX6_checkRange) := goodIn_app (goodIn_of _ (by decide +kernel)) ggX6_told_X6_checkRange
set_option maxRecDepth 20000 in
theorem ggX6_told_X0_aboveAt : GoodIn wsX6_told wsX0_aboveAt := goodIn_r _ [22, 23, 24, 10, 25, 41, 42, 43, 44, 45] (by decide +kernel) (by decide +kernel)
set_option maxRecDepth 20000 in
theorem gX6_told_X0_aboveAt : GoodIn wsX6_told (wsV RX6 195 RX0 yX0_aboveAt wsX0_aboveAt) := goodIn_app (goodIn_of _ (by decide +kernel)) ggX6_told_X0_aboveAt
set_option maxRecDepth 20000 in
theorem ggX6_told_X0_belowAt : GoodIn wsX6_told wsX0_belowAt := goodIn_r _ [29, 30, 24, 10, 25, 41, 42, 43, 44, 45] (by decide +kernel) (by decide +kernel)
set_option maxRecDepth 20000 in
theorem gX6_told_X0_belowAt : GoodIn wsX6_told (wsV RX6 198 RX0 yX0_belowAt wsX0_belowAt) := goodIn_app (goodIn_of _ (by decide +kernel)) ggX6_told_X0_belowAt
set_option maxRecDepth 20000 in
theorem ggX6_told_X0_lengthAt : GoodIn wsX6_told wsX0_lengthAt := goodIn_r _ [34, 35, 23, 24, 10, 25, 41, 42, 43, 44, 45] (by decide +kernel) (by decide +kernel)
set_option maxRecDepth 20000 in
theorem gX6_told_X0_lengthAt : GoodIn wsX6_told (wsV RX6 201 RX0 yX0_lengthAt wsX0_lengthAt) := goodIn_app (goodIn_of _ (by decide +kernel)) ggX6_told_X0_lengthAt
theorem dX6_told_0 : decode cX6_told 0 = .ok (.iload_n 1, 1) := by decide +kernel
theorem dX6_told_1 : decode cX6_told 1 = .ok (.aload_n 0, 1) := by decide +kernel
theorem dX6_told_2 : decode cX6_told 2 = .ok (.getfield 40, 3) := by decide +kernel
theorem dX6_told_5 : decode cX6_told 5 = .ok (.invokevirtual 178, 3) := by decide +kernel
theorem dX6_told_8 : decode cX6_told 8 = .ok (.invokestatic 132, 3) := by decide +kernel
theorem dX6_told_11 : decode cX6_told 11 = .ok (.iload_n 2, 1) := by decide +kernel
theorem dX6_told_12 : decode cX6_told 12 = .ok (.iconst 0, 1) := by decide +kernel
theorem dX6_told_13 : decode cX6_told 13 = .ok (.iconst 2, 1) := by decide +kernel
theorem dX6_told_14 : decode cX6_told 14 = .ok (.invokestatic 121, 3) := by decide +kernel
theorem dX6_told_17 : decode cX6_told 17 = .ok (.iload_n 2, 1) := by decide +kernel
theorem dX6_told_18 : decode cX6_told 18 = .ok (.lookupswitch 44 #[(0, 26), (1, 35)], 26) := by decide +kernel
theorem dX6_told_44 : decode cX6_told 44 = .ok (.aload_n 0, 1) := by decide +kernel
theorem dX6_told_45 : decode cX6_told 45 = .ok (.getfield 40, 3) := by decide +kernel
theorem dX6_told_48 : decode cX6_told 48 = .ok (.iload_n 1, 1) := by decide +kernel
theorem dX6_told_49 : decode cX6_told 49 = .ok (.invokevirtual 195, 3) := by decide +kernel
theorem dX6_told_52 : decode cX6_told 52 = .ok (.ireturn, 1) := by decide +kernel
theorem dX6_told_53 : decode cX6_told 53 = .ok (.aload_n 0, 1) := by decide +kernel
theorem dX6_told_54 : decode cX6_told 54 = .ok (.getfield 40, 3) := by decide +kernel
theorem dX6_told_57 : decode cX6_told 57 = .ok (.iload_n 1, 1) := by decide +kernel
theorem dX6_told_58 : decode cX6_told 58 = .ok (.invokevirtual 198, 3) := by decide +kernel
theorem dX6_told_61 : decode cX6_told 61 = .ok (.ireturn, 1) := by decide +kernel
theorem dX6_told_62 : decode cX6_told 62 = .ok (.aload_n 0, 1) := by decide +kernel
theorem dX6_told_63 : decode cX6_told 63 = .ok (.getfield 40, 3) := by decide +kernel
theorem dX6_told_66 : decode cX6_told 66 = .ok (.iload_n 1, 1) := by decide +kernel
theorem dX6_told_67 : decode cX6_told 67 = .ok (.invokevirtual 201, 3) := by decide +kernel
theorem dX6_told_70 : decode cX6_told 70 = .ok (.ireturn, 1) := by decide +kernel
set_option maxRecDepth 20000 in
theorem ggX6_image_X0_points : GoodIn wsX6_image wsX0_points := goodIn_r _ [6, 7, 8, 9, 10, 11, 36, 37, 38, 39, 40] (by decide +kernel) (by decide +kernel)
set_option maxRecDepth 20000 in
theorem gX6_image_X0_points : GoodIn wsX6_image (wsV RX6 192 RX0 yX0_points wsX0_points) := goodIn_app (goodIn_of _ (by decide +kernel)) ggX6_image_X0_points
set_option maxRecDepth 20000 in
theorem ggX6_image_X6_checkPlace : GoodIn wsX6_image wsX6_checkPlace := goodIn_ca (goodIn_r _ [14, 15, 16] (by decide +kernel) (by decide +kernel)) (goodIn_sub (fun _ h => List.mem_cons_of_mem _ (List.mem_append_right _ h)) (by decide +kernel))
set_option maxRecDepth 20000 in
theorem gX6_image_X6_checkPlace : GoodIn wsX6_image (va_wsS RX6 132 yX6_checkPlace wsX6_checkPlace) := goodIn_app (goodIn_of _ (by decide +kernel)) ggX6_image_X6_checkPlace
set_option maxRecDepth 20000 in
theorem ggX6_image_X0_imageOf : GoodIn wsX6_image wsX0_imageOf := goodIn_r _ [20, 21, 22, 23, 24, 25, 5, 26, 7, 8, 9, 10, 11, 27, 28, 29, 30, 36, 37, 38, 39, 40] (by decide +kernel) (by decide +kernel)
set_option maxRecDepth 20000 in
theorem gX6_image_X0_imageOf : GoodIn wsX6_image (wsV RX6 204 RX0 yX0_imageOf wsX0_imageOf) := goodIn_app (goodIn_of _ (by decide +kernel)) ggX6_image_X0_imageOf
theorem dX6_image_0 : decode cX6_image 0 = .ok (.iload_n 1, 1) := by decide +kernel
theorem dX6_image_1 : decode cX6_image 1 = .ok (.aload_n 0, 1) := by decide +kernel
theorem dX6_image_2 : decode cX6_image 2 = .ok (.getfield 40, 3) := by decide +kernel
theorem dX6_image_5 : decode cX6_image 5 = .ok (.invokevirtual 192, 3) := by decide +kernel
theorem dX6_image_8 : decode cX6_image 8 = .ok (.invokestatic 132, 3) := by decide +kernel
theorem dX6_image_11 : decode cX6_image 11 = .ok (.aload_n 0, 1) := by decide +kernel
theorem dX6_image_12 : decode cX6_image 12 = .ok (.getfield 40, 3) := by decide +kernel
theorem dX6_image_15 : decode cX6_image 15 = .ok (.iload_n 1, 1) := by decide +kernel
theorem dX6_image_16 : decode cX6_image 16 = .ok (.invokevirtual 204, 3) := by decide +kernel
theorem dX6_image_19 : decode cX6_image 19 = .ok (.ireturn, 1) := by decide +kernel
set_option maxRecDepth 20000 in
theorem ggX6_back_X0_points : GoodIn wsX6_back wsX0_points := goodIn_r _ [6, 7, 8, 9, 10, 11, 36, 37, 38, 39, 40] (by decide +kernel) (by decide +kernel)
set_option maxRecDepth 20000 in
theorem gX6_back_X0_points : GoodIn wsX6_back (wsV RX6 192 RX0 yX0_points wsX0_points) := goodIn_app (goodIn_of _ (by decide +kernel)) ggX6_back_X0_points
set_option maxRecDepth 20000 in
theorem ggX6_back_X6_checkPlace : GoodIn wsX6_back wsX6_checkPlace := goodIn_ca (goodIn_r _ [14, 15, 16] (by decide +kernel) (by decide +kernel)) (goodIn_sub (fun _ h => List.mem_cons_of_mem _ (List.mem_append_right _ h)) (by decide +kernel))
set_option maxRecDepth 20000 in
theorem gX6_back_X6_checkPlace : GoodIn wsX6_back (va_wsS RX6 132 yX6_checkPlace wsX6_checkPlace) := goodIn_app (goodIn_of _ (by decide +kernel)) ggX6_back_X6_checkPlace
set_option maxRecDepth 20000 in
theorem ggX6_back_X0_originOf : GoodIn wsX6_back wsX0_originOf := goodIn_r _ [20, 21, 22, 23, 24, 25, 5, 26, 7, 8, 9, 10, 11, 27, 28, 29, 30, 36, 37, 38, 39, 40] (by decide +kernel) (by decide +kernel)
set_option maxRecDepth 20000 in
theorem gX6_back_X0_originOf : GoodIn wsX6_back (wsV RX6 207 RX0 yX0_originOf wsX0_originOf) := goodIn_app (goodIn_of _ (by decide +kernel)) ggX6_back_X0_originOf
theorem dX6_back_0 : decode cX6_back 0 = .ok (.iload_n 1, 1) := by decide +kernel
theorem dX6_back_1 : decode cX6_back 1 = .ok (.aload_n 0, 1) := by decide +kernel
theorem dX6_back_2 : decode cX6_back 2 = .ok (.getfield 40, 3) := by decide +kernel
theorem dX6_back_5 : decode cX6_back 5 = .ok (.invokevirtual 192, 3) := by decide +kernel
theorem dX6_back_8 : decode cX6_back 8 = .ok (.invokestatic 132, 3) := by decide +kernel
theorem dX6_back_11 : decode cX6_back 11 = .ok (.aload_n 0, 1) := by decide +kernel
theorem dX6_back_12 : decode cX6_back 12 = .ok (.getfield 40, 3) := by decide +kernel
theorem dX6_back_15 : decode cX6_back 15 = .ok (.iload_n 1, 1) := by decide +kernel
theorem dX6_back_16 : decode cX6_back 16 = .ok (.invokevirtual 207, 3) := by decide +kernel
theorem dX6_back_19 : decode cX6_back 19 = .ok (.ireturn, 1) := by decide +kernel
set_option maxRecDepth 20000 in
theorem ggX6_cycle_X0_points : GoodIn wsX6_cycle wsX0_points := goodIn_r _ [6, 7, 8, 9, 10, 11, 40, 41, 42, 43, 44] (by decide +kernel) (by decide +kernel)
set_option maxRecDepth 20000 in
theorem gX6_cycle_X0_points : GoodIn wsX6_cycle (wsV RX6 192 RX0 yX0_points wsX0_points) := goodIn_app (goodIn_of _ (by decide +kernel)) ggX6_cycle_X0_points
set_option maxRecDepth 20000 in
theorem ggX6_cycle_X6_checkPlace : GoodIn wsX6_cycle wsX6_checkPlace := goodIn_ca (goodIn_r _ [14, 15, 16] (by decide +kernel) (by decide +kernel)) (goodIn_sub (fun _ h => List.mem_cons_of_mem _ (List.mem_append_right _ h)) (by decide +kernel))
set_option maxRecDepth 20000 in
theorem gX6_cycle_X6_checkPlace : GoodIn wsX6_cycle (va_wsS RX6 132 yX6_checkPlace wsX6_checkPlace) := goodIn_app (goodIn_of _ (by decide +kernel)) ggX6_cycle_X6_checkPlace
set_option maxRecDepth 20000 in
theorem ggX6_cycle_X0_imagesRound : GoodIn wsX6_cycle wsX0_imagesRound := goodIn_r _ [20, 21, 22, 23, 5, 24, 25, 26, 27, 28, 29, 30, 7, 8, 9, 10, 11, 31, 32, 33, 34, 40, 41, 42, 43, 44] (by decide +kernel) (by decide +kernel)
set_option maxRecDepth 20000 in
theorem gX6_cycle_X0_imagesRound : GoodIn wsX6_cycle (wsV RX6 210 RX0 yX0_imagesRound wsX0_imagesRound) := goodIn_app (goodIn_of _ (by decide +kernel)) ggX6_cycle_X0_imagesRound
theorem dX6_cycle_0 : decode cX6_cycle 0 = .ok (.iload_n 1, 1) := by decide +kernel
theorem dX6_cycle_1 : decode cX6_cycle 1 = .ok (.aload_n 0, 1) := by decide +kernel
theorem dX6_cycle_2 : decode cX6_cycle 2 = .ok (.getfield 40, 3) := by decide +kernel
theorem dX6_cycle_5 : decode cX6_cycle 5 = .ok (.invokevirtual 192, 3) := by decide +kernel
theorem dX6_cycle_8 : decode cX6_cycle 8 = .ok (.invokestatic 132, 3) := by decide +kernel
theorem dX6_cycle_11 : decode cX6_cycle 11 = .ok (.aload_n 0, 1) := by decide +kernel
theorem dX6_cycle_12 : decode cX6_cycle 12 = .ok (.getfield 40, 3) := by decide +kernel
theorem dX6_cycle_15 : decode cX6_cycle 15 = .ok (.iload_n 1, 1) := by decide +kernel
theorem dX6_cycle_16 : decode cX6_cycle 16 = .ok (.invokevirtual 210, 3) := by decide +kernel
theorem dX6_cycle_19 : decode cX6_cycle 19 = .ok (.ireturn, 1) := by decide +kernel
set_option maxRecDepth 20000 in
theorem ggX6_cycles_X0_cyclesInAll : GoodIn wsX6_cycles wsX0_cyclesInAll := goodIn_r _ [6, 7, 8, 9, 10, 11, 12, 13, 14, 15, 16, 5, 17, 18, 19, 20, 21, 22, 23, 24, 25, 26, 27, 28, 29, 30, 31, 32, 33, 34, 35, 36, 37, 38, 39, 40, 41, 42, 43, 44, 45, 46, 47, 48, 54, 55, 56, 57, 58, 59] (by decide +kernel) (by decide +kernel)
set_option maxRecDepth 20000 in
theorem gX6_cycles_X0_cyclesInAll : GoodIn wsX6_cycles (wsV RX6 213 RX0 yX0_cyclesInAll wsX0_cyclesInAll) := goodIn_app (goodIn_of _ (by decide +kernel)) ggX6_cycles_X0_cyclesInAll
theorem dX6_cycles_0 : decode cX6_cycles 0 = .ok (.aload_n 0, 1) := by decide +kernel
theorem dX6_cycles_1 : decode cX6_cycles 1 = .ok (.getfield 40, 3) := by decide +kernel
theorem dX6_cycles_4 : decode cX6_cycles 4 = .ok (.invokevirtual 213, 3) := by decide +kernel
theorem dX6_cycles_7 : decode cX6_cycles 7 = .ok (.ireturn, 1) := by decide +kernel
set_option maxRecDepth 20000 in
theorem ggX6_apart_X0_leastApart : GoodIn wsX6_apart wsX0_leastApart := goodIn_r _ [6, 7, 8, 9, 10, 11, 12, 18, 19, 20, 21, 22] (by decide +kernel) (by decide +kernel)
set_option maxRecDepth 20000 in
theorem gX6_apart_X0_leastApart : GoodIn wsX6_apart (wsV RX6 216 RX0 yX0_leastApart wsX0_leastApart) := goodIn_app (goodIn_of _ (by decide +kernel)) ggX6_apart_X0_leastApart
theorem dX6_apart_0 : decode cX6_apart 0 = .ok (.aload_n 0, 1) := by decide +kernel
theorem dX6_apart_1 : decode cX6_apart 1 = .ok (.getfield 40, 3) := by decide +kernel
theorem dX6_apart_4 : decode cX6_apart 4 = .ok (.invokevirtual 216, 3) := by decide +kernel
theorem dX6_apart_7 : decode cX6_apart 7 = .ok (.ireturn, 1) := by decide +kernel
theorem dX6_isCell_0 : decode cX6_isCell 0 = .ok (.iload_n 0, 1) := by decide +kernel
theorem dX6_isCell_1 : decode cX6_isCell 1 = .ok (.ifCond .lt 23, 3) := by decide +kernel
theorem dX6_isCell_4 : decode cX6_isCell 4 = .ok (.iload_n 0, 1) := by decide +kernel
theorem dX6_isCell_5 : decode cX6_isCell 5 = .ok (.bipush 8, 2) := by decide +kernel
theorem dX6_isCell_7 : decode cX6_isCell 7 = .ok (.if_icmp .ge 17, 3) := by decide +kernel
theorem dX6_isCell_10 : decode cX6_isCell 10 = .ok (.iload_n 1, 1) := by decide +kernel
theorem dX6_isCell_11 : decode cX6_isCell 11 = .ok (.ifCond .lt 13, 3) := by decide +kernel
theorem dX6_isCell_14 : decode cX6_isCell 14 = .ok (.iload_n 1, 1) := by decide +kernel
theorem dX6_isCell_15 : decode cX6_isCell 15 = .ok (.bipush 8, 2) := by decide +kernel
theorem dX6_isCell_17 : decode cX6_isCell 17 = .ok (.if_icmp .ge 7, 3) := by decide +kernel
theorem dX6_isCell_20 : decode cX6_isCell 20 = .ok (.iconst 1, 1) := by decide +kernel
theorem dX6_isCell_21 : decode cX6_isCell 21 = .ok (.goto 4, 3) := by decide +kernel
theorem dX6_isCell_24 : decode cX6_isCell 24 = .ok (.iconst 0, 1) := by decide +kernel
theorem dX6_isCell_25 : decode cX6_isCell 25 = .ok (.ireturn, 1) := by decide +kernel
set_option maxRecDepth 20000 in
theorem ggX6_checkCell_X6_isCell : GoodIn wsX6_checkCell wsX6_isCell := goodIn_r _ [6] (by decide +kernel) (by decide +kernel)
set_option maxRecDepth 20000 in
theorem gX6_checkCell_X6_isCell : GoodIn wsX6_checkCell (va_wsS RX6 219 yX6_isCell wsX6_isCell) := goodIn_app (goodIn_of _ (by decide +kernel)) ggX6_checkCell_X6_isCell
theorem dX6_checkCell_0 : decode cX6_checkCell 0 = .ok (.iload_n 0, 1) := by decide +kernel
theorem dX6_checkCell_1 : decode cX6_checkCell 1 = .ok (.iload_n 1, 1) := by decide +kernel
theorem dX6_checkCell_2 : decode cX6_checkCell 2 = .ok (.invokestatic 219, 3) := by decide +kernel
theorem dX6_checkCell_5 : decode cX6_checkCell 5 = .ok (.ifCond .ne 13, 3) := by decide +kernel
theorem dX6_checkCell_8 : decode cX6_checkCell 8 = .ok (.new 222, 3) := by decide +kernel
theorem dX6_checkCell_11 : decode cX6_checkCell 11 = .ok (.dup, 1) := by decide +kernel
theorem dX6_checkCell_12 : decode cX6_checkCell 12 = .ok (.ldc 224, 2) := by decide +kernel
theorem dX6_checkCell_14 : decode cX6_checkCell 14 = .ok (.invokespecial 226, 3) := by decide +kernel
theorem dX6_checkCell_17 : decode cX6_checkCell 17 = .ok (.athrow, 1) := by decide +kernel
theorem dX6_checkCell_18 : decode cX6_checkCell 18 = .ok (.return_, 1) := by decide +kernel
theorem dX6_checkPlace_0 : decode cX6_checkPlace 0 = .ok (.iload_n 0, 1) := by decide +kernel
theorem dX6_checkPlace_1 : decode cX6_checkPlace 1 = .ok (.ifCond .lt 8, 3) := by decide +kernel
theorem dX6_checkPlace_4 : decode cX6_checkPlace 4 = .ok (.iload_n 0, 1) := by decide +kernel
theorem dX6_checkPlace_5 : decode cX6_checkPlace 5 = .ok (.iload_n 1, 1) := by decide +kernel
theorem dX6_checkPlace_6 : decode cX6_checkPlace 6 = .ok (.if_icmp .lt 13, 3) := by decide +kernel
theorem dX6_checkPlace_9 : decode cX6_checkPlace 9 = .ok (.new 222, 3) := by decide +kernel
theorem dX6_checkPlace_12 : decode cX6_checkPlace 12 = .ok (.dup, 1) := by decide +kernel
theorem dX6_checkPlace_13 : decode cX6_checkPlace 13 = .ok (.ldc 227, 2) := by decide +kernel
theorem dX6_checkPlace_15 : decode cX6_checkPlace 15 = .ok (.invokespecial 226, 3) := by decide +kernel
theorem dX6_checkPlace_18 : decode cX6_checkPlace 18 = .ok (.athrow, 1) := by decide +kernel
theorem dX6_checkPlace_19 : decode cX6_checkPlace 19 = .ok (.return_, 1) := by decide +kernel
theorem dX6_checkRange_0 : decode cX6_checkRange 0 = .ok (.iload_n 0, 1) := by decide +kernel
theorem dX6_checkRange_1 : decode cX6_checkRange 1 = .ok (.iload_n 1, 1) := by decide +kernel
theorem dX6_checkRange_2 : decode cX6_checkRange 2 = .ok (.if_icmp .lt 8, 3) := by decide +kernel
theorem dX6_checkRange_5 : decode cX6_checkRange 5 = .ok (.iload_n 0, 1) := by decide +kernel
theorem dX6_checkRange_6 : decode cX6_checkRange 6 = .ok (.iload_n 2, 1) := by decide +kernel
theorem dX6_checkRange_7 : decode cX6_checkRange 7 = .ok (.if_icmp .le 13, 3) := by decide +kernel
theorem dX6_checkRange_10 : decode cX6_checkRange 10 = .ok (.new 229, 3) := by decide +kernel
theorem dX6_checkRange_13 : decode cX6_checkRange 13 = .ok (.dup, 1) := by decide +kernel
theorem dX6_checkRange_14 : decode cX6_checkRange 14 = .ok (.ldc 231, 2) := by decide +kernel
theorem dX6_checkRange_16 : decode cX6_checkRange 16 = .ok (.invokespecial 233, 3) := by decide +kernel
theorem dX6_checkRange_19 : decode cX6_checkRange 19 = .ok (.athrow, 1) := by decide +kernel
theorem dX6_checkRange_20 : decode cX6_checkRange 20 = .ok (.return_, 1) := by decide +kernel
set_option maxRecDepth 20000 in
theorem ggX6_checkShot_X6_checkCell : GoodIn wsX6_checkShot wsX6_checkCell := goodIn_ca (goodIn_r _ [7, 8, 9, 10, 11, 6, 12] (by decide +kernel) (by decide +kernel)) (goodIn_sub (fun _ h => List.mem_cons_of_mem _ (List.mem_append_left _ (List.mem_append_right _ h))) (by decide +kernel))
set_option maxRecDepth 20000 in
theorem gX6_checkShot_X6_checkCell : GoodIn wsX6_checkShot (va_wsS RX6 44 yX6_checkCell wsX6_checkCell) := goodIn_app (goodIn_of _ (by decide +kernel)) ggX6_checkShot_X6_checkCell
set_option maxRecDepth 20000 in
theorem ggX6_checkShot_X6_checkRange : GoodIn wsX6_checkShot wsX6_checkRange := goodIn_ca (goodIn_r _ [15, 16, 17] (by decide +kernel) (by decide +kernel)) (goodIn_sub (fun _ h => List.mem_cons_of_mem _ (List.mem_append_right _ h)) (by decide +kernel))
set_option maxRecDepth 20000 in
theorem gX6_checkShot_X6_checkRange : GoodIn wsX6_checkShot (va_wsS RX6 121 yX6_checkRange wsX6_checkRange) := goodIn_app (goodIn_of _ (by decide +kernel)) ggX6_checkShot_X6_checkRange
set_option maxRecDepth 20000 in
theorem ggX6_checkShot_X4_isBlock : GoodIn wsX6_checkShot wsX4_isBlock := goodIn_r _ [22, 23, 11, 6, 12, 29, 30] (by decide +kernel) (by decide +kernel)
set_option maxRecDepth 20000 in
theorem gX6_checkShot_X4_isBlock : GoodIn wsX6_checkShot (wsV RX6 48 RX4 yX4_isBlock wsX4_isBlock) := goodIn_app (goodIn_of _ (by decide +kernel)) ggX6_checkShot_X4_isBlock
theorem dX6_checkShot_0 : decode cX6_checkShot 0 = .ok (.iload_n 1, 1) := by decide +kernel
theorem dX6_checkShot_1 : decode cX6_checkShot 1 = .ok (.iload_n 2, 1) := by decide +kernel
theorem dX6_checkShot_2 : decode cX6_checkShot 2 = .ok (.invokestatic 44, 3) := by decide +kernel
theorem dX6_checkShot_5 : decode cX6_checkShot 5 = .ok (.iload_n 3, 1) := by decide +kernel
theorem dX6_checkShot_6 : decode cX6_checkShot 6 = .ok (.iconst 0, 1) := by decide +kernel
theorem dX6_checkShot_7 : decode cX6_checkShot 7 = .ok (.iconst 3, 1) := by decide +kernel
theorem dX6_checkShot_8 : decode cX6_checkShot 8 = .ok (.invokestatic 121, 3) := by decide +kernel
theorem dX6_checkShot_11 : decode cX6_checkShot 11 = .ok (.iload 4, 2) := by decide +kernel
theorem dX6_checkShot_13 : decode cX6_checkShot 13 = .ok (.iconst 0, 1) := by decide +kernel
theorem dX6_checkShot_14 : decode cX6_checkShot 14 = .ok (.iload 5, 2) := by decide +kernel
theorem dX6_checkShot_16 : decode cX6_checkShot 16 = .ok (.invokestatic 121, 3) := by decide +kernel
theorem dX6_checkShot_19 : decode cX6_checkShot 19 = .ok (.aload_n 0, 1) := by decide +kernel
theorem dX6_checkShot_20 : decode cX6_checkShot 20 = .ok (.getfield 10, 3) := by decide +kernel
theorem dX6_checkShot_23 : decode cX6_checkShot 23 = .ok (.iload_n 1, 1) := by decide +kernel
theorem dX6_checkShot_24 : decode cX6_checkShot 24 = .ok (.iload_n 2, 1) := by decide +kernel
theorem dX6_checkShot_25 : decode cX6_checkShot 25 = .ok (.invokevirtual 48, 3) := by decide +kernel
theorem dX6_checkShot_28 : decode cX6_checkShot 28 = .ok (.ifCond .eq 13, 3) := by decide +kernel
theorem dX6_checkShot_31 : decode cX6_checkShot 31 = .ok (.new 97, 3) := by decide +kernel
theorem dX6_checkShot_34 : decode cX6_checkShot 34 = .ok (.dup, 1) := by decide +kernel
theorem dX6_checkShot_35 : decode cX6_checkShot 35 = .ok (.ldc 234, 2) := by decide +kernel
theorem dX6_checkShot_37 : decode cX6_checkShot 37 = .ok (.invokespecial 101, 3) := by decide +kernel
theorem dX6_checkShot_40 : decode cX6_checkShot 40 = .ok (.athrow, 1) := by decide +kernel
theorem dX6_checkShot_41 : decode cX6_checkShot 41 = .ok (.return_, 1) := by decide +kernel
theorem dX6_at_0 : decode cX6_at 0 = .ok (.iload_n 1, 1) := by decide +kernel
theorem dX6_at_1 : decode cX6_at 1 = .ok (.ifCond .lt 15, 3) := by decide +kernel
theorem dX6_at_4 : decode cX6_at 4 = .ok (.iload_n 1, 1) := by decide +kernel
theorem dX6_at_5 : decode cX6_at 5 = .ok (.aload_n 0, 1) := by decide +kernel
theorem dX6_at_6 : decode cX6_at 6 = .ok (.arraylength, 1) := by decide +kernel
theorem dX6_at_7 : decode cX6_at 7 = .ok (.if_icmp .ge 9, 3) := by decide +kernel
theorem dX6_at_10 : decode cX6_at 10 = .ok (.aload_n 0, 1) := by decide +kernel
theorem dX6_at_11 : decode cX6_at 11 = .ok (.iload_n 1, 1) := by decide +kernel
theorem dX6_at_12 : decode cX6_at 12 = .ok (.iaload, 1) := by decide +kernel
theorem dX6_at_13 : decode cX6_at 13 = .ok (.goto 4, 3) := by decide +kernel
theorem dX6_at_16 : decode cX6_at 16 = .ok (.iconst 0, 1) := by decide +kernel
theorem dX6_at_17 : decode cX6_at 17 = .ok (.ireturn, 1) := by decide +kernel
theorem dX6_put_0 : decode cX6_put 0 = .ok (.iload_n 1, 1) := by decide +kernel
theorem dX6_put_1 : decode cX6_put 1 = .ok (.ifCond .lt 13, 3) := by decide +kernel
theorem dX6_put_4 : decode cX6_put 4 = .ok (.iload_n 1, 1) := by decide +kernel
theorem dX6_put_5 : decode cX6_put 5 = .ok (.aload_n 0, 1) := by decide +kernel
theorem dX6_put_6 : decode cX6_put 6 = .ok (.arraylength, 1) := by decide +kernel
theorem dX6_put_7 : decode cX6_put 7 = .ok (.if_icmp .ge 7, 3) := by decide +kernel
theorem dX6_put_10 : decode cX6_put 10 = .ok (.aload_n 0, 1) := by decide +kernel
theorem dX6_put_11 : decode cX6_put 11 = .ok (.iload_n 1, 1) := by decide +kernel
theorem dX6_put_12 : decode cX6_put 12 = .ok (.iload_n 2, 1) := by decide +kernel
theorem dX6_put_13 : decode cX6_put 13 = .ok (.iastore, 1) := by decide +kernel
theorem dX6_put_14 : decode cX6_put 14 = .ok (.return_, 1) := by decide +kernel
set_option maxRecDepth 20000 in
theorem ggX6_exchangeIn_X6_at : GoodIn wsX6_exchangeIn wsX6_at := goodIn_r _ [4] (by decide +kernel) (by decide +kernel)
set_option maxRecDepth 20000 in
theorem gX6_exchangeIn_X6_at : GoodIn wsX6_exchangeIn (va_wsS RX6 236 yX6_at wsX6_at) := goodIn_app (goodIn_of _ (by decide +kernel)) ggX6_exchangeIn_X6_at
set_option maxRecDepth 20000 in
theorem ggX6_exchangeIn_X6_put : GoodIn wsX6_exchangeIn wsX6_put := goodIn_r _ [7] (by decide +kernel) (by decide +kernel)
set_option maxRecDepth 20000 in
theorem gX6_exchangeIn_X6_put : GoodIn wsX6_exchangeIn (va_wsS RX6 240 yX6_put wsX6_put) := goodIn_app (goodIn_of _ (by decide +kernel)) ggX6_exchangeIn_X6_put
theorem dX6_exchangeIn_0 : decode cX6_exchangeIn 0 = .ok (.aload_n 0, 1) := by decide +kernel
theorem dX6_exchangeIn_1 : decode cX6_exchangeIn 1 = .ok (.iload_n 1, 1) := by decide +kernel
theorem dX6_exchangeIn_2 : decode cX6_exchangeIn 2 = .ok (.invokestatic 236, 3) := by decide +kernel
theorem dX6_exchangeIn_5 : decode cX6_exchangeIn 5 = .ok (.istore_n 3, 1) := by decide +kernel
theorem dX6_exchangeIn_6 : decode cX6_exchangeIn 6 = .ok (.aload_n 0, 1) := by decide +kernel
theorem dX6_exchangeIn_7 : decode cX6_exchangeIn 7 = .ok (.iload_n 1, 1) := by decide +kernel
theorem dX6_exchangeIn_8 : decode cX6_exchangeIn 8 = .ok (.aload_n 0, 1) := by decide +kernel
theorem dX6_exchangeIn_9 : decode cX6_exchangeIn 9 = .ok (.iload_n 2, 1) := by decide +kernel
theorem dX6_exchangeIn_10 : decode cX6_exchangeIn 10 = .ok (.invokestatic 236, 3) := by decide +kernel
theorem dX6_exchangeIn_13 : decode cX6_exchangeIn 13 = .ok (.invokestatic 240, 3) := by decide +kernel
theorem dX6_exchangeIn_16 : decode cX6_exchangeIn 16 = .ok (.aload_n 0, 1) := by decide +kernel
theorem dX6_exchangeIn_17 : decode cX6_exchangeIn 17 = .ok (.iload_n 2, 1) := by decide +kernel
theorem dX6_exchangeIn_18 : decode cX6_exchangeIn 18 = .ok (.iload_n 3, 1) := by decide +kernel
theorem dX6_exchangeIn_19 : decode cX6_exchangeIn 19 = .ok (.invokestatic 240, 3) := by decide +kernel
theorem dX6_exchangeIn_22 : decode cX6_exchangeIn 22 = .ok (.return_, 1) := by decide +kernel
set_option maxRecDepth 20000 in
theorem ggX6_placeOf_X6_at : GoodIn wsX6_placeOf wsX6_at := goodIn_r _ [4] (by decide +kernel) (by decide +kernel)
set_option maxRecDepth 20000 in
theorem gX6_placeOf_X6_at : GoodIn wsX6_placeOf (va_wsS RX6 236 yX6_at wsX6_at) := goodIn_app (goodIn_of _ (by decide +kernel)) ggX6_placeOf_X6_at
theorem dX6_placeOf_0 : decode cX6_placeOf 0 = .ok (.iconst 0, 1) := by decide +kernel
theorem dX6_placeOf_1 : decode cX6_placeOf 1 = .ok (.istore_n 3, 1) := by decide +kernel
theorem dX6_placeOf_2 : decode cX6_placeOf 2 = .ok (.iload_n 3, 1) := by decide +kernel
theorem dX6_placeOf_3 : decode cX6_placeOf 3 = .ok (.iload_n 1, 1) := by decide +kernel
theorem dX6_placeOf_4 : decode cX6_placeOf 4 = .ok (.if_icmp .ge 20, 3) := by decide +kernel
theorem dX6_placeOf_7 : decode cX6_placeOf 7 = .ok (.aload_n 0, 1) := by decide +kernel
theorem dX6_placeOf_8 : decode cX6_placeOf 8 = .ok (.iload_n 3, 1) := by decide +kernel
theorem dX6_placeOf_9 : decode cX6_placeOf 9 = .ok (.invokestatic 236, 3) := by decide +kernel
theorem dX6_placeOf_12 : decode cX6_placeOf 12 = .ok (.iload_n 2, 1) := by decide +kernel
theorem dX6_placeOf_13 : decode cX6_placeOf 13 = .ok (.if_icmp .ne 5, 3) := by decide +kernel
theorem dX6_placeOf_16 : decode cX6_placeOf 16 = .ok (.iload_n 3, 1) := by decide +kernel
theorem dX6_placeOf_17 : decode cX6_placeOf 17 = .ok (.ireturn, 1) := by decide +kernel
theorem dX6_placeOf_18 : decode cX6_placeOf 18 = .ok (.iinc 3 1, 3) := by decide +kernel
theorem dX6_placeOf_21 : decode cX6_placeOf 21 = .ok (.goto (-19), 3) := by decide +kernel
theorem dX6_placeOf_24 : decode cX6_placeOf 24 = .ok (.iconst 0, 1) := by decide +kernel
theorem dX6_placeOf_25 : decode cX6_placeOf 25 = .ok (.ireturn, 1) := by decide +kernel
theorem dJ6_compare_7cf53_0 : decode cJ6_compare_7cf53 0 = .ok (.iload_n 0, 1) := by decide +kernel
theorem dJ6_compare_7cf53_1 : decode cJ6_compare_7cf53 1 = .ok (.iload_n 1, 1) := by decide +kernel
theorem dJ6_compare_7cf53_2 : decode cJ6_compare_7cf53 2 = .ok (.if_icmp .ge 7, 3) := by decide +kernel
theorem dJ6_compare_7cf53_5 : decode cJ6_compare_7cf53 5 = .ok (.iconst (-1), 1) := by decide +kernel
theorem dJ6_compare_7cf53_6 : decode cJ6_compare_7cf53 6 = .ok (.goto 13, 3) := by decide +kernel
theorem dJ6_compare_7cf53_9 : decode cJ6_compare_7cf53 9 = .ok (.iload_n 0, 1) := by decide +kernel
theorem dJ6_compare_7cf53_10 : decode cJ6_compare_7cf53 10 = .ok (.iload_n 1, 1) := by decide +kernel
theorem dJ6_compare_7cf53_11 : decode cJ6_compare_7cf53 11 = .ok (.if_icmp .ne 7, 3) := by decide +kernel
theorem dJ6_compare_7cf53_14 : decode cJ6_compare_7cf53 14 = .ok (.iconst 0, 1) := by decide +kernel
theorem dJ6_compare_7cf53_15 : decode cJ6_compare_7cf53 15 = .ok (.goto 4, 3) := by decide +kernel
theorem dJ6_compare_7cf53_18 : decode cJ6_compare_7cf53 18 = .ok (.iconst 1, 1) := by decide +kernel
theorem dJ6_compare_7cf53_19 : decode cJ6_compare_7cf53 19 = .ok (.ireturn, 1) := by decide +kernel
theorem dJ6_bitCount_0f7a4_0 : decode cJ6_bitCount_0f7a4 0 = .ok (.iload_n 0, 1) := by decide +kernel
theorem dJ6_bitCount_0f7a4_1 : decode cJ6_bitCount_0f7a4 1 = .ok (.iload_n 0, 1) := by decide +kernel
theorem dJ6_bitCount_0f7a4_2 : decode cJ6_bitCount_0f7a4 2 = .ok (.iconst 1, 1) := by decide +kernel
theorem dJ6_bitCount_0f7a4_3 : decode cJ6_bitCount_0f7a4 3 = .ok (.iushr, 1) := by decide +kernel
theorem dJ6_bitCount_0f7a4_4 : decode cJ6_bitCount_0f7a4 4 = .ok (.ldc_w 265, 3) := by decide +kernel
theorem dJ6_bitCount_0f7a4_7 : decode cJ6_bitCount_0f7a4 7 = .ok (.iand, 1) := by decide +kernel
theorem dJ6_bitCount_0f7a4_8 : decode cJ6_bitCount_0f7a4 8 = .ok (.isub, 1) := by decide +kernel
theorem dJ6_bitCount_0f7a4_9 : decode cJ6_bitCount_0f7a4 9 = .ok (.istore_n 0, 1) := by decide +kernel
theorem dJ6_bitCount_0f7a4_10 : decode cJ6_bitCount_0f7a4 10 = .ok (.iload_n 0, 1) := by decide +kernel
theorem dJ6_bitCount_0f7a4_11 : decode cJ6_bitCount_0f7a4 11 = .ok (.ldc_w 266, 3) := by decide +kernel
theorem dJ6_bitCount_0f7a4_14 : decode cJ6_bitCount_0f7a4 14 = .ok (.iand, 1) := by decide +kernel
theorem dJ6_bitCount_0f7a4_15 : decode cJ6_bitCount_0f7a4 15 = .ok (.iload_n 0, 1) := by decide +kernel
theorem dJ6_bitCount_0f7a4_16 : decode cJ6_bitCount_0f7a4 16 = .ok (.iconst 2, 1) := by decide +kernel
theorem dJ6_bitCount_0f7a4_17 : decode cJ6_bitCount_0f7a4 17 = .ok (.iushr, 1) := by decide +kernel
theorem dJ6_bitCount_0f7a4_18 : decode cJ6_bitCount_0f7a4 18 = .ok (.ldc_w 266, 3) := by decide +kernel
theorem dJ6_bitCount_0f7a4_21 : decode cJ6_bitCount_0f7a4 21 = .ok (.iand, 1) := by decide +kernel
theorem dJ6_bitCount_0f7a4_22 : decode cJ6_bitCount_0f7a4 22 = .ok (.iadd, 1) := by decide +kernel
theorem dJ6_bitCount_0f7a4_23 : decode cJ6_bitCount_0f7a4 23 = .ok (.istore_n 0, 1) := by decide +kernel
theorem dJ6_bitCount_0f7a4_24 : decode cJ6_bitCount_0f7a4 24 = .ok (.iload_n 0, 1) := by decide +kernel
