theorem dX7_square_105 : decode cX7_square 105 = .ok (.ireturn, 1) := by decide +kernel
theorem dX7_square_106 : decode cX7_square 106 = .ok (.aload_n 0, 1) := by decide +kernel
theorem dX7_square_107 : decode cX7_square 107 = .ok (.iload_n 1, 1) := by decide +kernel
theorem dX7_square_108 : decode cX7_square 108 = .ok (.invokevirtual 158, 3) := by decide +kernel
theorem dX7_square_111 : decode cX7_square 111 = .ok (.ireturn, 1) := by decide +kernel
theorem dX7_square_112 : decode cX7_square 112 = .ok (.aload_n 0, 1) := by decide +kernel
theorem dX7_square_113 : decode cX7_square 113 = .ok (.invokevirtual 170, 3) := by decide +kernel
theorem dX7_square_116 : decode cX7_square 116 = .ok (.aload_n 0, 1) := by decide +kernel
theorem dX7_square_117 : decode cX7_square 117 = .ok (.iload_n 1, 1) := by decide +kernel
theorem dX7_square_118 : decode cX7_square 118 = .ok (.invokevirtual 199, 3) := by decide +kernel
theorem dX7_square_121 : decode cX7_square 121 = .ok (.ireturn, 1) := by decide +kernel
theorem dX7_square_122 : decode cX7_square 122 = .ok (.aload_n 0, 1) := by decide +kernel
theorem dX7_square_123 : decode cX7_square 123 = .ok (.iload_n 1, 1) := by decide +kernel
theorem dX7_square_124 : decode cX7_square 124 = .ok (.invokevirtual 202, 3) := by decide +kernel
theorem dX7_square_127 : decode cX7_square 127 = .ok (.ireturn, 1) := by decide +kernel
set_option maxRecDepth 20000 in
theorem ggX7_count_X7_in : GoodIn wsX7_count wsX7_in := goodIn_r _ [6] (by decide +kernel) (by decide +kernel)
set_option maxRecDepth 20000 in
theorem gX7_count_X7_in : GoodIn wsX7_count (va_wsS RX7 63 yX7_in wsX7_in) := goodIn_app (goodIn_of _ (by decide +kernel)) ggX7_count_X7_in
set_option maxRecDepth 20000 in
theorem ggX7_count_X7_cones : GoodIn wsX7_count wsX7_cones := goodIn_r _ [10, 2, 11, 12, 13, 5, 14, 15, 16, 17, 18, 19, 20, 21, 22, 23, 24, 25, 26, 27, 28, 29, 30, 31, 32, 33, 34, 35, 36, 37, 62, 63, 64, 65, 66, 67, 68, 69, 70, 71, 72, 73, 74, 75, 76, 77, 78, 79, 80, 81] (by decide +kernel) (by decide +kernel)
set_option maxRecDepth 20000 in
theorem gX7_count_X7_cones : GoodIn wsX7_count (wsV RX7 205 RX7 yX7_cones wsX7_cones) := goodIn_app (goodIn_of _ (by decide +kernel)) ggX7_count_X7_cones
set_option maxRecDepth 20000 in
theorem ggX7_count_X7_pieces : GoodIn wsX7_count wsX7_pieces := goodIn_r _ [41, 42, 43, 44, 5, 45, 2, 21, 20, 11, 12, 13, 14, 15, 30, 31, 32, 33, 34, 35, 36, 37, 62, 63, 64, 65, 66, 67, 68, 69, 70, 71, 72, 73, 74, 75, 76, 77, 78, 79, 80, 81] (by decide +kernel) (by decide +kernel)
set_option maxRecDepth 20000 in
theorem gX7_count_X7_pieces : GoodIn wsX7_count (wsV RX7 208 RX7 yX7_pieces wsX7_pieces) := goodIn_app (goodIn_of _ (by decide +kernel)) ggX7_count_X7_pieces
set_option maxRecDepth 20000 in
theorem ggX7_count_X7_findsRows : GoodIn wsX7_count wsX7_findsRows := goodIn_r _ [49, 2, 21, 11, 12, 13, 5, 14, 15, 30, 31, 32, 33, 62, 63, 64, 65, 66, 67, 68, 69, 70, 71, 72, 73, 74, 75, 76, 77, 78, 79, 80, 81] (by decide +kernel) (by decide +kernel)
set_option maxRecDepth 20000 in
theorem gX7_count_X7_findsRows : GoodIn wsX7_count (wsV RX7 161 RX7 yX7_findsRows wsX7_findsRows) := goodIn_app (goodIn_of _ (by decide +kernel)) ggX7_count_X7_findsRows
set_option maxRecDepth 20000 in
theorem ggX7_count_X7_manyParts : GoodIn wsX7_count wsX7_manyParts := goodIn_r _ [37, 2, 15, 62, 63, 64, 65, 66, 67, 68, 69, 70, 71, 72, 73, 74, 75, 76, 77, 78, 79, 80, 81] (by decide +kernel) (by decide +kernel)
set_option maxRecDepth 20000 in
theorem gX7_count_X7_manyParts : GoodIn wsX7_count (wsV RX7 167 RX7 yX7_manyParts wsX7_manyParts) := goodIn_app (goodIn_of _ (by decide +kernel)) ggX7_count_X7_manyParts
set_option maxRecDepth 20000 in
theorem ggX7_count_X7_findsCylinders : GoodIn wsX7_count wsX7_findsCylinders := goodIn_r _ [53, 2, 20, 46, 47, 48, 5, 49, 21, 11, 12, 13, 14, 15, 30, 31, 32, 33, 54, 55, 56, 57, 58, 59, 60, 61, 16, 17, 18, 19, 22, 23, 24, 25, 26, 27, 28, 29, 62, 63, 64, 65, 66, 67, 68, 69, 70, 71, 72, 73, 74, 75, 76, 77, 78, 79, 80, 81] (by decide +kernel) (by decide +kernel)
set_option maxRecDepth 20000 in
theorem gX7_count_X7_findsCylinders : GoodIn wsX7_count (wsV RX7 211 RX7 yX7_findsCylinders wsX7_findsCylinders) := goodIn_app (goodIn_of _ (by decide +kernel)) ggX7_count_X7_findsCylinders
theorem dX7_count_0 : decode cX7_count 0 = .ok (.aload_n 0, 1) := by decide +kernel
theorem dX7_count_1 : decode cX7_count 1 = .ok (.iload_n 1, 1) := by decide +kernel
theorem dX7_count_2 : decode cX7_count 2 = .ok (.iconst 0, 1) := by decide +kernel
theorem dX7_count_3 : decode cX7_count 3 = .ok (.iconst 4, 1) := by decide +kernel
theorem dX7_count_4 : decode cX7_count 4 = .ok (.invokestatic 63, 3) := by decide +kernel
theorem dX7_count_7 : decode cX7_count 7 = .ok (.ifCond .eq 7, 3) := by decide +kernel
theorem dX7_count_10 : decode cX7_count 10 = .ok (.iconst 0, 1) := by decide +kernel
theorem dX7_count_11 : decode cX7_count 11 = .ok (.goto 4, 3) := by decide +kernel
theorem dX7_count_14 : decode cX7_count 14 = .ok (.iconst 1, 1) := by decide +kernel
theorem dX7_count_15 : decode cX7_count 15 = .ok (.putfield 60, 3) := by decide +kernel
theorem dX7_count_18 : decode cX7_count 18 = .ok (.aload_n 0, 1) := by decide +kernel
theorem dX7_count_19 : decode cX7_count 19 = .ok (.getfield 60, 3) := by decide +kernel
theorem dX7_count_22 : decode cX7_count 22 = .ok (.ifCond .le 5, 3) := by decide +kernel
theorem dX7_count_25 : decode cX7_count 25 = .ok (.iconst 0, 1) := by decide +kernel
theorem dX7_count_26 : decode cX7_count 26 = .ok (.ireturn, 1) := by decide +kernel
theorem dX7_count_27 : decode cX7_count 27 = .ok (.iload_n 1, 1) := by decide +kernel
theorem dX7_count_28 : decode cX7_count 28 = .ok (.tableswitch 56 0 3 #[32, 37, 42, 47], 32) := by decide +kernel
theorem dX7_count_60 : decode cX7_count 60 = .ok (.aload_n 0, 1) := by decide +kernel
theorem dX7_count_61 : decode cX7_count 61 = .ok (.getfield 23, 3) := by decide +kernel
theorem dX7_count_64 : decode cX7_count 64 = .ok (.ireturn, 1) := by decide +kernel
theorem dX7_count_65 : decode cX7_count 65 = .ok (.aload_n 0, 1) := by decide +kernel
theorem dX7_count_66 : decode cX7_count 66 = .ok (.invokevirtual 205, 3) := by decide +kernel
theorem dX7_count_69 : decode cX7_count 69 = .ok (.ireturn, 1) := by decide +kernel
theorem dX7_count_70 : decode cX7_count 70 = .ok (.aload_n 0, 1) := by decide +kernel
theorem dX7_count_71 : decode cX7_count 71 = .ok (.invokevirtual 208, 3) := by decide +kernel
theorem dX7_count_74 : decode cX7_count 74 = .ok (.ireturn, 1) := by decide +kernel
theorem dX7_count_75 : decode cX7_count 75 = .ok (.aload_n 0, 1) := by decide +kernel
theorem dX7_count_76 : decode cX7_count 76 = .ok (.invokevirtual 161, 3) := by decide +kernel
theorem dX7_count_79 : decode cX7_count 79 = .ok (.aload_n 0, 1) := by decide +kernel
theorem dX7_count_80 : decode cX7_count 80 = .ok (.invokevirtual 167, 3) := by decide +kernel
theorem dX7_count_83 : decode cX7_count 83 = .ok (.ireturn, 1) := by decide +kernel
theorem dX7_count_84 : decode cX7_count 84 = .ok (.aload_n 0, 1) := by decide +kernel
theorem dX7_count_85 : decode cX7_count 85 = .ok (.invokevirtual 211, 3) := by decide +kernel
theorem dX7_count_88 : decode cX7_count 88 = .ok (.aload_n 0, 1) := by decide +kernel
theorem dX7_count_89 : decode cX7_count 89 = .ok (.invokevirtual 167, 3) := by decide +kernel
theorem dX7_count_92 : decode cX7_count 92 = .ok (.ireturn, 1) := by decide +kernel
set_option maxRecDepth 20000 in
theorem ggX7_genus_X7_pieces : GoodIn wsX7_genus wsX7_pieces := goodIn_r _ [7, 8, 9, 10, 6, 11, 2, 12, 13, 14, 15, 16, 17, 18, 19, 20, 21, 22, 23, 24, 25, 26, 43, 44, 45, 46, 47, 48, 49, 50, 51, 52, 53, 54, 55, 56, 57, 58, 59, 60, 61, 62] (by decide +kernel) (by decide +kernel)
set_option maxRecDepth 20000 in
theorem gX7_genus_X7_pieces : GoodIn wsX7_genus (wsV RX7 208 RX7 yX7_pieces wsX7_pieces) := goodIn_app (goodIn_of _ (by decide +kernel)) ggX7_genus_X7_pieces
set_option maxRecDepth 20000 in
theorem ggX7_genus_X7_cones : GoodIn wsX7_genus wsX7_cones := goodIn_r _ [30, 2, 14, 15, 16, 6, 17, 18, 31, 32, 33, 34, 13, 12, 35, 36, 37, 38, 39, 40, 41, 42, 19, 20, 21, 22, 23, 24, 25, 26, 43, 44, 45, 46, 47, 48, 49, 50, 51, 52, 53, 54, 55, 56, 57, 58, 59, 60, 61, 62] (by decide +kernel) (by decide +kernel)
set_option maxRecDepth 20000 in
theorem gX7_genus_X7_cones : GoodIn wsX7_genus (wsV RX7 205 RX7 yX7_cones wsX7_cones) := goodIn_app (goodIn_of _ (by decide +kernel)) ggX7_genus_X7_cones
theorem dX7_genus_0 : decode cX7_genus 0 = .ok (.aload_n 0, 1) := by decide +kernel
theorem dX7_genus_1 : decode cX7_genus 1 = .ok (.aload_n 0, 1) := by decide +kernel
theorem dX7_genus_2 : decode cX7_genus 2 = .ok (.invokevirtual 208, 3) := by decide +kernel
theorem dX7_genus_5 : decode cX7_genus 5 = .ok (.iconst 1, 1) := by decide +kernel
theorem dX7_genus_6 : decode cX7_genus 6 = .ok (.if_icmp .le 7, 3) := by decide +kernel
theorem dX7_genus_9 : decode cX7_genus 9 = .ok (.iconst 1, 1) := by decide +kernel
theorem dX7_genus_10 : decode cX7_genus 10 = .ok (.goto 4, 3) := by decide +kernel
theorem dX7_genus_13 : decode cX7_genus 13 = .ok (.iconst 0, 1) := by decide +kernel
theorem dX7_genus_14 : decode cX7_genus 14 = .ok (.putfield 60, 3) := by decide +kernel
theorem dX7_genus_17 : decode cX7_genus 17 = .ok (.aload_n 0, 1) := by decide +kernel
theorem dX7_genus_18 : decode cX7_genus 18 = .ok (.getfield 60, 3) := by decide +kernel
theorem dX7_genus_21 : decode cX7_genus 21 = .ok (.ifCond .le 7, 3) := by decide +kernel
theorem dX7_genus_24 : decode cX7_genus 24 = .ok (.iconst 0, 1) := by decide +kernel
theorem dX7_genus_25 : decode cX7_genus 25 = .ok (.goto 16, 3) := by decide +kernel
theorem dX7_genus_28 : decode cX7_genus 28 = .ok (.iconst 1, 1) := by decide +kernel
theorem dX7_genus_29 : decode cX7_genus 29 = .ok (.aload_n 0, 1) := by decide +kernel
theorem dX7_genus_30 : decode cX7_genus 30 = .ok (.getfield 23, 3) := by decide +kernel
theorem dX7_genus_33 : decode cX7_genus 33 = .ok (.aload_n 0, 1) := by decide +kernel
theorem dX7_genus_34 : decode cX7_genus 34 = .ok (.invokevirtual 205, 3) := by decide +kernel
theorem dX7_genus_37 : decode cX7_genus 37 = .ok (.isub, 1) := by decide +kernel
theorem dX7_genus_38 : decode cX7_genus 38 = .ok (.iconst 2, 1) := by decide +kernel
theorem dX7_genus_39 : decode cX7_genus 39 = .ok (.idiv, 1) := by decide +kernel
theorem dX7_genus_40 : decode cX7_genus 40 = .ok (.iadd, 1) := by decide +kernel
theorem dX7_genus_41 : decode cX7_genus 41 = .ok (.ireturn, 1) := by decide +kernel
set_option maxRecDepth 20000 in
theorem ggX7_interval_X7_in : GoodIn wsX7_interval wsX7_in := goodIn_r _ [9] (by decide +kernel) (by decide +kernel)
set_option maxRecDepth 20000 in
theorem gX7_interval_X7_in : GoodIn wsX7_interval (va_wsS RX7 63 yX7_in wsX7_in) := goodIn_app (goodIn_of _ (by decide +kernel)) ggX7_interval_X7_in
theorem dX7_interval_0 : decode cX7_interval 0 = .ok (.aload_n 0, 1) := by decide +kernel
theorem dX7_interval_1 : decode cX7_interval 1 = .ok (.iload_n 1, 1) := by decide +kernel
theorem dX7_interval_2 : decode cX7_interval 2 = .ok (.iconst 1, 1) := by decide +kernel
theorem dX7_interval_3 : decode cX7_interval 3 = .ok (.bipush 50, 2) := by decide +kernel
theorem dX7_interval_5 : decode cX7_interval 5 = .ok (.invokestatic 63, 3) := by decide +kernel
theorem dX7_interval_8 : decode cX7_interval 8 = .ok (.ifCond .ne 7, 3) := by decide +kernel
theorem dX7_interval_11 : decode cX7_interval 11 = .ok (.iconst 1, 1) := by decide +kernel
theorem dX7_interval_12 : decode cX7_interval 12 = .ok (.goto 17, 3) := by decide +kernel
theorem dX7_interval_15 : decode cX7_interval 15 = .ok (.aload_n 0, 1) := by decide +kernel
theorem dX7_interval_16 : decode cX7_interval 16 = .ok (.getfield 214, 3) := by decide +kernel
theorem dX7_interval_19 : decode cX7_interval 19 = .ok (.bipush 6, 2) := by decide +kernel
theorem dX7_interval_21 : decode cX7_interval 21 = .ok (.if_icmp .ne 7, 3) := by decide +kernel
theorem dX7_interval_24 : decode cX7_interval 24 = .ok (.iconst 2, 1) := by decide +kernel
theorem dX7_interval_25 : decode cX7_interval 25 = .ok (.goto 4, 3) := by decide +kernel
theorem dX7_interval_28 : decode cX7_interval 28 = .ok (.iconst 0, 1) := by decide +kernel
theorem dX7_interval_29 : decode cX7_interval 29 = .ok (.putfield 60, 3) := by decide +kernel
theorem dX7_interval_32 : decode cX7_interval 32 = .ok (.aload_n 0, 1) := by decide +kernel
theorem dX7_interval_33 : decode cX7_interval 33 = .ok (.getfield 60, 3) := by decide +kernel
theorem dX7_interval_36 : decode cX7_interval 36 = .ok (.ifCond .le 5, 3) := by decide +kernel
theorem dX7_interval_39 : decode cX7_interval 39 = .ok (.iconst 0, 1) := by decide +kernel
theorem dX7_interval_40 : decode cX7_interval 40 = .ok (.ireturn, 1) := by decide +kernel
theorem dX7_interval_41 : decode cX7_interval 41 = .ok (.aload_n 0, 1) := by decide +kernel
theorem dX7_interval_42 : decode cX7_interval 42 = .ok (.getfield 54, 3) := by decide +kernel
theorem dX7_interval_45 : decode cX7_interval 45 = .ok (.aload_n 0, 1) := by decide +kernel
theorem dX7_interval_46 : decode cX7_interval 46 = .ok (.getfield 214, 3) := by decide +kernel
theorem dX7_interval_49 : decode cX7_interval 49 = .ok (.iload_n 1, 1) := by decide +kernel
theorem dX7_interval_50 : decode cX7_interval 50 = .ok (.iastore, 1) := by decide +kernel
theorem dX7_interval_51 : decode cX7_interval 51 = .ok (.aload_n 0, 1) := by decide +kernel
theorem dX7_interval_52 : decode cX7_interval 52 = .ok (.getfield 48, 3) := by decide +kernel
theorem dX7_interval_55 : decode cX7_interval 55 = .ok (.aload_n 0, 1) := by decide +kernel
theorem dX7_interval_56 : decode cX7_interval 56 = .ok (.getfield 214, 3) := by decide +kernel
theorem dX7_interval_59 : decode cX7_interval 59 = .ok (.aload_n 0, 1) := by decide +kernel
theorem dX7_interval_60 : decode cX7_interval 60 = .ok (.getfield 214, 3) := by decide +kernel
theorem dX7_interval_63 : decode cX7_interval 63 = .ok (.iastore, 1) := by decide +kernel
theorem dX7_interval_64 : decode cX7_interval 64 = .ok (.aload_n 0, 1) := by decide +kernel
theorem dX7_interval_65 : decode cX7_interval 65 = .ok (.getfield 51, 3) := by decide +kernel
theorem dX7_interval_68 : decode cX7_interval 68 = .ok (.aload_n 0, 1) := by decide +kernel
theorem dX7_interval_69 : decode cX7_interval 69 = .ok (.getfield 214, 3) := by decide +kernel
theorem dX7_interval_72 : decode cX7_interval 72 = .ok (.aload_n 0, 1) := by decide +kernel
theorem dX7_interval_73 : decode cX7_interval 73 = .ok (.getfield 214, 3) := by decide +kernel
theorem dX7_interval_76 : decode cX7_interval 76 = .ok (.iastore, 1) := by decide +kernel
theorem dX7_interval_77 : decode cX7_interval 77 = .ok (.aload_n 0, 1) := by decide +kernel
theorem dX7_interval_78 : decode cX7_interval 78 = .ok (.dup, 1) := by decide +kernel
theorem dX7_interval_79 : decode cX7_interval 79 = .ok (.getfield 214, 3) := by decide +kernel
theorem dX7_interval_82 : decode cX7_interval 82 = .ok (.iconst 1, 1) := by decide +kernel
theorem dX7_interval_83 : decode cX7_interval 83 = .ok (.iadd, 1) := by decide +kernel
theorem dX7_interval_84 : decode cX7_interval 84 = .ok (.putfield 214, 3) := by decide +kernel
theorem dX7_interval_87 : decode cX7_interval 87 = .ok (.aload_n 0, 1) := by decide +kernel
theorem dX7_interval_88 : decode cX7_interval 88 = .ok (.getfield 214, 3) := by decide +kernel
theorem dX7_interval_91 : decode cX7_interval 91 = .ok (.iconst 1, 1) := by decide +kernel
theorem dX7_interval_92 : decode cX7_interval 92 = .ok (.isub, 1) := by decide +kernel
theorem dX7_interval_93 : decode cX7_interval 93 = .ok (.ireturn, 1) := by decide +kernel
set_option maxRecDepth 20000 in
theorem ggX7_isPlace_X7_in : GoodIn wsX7_isPlace wsX7_in := goodIn_r _ [5] (by decide +kernel) (by decide +kernel)
set_option maxRecDepth 20000 in
theorem gX7_isPlace_X7_in : GoodIn wsX7_isPlace (va_wsS RX7 63 yX7_in wsX7_in) := goodIn_app (goodIn_of _ (by decide +kernel)) ggX7_isPlace_X7_in
theorem dX7_isPlace_0 : decode cX7_isPlace 0 = .ok (.iload_n 1, 1) := by decide +kernel
theorem dX7_isPlace_1 : decode cX7_isPlace 1 = .ok (.iconst 0, 1) := by decide +kernel
theorem dX7_isPlace_2 : decode cX7_isPlace 2 = .ok (.aload_n 0, 1) := by decide +kernel
theorem dX7_isPlace_3 : decode cX7_isPlace 3 = .ok (.getfield 214, 3) := by decide +kernel
theorem dX7_isPlace_6 : decode cX7_isPlace 6 = .ok (.iconst 1, 1) := by decide +kernel
theorem dX7_isPlace_7 : decode cX7_isPlace 7 = .ok (.isub, 1) := by decide +kernel
theorem dX7_isPlace_8 : decode cX7_isPlace 8 = .ok (.invokestatic 63, 3) := by decide +kernel
theorem dX7_isPlace_11 : decode cX7_isPlace 11 = .ok (.ireturn, 1) := by decide +kernel
set_option maxRecDepth 20000 in
theorem ggX7_swap_X7_isPlace : GoodIn wsX7_swap wsX7_isPlace := goodIn_r _ [7, 8, 9, 10, 6, 11, 12, 13, 14, 15, 16, 17, 18, 19, 20, 21, 22, 23, 24, 25, 26, 27, 28, 29, 30, 31] (by decide +kernel) (by decide +kernel)
set_option maxRecDepth 20000 in
theorem gX7_swap_X7_isPlace : GoodIn wsX7_swap (wsV RX7 217 RX7 yX7_isPlace wsX7_isPlace) := goodIn_app (goodIn_of _ (by decide +kernel)) ggX7_swap_X7_isPlace
theorem dX7_swap_0 : decode cX7_swap 0 = .ok (.aload_n 0, 1) := by decide +kernel
theorem dX7_swap_1 : decode cX7_swap 1 = .ok (.aload_n 0, 1) := by decide +kernel
theorem dX7_swap_2 : decode cX7_swap 2 = .ok (.iload_n 1, 1) := by decide +kernel
theorem dX7_swap_3 : decode cX7_swap 3 = .ok (.invokevirtual 217, 3) := by decide +kernel
theorem dX7_swap_6 : decode cX7_swap 6 = .ok (.ifCond .eq 15, 3) := by decide +kernel
theorem dX7_swap_9 : decode cX7_swap 9 = .ok (.aload_n 0, 1) := by decide +kernel
theorem dX7_swap_10 : decode cX7_swap 10 = .ok (.iload_n 2, 1) := by decide +kernel
theorem dX7_swap_11 : decode cX7_swap 11 = .ok (.invokevirtual 217, 3) := by decide +kernel
theorem dX7_swap_14 : decode cX7_swap 14 = .ok (.ifCond .eq 7, 3) := by decide +kernel
theorem dX7_swap_17 : decode cX7_swap 17 = .ok (.iconst 0, 1) := by decide +kernel
theorem dX7_swap_18 : decode cX7_swap 18 = .ok (.goto 4, 3) := by decide +kernel
theorem dX7_swap_21 : decode cX7_swap 21 = .ok (.iconst 1, 1) := by decide +kernel
theorem dX7_swap_22 : decode cX7_swap 22 = .ok (.putfield 60, 3) := by decide +kernel
theorem dX7_swap_25 : decode cX7_swap 25 = .ok (.aload_n 0, 1) := by decide +kernel
theorem dX7_swap_26 : decode cX7_swap 26 = .ok (.getfield 60, 3) := by decide +kernel
theorem dX7_swap_29 : decode cX7_swap 29 = .ok (.ifCond .le 5, 3) := by decide +kernel
theorem dX7_swap_32 : decode cX7_swap 32 = .ok (.iconst 0, 1) := by decide +kernel
theorem dX7_swap_33 : decode cX7_swap 33 = .ok (.ireturn, 1) := by decide +kernel
theorem dX7_swap_34 : decode cX7_swap 34 = .ok (.aload_n 0, 1) := by decide +kernel
theorem dX7_swap_35 : decode cX7_swap 35 = .ok (.getfield 51, 3) := by decide +kernel
theorem dX7_swap_38 : decode cX7_swap 38 = .ok (.iload_n 1, 1) := by decide +kernel
theorem dX7_swap_39 : decode cX7_swap 39 = .ok (.iaload, 1) := by decide +kernel
theorem dX7_swap_40 : decode cX7_swap 40 = .ok (.istore_n 3, 1) := by decide +kernel
theorem dX7_swap_41 : decode cX7_swap 41 = .ok (.aload_n 0, 1) := by decide +kernel
theorem dX7_swap_42 : decode cX7_swap 42 = .ok (.getfield 51, 3) := by decide +kernel
theorem dX7_swap_45 : decode cX7_swap 45 = .ok (.iload_n 1, 1) := by decide +kernel
theorem dX7_swap_46 : decode cX7_swap 46 = .ok (.aload_n 0, 1) := by decide +kernel
theorem dX7_swap_47 : decode cX7_swap 47 = .ok (.getfield 51, 3) := by decide +kernel
theorem dX7_swap_50 : decode cX7_swap 50 = .ok (.iload_n 2, 1) := by decide +kernel
theorem dX7_swap_51 : decode cX7_swap 51 = .ok (.iaload, 1) := by decide +kernel
theorem dX7_swap_52 : decode cX7_swap 52 = .ok (.iastore, 1) := by decide +kernel
theorem dX7_swap_53 : decode cX7_swap 53 = .ok (.aload_n 0, 1) := by decide +kernel
theorem dX7_swap_54 : decode cX7_swap 54 = .ok (.getfield 51, 3) := by decide +kernel
theorem dX7_swap_57 : decode cX7_swap 57 = .ok (.iload_n 2, 1) := by decide +kernel
theorem dX7_swap_58 : decode cX7_swap 58 = .ok (.iload_n 3, 1) := by decide +kernel
theorem dX7_swap_59 : decode cX7_swap 59 = .ok (.iastore, 1) := by decide +kernel
theorem dX7_swap_60 : decode cX7_swap 60 = .ok (.aload_n 0, 1) := by decide +kernel
theorem dX7_swap_61 : decode cX7_swap 61 = .ok (.getfield 51, 3) := by decide +kernel
theorem dX7_swap_64 : decode cX7_swap 64 = .ok (.iload_n 1, 1) := by decide +kernel
theorem dX7_swap_65 : decode cX7_swap 65 = .ok (.iaload, 1) := by decide +kernel
theorem dX7_swap_66 : decode cX7_swap 66 = .ok (.ireturn, 1) := by decide +kernel
theorem dX7_sum_0 : decode cX7_sum 0 = .ok (.iconst 0, 1) := by decide +kernel
theorem dX7_sum_1 : decode cX7_sum 1 = .ok (.istore_n 1, 1) := by decide +kernel
theorem dX7_sum_2 : decode cX7_sum 2 = .ok (.iconst 0, 1) := by decide +kernel
theorem dX7_sum_3 : decode cX7_sum 3 = .ok (.istore_n 2, 1) := by decide +kernel
theorem dX7_sum_4 : decode cX7_sum 4 = .ok (.iload_n 2, 1) := by decide +kernel
theorem dX7_sum_5 : decode cX7_sum 5 = .ok (.aload_n 0, 1) := by decide +kernel
theorem dX7_sum_6 : decode cX7_sum 6 = .ok (.getfield 214, 3) := by decide +kernel
theorem dX7_sum_9 : decode cX7_sum 9 = .ok (.if_icmp .ge 18, 3) := by decide +kernel
theorem dX7_sum_12 : decode cX7_sum 12 = .ok (.iload_n 1, 1) := by decide +kernel
theorem dX7_sum_13 : decode cX7_sum 13 = .ok (.aload_n 0, 1) := by decide +kernel
theorem dX7_sum_14 : decode cX7_sum 14 = .ok (.getfield 54, 3) := by decide +kernel
theorem dX7_sum_17 : decode cX7_sum 17 = .ok (.iload_n 2, 1) := by decide +kernel
theorem dX7_sum_18 : decode cX7_sum 18 = .ok (.iaload, 1) := by decide +kernel
theorem dX7_sum_19 : decode cX7_sum 19 = .ok (.iadd, 1) := by decide +kernel
theorem dX7_sum_20 : decode cX7_sum 20 = .ok (.istore_n 1, 1) := by decide +kernel
theorem dX7_sum_21 : decode cX7_sum 21 = .ok (.iinc 2 1, 3) := by decide +kernel
theorem dX7_sum_24 : decode cX7_sum 24 = .ok (.goto (-20), 3) := by decide +kernel
theorem dX7_sum_27 : decode cX7_sum 27 = .ok (.iload_n 1, 1) := by decide +kernel
theorem dX7_sum_28 : decode cX7_sum 28 = .ok (.ireturn, 1) := by decide +kernel
theorem dX7_laysBehind_0 : decode cX7_laysBehind 0 = .ok (.aload_n 1, 1) := by decide +kernel
theorem dX7_laysBehind_1 : decode cX7_laysBehind 1 = .ok (.aload_n 0, 1) := by decide +kernel
theorem dX7_laysBehind_2 : decode cX7_laysBehind 2 = .ok (.getfield 214, 3) := by decide +kernel
theorem dX7_laysBehind_5 : decode cX7_laysBehind 5 = .ok (.iconst 1, 1) := by decide +kernel
theorem dX7_laysBehind_6 : decode cX7_laysBehind 6 = .ok (.isub, 1) := by decide +kernel
theorem dX7_laysBehind_7 : decode cX7_laysBehind 7 = .ok (.iaload, 1) := by decide +kernel
theorem dX7_laysBehind_8 : decode cX7_laysBehind 8 = .ok (.istore_n 3, 1) := by decide +kernel
theorem dX7_laysBehind_9 : decode cX7_laysBehind 9 = .ok (.aload_n 0, 1) := by decide +kernel
theorem dX7_laysBehind_10 : decode cX7_laysBehind 10 = .ok (.getfield 214, 3) := by decide +kernel
theorem dX7_laysBehind_13 : decode cX7_laysBehind 13 = .ok (.iconst 1, 1) := by decide +kernel
theorem dX7_laysBehind_14 : decode cX7_laysBehind 14 = .ok (.isub, 1) := by decide +kernel
theorem dX7_laysBehind_15 : decode cX7_laysBehind 15 = .ok (.istore 4, 2) := by decide +kernel
theorem dX7_laysBehind_17 : decode cX7_laysBehind 17 = .ok (.aload_n 1, 1) := by decide +kernel
theorem dX7_laysBehind_18 : decode cX7_laysBehind 18 = .ok (.iload 4, 2) := by decide +kernel
theorem dX7_laysBehind_20 : decode cX7_laysBehind 20 = .ok (.iconst 1, 1) := by decide +kernel
theorem dX7_laysBehind_21 : decode cX7_laysBehind 21 = .ok (.isub, 1) := by decide +kernel
theorem dX7_laysBehind_22 : decode cX7_laysBehind 22 = .ok (.iaload, 1) := by decide +kernel
theorem dX7_laysBehind_23 : decode cX7_laysBehind 23 = .ok (.iload_n 2, 1) := by decide +kernel
theorem dX7_laysBehind_24 : decode cX7_laysBehind 24 = .ok (.if_icmp .eq 19, 3) := by decide +kernel
theorem dX7_laysBehind_27 : decode cX7_laysBehind 27 = .ok (.aload_n 1, 1) := by decide +kernel
theorem dX7_laysBehind_28 : decode cX7_laysBehind 28 = .ok (.iload 4, 2) := by decide +kernel
theorem dX7_laysBehind_30 : decode cX7_laysBehind 30 = .ok (.aload_n 1, 1) := by decide +kernel
theorem dX7_laysBehind_31 : decode cX7_laysBehind 31 = .ok (.iload 4, 2) := by decide +kernel
theorem dX7_laysBehind_33 : decode cX7_laysBehind 33 = .ok (.iconst 1, 1) := by decide +kernel
theorem dX7_laysBehind_34 : decode cX7_laysBehind 34 = .ok (.isub, 1) := by decide +kernel
theorem dX7_laysBehind_35 : decode cX7_laysBehind 35 = .ok (.iaload, 1) := by decide +kernel
theorem dX7_laysBehind_36 : decode cX7_laysBehind 36 = .ok (.iastore, 1) := by decide +kernel
theorem dX7_laysBehind_37 : decode cX7_laysBehind 37 = .ok (.iinc 4 (-1), 3) := by decide +kernel
theorem dX7_laysBehind_40 : decode cX7_laysBehind 40 = .ok (.goto (-23), 3) := by decide +kernel
theorem dX7_laysBehind_43 : decode cX7_laysBehind 43 = .ok (.aload_n 1, 1) := by decide +kernel
theorem dX7_laysBehind_44 : decode cX7_laysBehind 44 = .ok (.iload 4, 2) := by decide +kernel
theorem dX7_laysBehind_46 : decode cX7_laysBehind 46 = .ok (.iload_n 3, 1) := by decide +kernel
theorem dX7_laysBehind_47 : decode cX7_laysBehind 47 = .ok (.iastore, 1) := by decide +kernel
theorem dX7_laysBehind_48 : decode cX7_laysBehind 48 = .ok (.return_, 1) := by decide +kernel
set_option maxRecDepth 20000 in
theorem ggX7_induce_X7_laysBehind : GoodIn wsX7_induce wsX7_laysBehind := goodIn_r _ [10, 1, 15, 16, 17, 18, 19, 20, 21, 22, 23, 24, 25, 26, 27, 28, 29, 30, 31, 32, 33, 34] (by decide +kernel) (by decide +kernel)
set_option maxRecDepth 20000 in
theorem gX7_induce_X7_laysBehind : GoodIn wsX7_induce (wsV RX7 220 RX7 yX7_laysBehind wsX7_laysBehind) := goodIn_app (goodIn_of _ (by decide +kernel)) ggX7_induce_X7_laysBehind
set_option maxRecDepth 20000 in
theorem ggX7_induce_X7_sum : GoodIn wsX7_induce wsX7_sum := goodIn_r _ [14, 1, 4, 15, 16, 17, 18, 19, 20, 21, 22, 23, 24, 25, 26, 27, 28, 29, 30, 31, 32, 33, 34] (by decide +kernel) (by decide +kernel)
set_option maxRecDepth 20000 in
theorem gX7_induce_X7_sum : GoodIn wsX7_induce (wsV RX7 224 RX7 yX7_sum wsX7_sum) := goodIn_app (goodIn_of _ (by decide +kernel)) ggX7_induce_X7_sum
theorem dX7_induce_0 : decode cX7_induce 0 = .ok (.aload_n 0, 1) := by decide +kernel
theorem dX7_induce_1 : decode cX7_induce 1 = .ok (.getfield 214, 3) := by decide +kernel
theorem dX7_induce_4 : decode cX7_induce 4 = .ok (.ifCond .ne 7, 3) := by decide +kernel
theorem dX7_induce_7 : decode cX7_induce 7 = .ok (.iconst 0, 1) := by decide +kernel
theorem dX7_induce_8 : decode cX7_induce 8 = .ok (.goto 14, 3) := by decide +kernel
theorem dX7_induce_11 : decode cX7_induce 11 = .ok (.aload_n 0, 1) := by decide +kernel
theorem dX7_induce_12 : decode cX7_induce 12 = .ok (.getfield 48, 3) := by decide +kernel
theorem dX7_induce_15 : decode cX7_induce 15 = .ok (.aload_n 0, 1) := by decide +kernel
theorem dX7_induce_16 : decode cX7_induce 16 = .ok (.getfield 214, 3) := by decide +kernel
theorem dX7_induce_19 : decode cX7_induce 19 = .ok (.iconst 1, 1) := by decide +kernel
theorem dX7_induce_20 : decode cX7_induce 20 = .ok (.isub, 1) := by decide +kernel
theorem dX7_induce_21 : decode cX7_induce 21 = .ok (.iaload, 1) := by decide +kernel
theorem dX7_induce_22 : decode cX7_induce 22 = .ok (.istore_n 1, 1) := by decide +kernel
theorem dX7_induce_23 : decode cX7_induce 23 = .ok (.aload_n 0, 1) := by decide +kernel
theorem dX7_induce_24 : decode cX7_induce 24 = .ok (.getfield 214, 3) := by decide +kernel
theorem dX7_induce_27 : decode cX7_induce 27 = .ok (.ifCond .ne 7, 3) := by decide +kernel
theorem dX7_induce_30 : decode cX7_induce 30 = .ok (.iconst 0, 1) := by decide +kernel
theorem dX7_induce_31 : decode cX7_induce 31 = .ok (.goto 14, 3) := by decide +kernel
theorem dX7_induce_34 : decode cX7_induce 34 = .ok (.aload_n 0, 1) := by decide +kernel
theorem dX7_induce_35 : decode cX7_induce 35 = .ok (.getfield 51, 3) := by decide +kernel
theorem dX7_induce_38 : decode cX7_induce 38 = .ok (.aload_n 0, 1) := by decide +kernel
theorem dX7_induce_39 : decode cX7_induce 39 = .ok (.getfield 214, 3) := by decide +kernel
theorem dX7_induce_42 : decode cX7_induce 42 = .ok (.iconst 1, 1) := by decide +kernel
theorem dX7_induce_43 : decode cX7_induce 43 = .ok (.isub, 1) := by decide +kernel
theorem dX7_induce_44 : decode cX7_induce 44 = .ok (.iaload, 1) := by decide +kernel
theorem dX7_induce_45 : decode cX7_induce 45 = .ok (.istore_n 2, 1) := by decide +kernel
theorem dX7_induce_46 : decode cX7_induce 46 = .ok (.aload_n 0, 1) := by decide +kernel
theorem dX7_induce_47 : decode cX7_induce 47 = .ok (.iload_n 1, 1) := by decide +kernel
theorem dX7_induce_48 : decode cX7_induce 48 = .ok (.iload_n 2, 1) := by decide +kernel
theorem dX7_induce_49 : decode cX7_induce 49 = .ok (.if_icmp .eq 18, 3) := by decide +kernel
theorem dX7_induce_52 : decode cX7_induce 52 = .ok (.aload_n 0, 1) := by decide +kernel
theorem dX7_induce_53 : decode cX7_induce 53 = .ok (.getfield 54, 3) := by decide +kernel
theorem dX7_induce_56 : decode cX7_induce 56 = .ok (.iload_n 1, 1) := by decide +kernel
theorem dX7_induce_57 : decode cX7_induce 57 = .ok (.iaload, 1) := by decide +kernel
theorem dX7_induce_58 : decode cX7_induce 58 = .ok (.aload_n 0, 1) := by decide +kernel
theorem dX7_induce_59 : decode cX7_induce 59 = .ok (.getfield 54, 3) := by decide +kernel
theorem dX7_induce_62 : decode cX7_induce 62 = .ok (.iload_n 2, 1) := by decide +kernel
theorem dX7_induce_63 : decode cX7_induce 63 = .ok (.iaload, 1) := by decide +kernel
theorem dX7_induce_64 : decode cX7_induce 64 = .ok (.if_icmp .ne 7, 3) := by decide +kernel
theorem dX7_induce_67 : decode cX7_induce 67 = .ok (.iconst 1, 1) := by decide +kernel
theorem dX7_induce_68 : decode cX7_induce 68 = .ok (.goto 4, 3) := by decide +kernel
theorem dX7_induce_71 : decode cX7_induce 71 = .ok (.iconst 0, 1) := by decide +kernel
theorem dX7_induce_72 : decode cX7_induce 72 = .ok (.putfield 60, 3) := by decide +kernel
theorem dX7_induce_75 : decode cX7_induce 75 = .ok (.aload_n 0, 1) := by decide +kernel
theorem dX7_induce_76 : decode cX7_induce 76 = .ok (.getfield 60, 3) := by decide +kernel
theorem dX7_induce_79 : decode cX7_induce 79 = .ok (.ifCond .le 5, 3) := by decide +kernel
theorem dX7_induce_82 : decode cX7_induce 82 = .ok (.iconst 0, 1) := by decide +kernel
theorem dX7_induce_83 : decode cX7_induce 83 = .ok (.ireturn, 1) := by decide +kernel
theorem dX7_induce_84 : decode cX7_induce 84 = .ok (.aload_n 0, 1) := by decide +kernel
theorem dX7_induce_85 : decode cX7_induce 85 = .ok (.getfield 54, 3) := by decide +kernel
theorem dX7_induce_88 : decode cX7_induce 88 = .ok (.iload_n 1, 1) := by decide +kernel
theorem dX7_induce_89 : decode cX7_induce 89 = .ok (.iaload, 1) := by decide +kernel
theorem dX7_induce_90 : decode cX7_induce 90 = .ok (.aload_n 0, 1) := by decide +kernel
theorem dX7_induce_91 : decode cX7_induce 91 = .ok (.getfield 54, 3) := by decide +kernel
theorem dX7_induce_94 : decode cX7_induce 94 = .ok (.iload_n 2, 1) := by decide +kernel
theorem dX7_induce_95 : decode cX7_induce 95 = .ok (.iaload, 1) := by decide +kernel
theorem dX7_induce_96 : decode cX7_induce 96 = .ok (.if_icmp .le 30, 3) := by decide +kernel
theorem dX7_induce_99 : decode cX7_induce 99 = .ok (.aload_n 0, 1) := by decide +kernel
theorem dX7_induce_100 : decode cX7_induce 100 = .ok (.getfield 54, 3) := by decide +kernel
theorem dX7_induce_103 : decode cX7_induce 103 = .ok (.iload_n 1, 1) := by decide +kernel
theorem dX7_induce_104 : decode cX7_induce 104 = .ok (.dup2, 1) := by decide +kernel
theorem dX7_induce_105 : decode cX7_induce 105 = .ok (.iaload, 1) := by decide +kernel
theorem dX7_induce_106 : decode cX7_induce 106 = .ok (.aload_n 0, 1) := by decide +kernel
theorem dX7_induce_107 : decode cX7_induce 107 = .ok (.getfield 54, 3) := by decide +kernel
theorem dX7_induce_110 : decode cX7_induce 110 = .ok (.iload_n 2, 1) := by decide +kernel
theorem dX7_induce_111 : decode cX7_induce 111 = .ok (.iaload, 1) := by decide +kernel
theorem dX7_induce_112 : decode cX7_induce 112 = .ok (.isub, 1) := by decide +kernel
theorem dX7_induce_113 : decode cX7_induce 113 = .ok (.iastore, 1) := by decide +kernel
theorem dX7_induce_114 : decode cX7_induce 114 = .ok (.aload_n 0, 1) := by decide +kernel
theorem dX7_induce_115 : decode cX7_induce 115 = .ok (.aload_n 0, 1) := by decide +kernel
theorem dX7_induce_116 : decode cX7_induce 116 = .ok (.getfield 51, 3) := by decide +kernel
theorem dX7_induce_119 : decode cX7_induce 119 = .ok (.iload_n 1, 1) := by decide +kernel
theorem dX7_induce_120 : decode cX7_induce 120 = .ok (.invokevirtual 220, 3) := by decide +kernel
theorem dX7_induce_123 : decode cX7_induce 123 = .ok (.goto 27, 3) := by decide +kernel
theorem dX7_induce_126 : decode cX7_induce 126 = .ok (.aload_n 0, 1) := by decide +kernel
theorem dX7_induce_127 : decode cX7_induce 127 = .ok (.getfield 54, 3) := by decide +kernel
theorem dX7_induce_130 : decode cX7_induce 130 = .ok (.iload_n 2, 1) := by decide +kernel
theorem dX7_induce_131 : decode cX7_induce 131 = .ok (.dup2, 1) := by decide +kernel
theorem dX7_induce_132 : decode cX7_induce 132 = .ok (.iaload, 1) := by decide +kernel
theorem dX7_induce_133 : decode cX7_induce 133 = .ok (.aload_n 0, 1) := by decide +kernel
theorem dX7_induce_134 : decode cX7_induce 134 = .ok (.getfield 54, 3) := by decide +kernel
theorem dX7_induce_137 : decode cX7_induce 137 = .ok (.iload_n 1, 1) := by decide +kernel
theorem dX7_induce_138 : decode cX7_induce 138 = .ok (.iaload, 1) := by decide +kernel
theorem dX7_induce_139 : decode cX7_induce 139 = .ok (.isub, 1) := by decide +kernel
theorem dX7_induce_140 : decode cX7_induce 140 = .ok (.iastore, 1) := by decide +kernel
theorem dX7_induce_141 : decode cX7_induce 141 = .ok (.aload_n 0, 1) := by decide +kernel
theorem dX7_induce_142 : decode cX7_induce 142 = .ok (.aload_n 0, 1) := by decide +kernel
theorem dX7_induce_143 : decode cX7_induce 143 = .ok (.getfield 48, 3) := by decide +kernel
theorem dX7_induce_146 : decode cX7_induce 146 = .ok (.iload_n 2, 1) := by decide +kernel
theorem dX7_induce_147 : decode cX7_induce 147 = .ok (.invokevirtual 220, 3) := by decide +kernel
theorem dX7_induce_150 : decode cX7_induce 150 = .ok (.aload_n 0, 1) := by decide +kernel
theorem dX7_induce_151 : decode cX7_induce 151 = .ok (.invokevirtual 224, 3) := by decide +kernel
theorem dX7_induce_154 : decode cX7_induce 154 = .ok (.ireturn, 1) := by decide +kernel
set_option maxRecDepth 20000 in
theorem ggX7_told_X7_isPlace : GoodIn wsX7_told wsX7_isPlace := goodIn_r _ [9, 10, 11, 12, 8, 13, 14, 15, 16, 17, 18, 19, 20, 21, 22, 23, 24, 25, 26, 27, 28, 29, 30, 31, 32, 33] (by decide +kernel) (by decide +kernel)
set_option maxRecDepth 20000 in
theorem gX7_told_X7_isPlace : GoodIn wsX7_told (wsV RX7 217 RX7 yX7_isPlace wsX7_isPlace) := goodIn_app (goodIn_of _ (by decide +kernel)) ggX7_told_X7_isPlace
set_option maxRecDepth 20000 in
theorem ggX7_told_X7_in : GoodIn wsX7_told wsX7_in := goodIn_r _ [13] (by decide +kernel) (by decide +kernel)
set_option maxRecDepth 20000 in
theorem gX7_told_X7_in : GoodIn wsX7_told (va_wsS RX7 63 yX7_in wsX7_in) := goodIn_app (goodIn_of _ (by decide +kernel)) ggX7_told_X7_in
theorem dX7_told_0 : decode cX7_told 0 = .ok (.aload_n 0, 1) := by decide +kernel
theorem dX7_told_1 : decode cX7_told 1 = .ok (.aload_n 0, 1) := by decide +kernel
theorem dX7_told_2 : decode cX7_told 2 = .ok (.iload_n 1, 1) := by decide +kernel
theorem dX7_told_3 : decode cX7_told 3 = .ok (.invokevirtual 217, 3) := by decide +kernel
theorem dX7_told_6 : decode cX7_told 6 = .ok (.ifCond .ne 7, 3) := by decide +kernel
theorem dX7_told_9 : decode cX7_told 9 = .ok (.iconst 1, 1) := by decide +kernel
theorem dX7_told_10 : decode cX7_told 10 = .ok (.goto 17, 3) := by decide +kernel
theorem dX7_told_13 : decode cX7_told 13 = .ok (.iload_n 2, 1) := by decide +kernel
theorem dX7_told_14 : decode cX7_told 14 = .ok (.iconst 0, 1) := by decide +kernel
theorem dX7_told_15 : decode cX7_told 15 = .ok (.iconst 2, 1) := by decide +kernel
theorem dX7_told_16 : decode cX7_told 16 = .ok (.invokestatic 63, 3) := by decide +kernel
theorem dX7_told_19 : decode cX7_told 19 = .ok (.ifCond .eq 7, 3) := by decide +kernel
theorem dX7_told_22 : decode cX7_told 22 = .ok (.iconst 0, 1) := by decide +kernel
theorem dX7_told_23 : decode cX7_told 23 = .ok (.goto 4, 3) := by decide +kernel
theorem dX7_told_26 : decode cX7_told 26 = .ok (.iconst 2, 1) := by decide +kernel
theorem dX7_told_27 : decode cX7_told 27 = .ok (.putfield 60, 3) := by decide +kernel
theorem dX7_told_30 : decode cX7_told 30 = .ok (.aload_n 0, 1) := by decide +kernel
theorem dX7_told_31 : decode cX7_told 31 = .ok (.getfield 60, 3) := by decide +kernel
theorem dX7_told_34 : decode cX7_told 34 = .ok (.ifCond .le 5, 3) := by decide +kernel
theorem dX7_told_37 : decode cX7_told 37 = .ok (.iconst 0, 1) := by decide +kernel
theorem dX7_told_38 : decode cX7_told 38 = .ok (.ireturn, 1) := by decide +kernel
theorem dX7_told_39 : decode cX7_told 39 = .ok (.iload_n 2, 1) := by decide +kernel
theorem dX7_told_40 : decode cX7_told 40 = .ok (.ifCond .ne 12, 3) := by decide +kernel
theorem dX7_told_43 : decode cX7_told 43 = .ok (.aload_n 0, 1) := by decide +kernel
theorem dX7_told_44 : decode cX7_told 44 = .ok (.getfield 48, 3) := by decide +kernel
theorem dX7_told_47 : decode cX7_told 47 = .ok (.iload_n 1, 1) := by decide +kernel
theorem dX7_told_48 : decode cX7_told 48 = .ok (.iaload, 1) := by decide +kernel
theorem dX7_told_49 : decode cX7_told 49 = .ok (.goto 28, 3) := by decide +kernel
theorem dX7_told_52 : decode cX7_told 52 = .ok (.iload_n 2, 1) := by decide +kernel
theorem dX7_told_53 : decode cX7_told 53 = .ok (.iconst 1, 1) := by decide +kernel
theorem dX7_told_54 : decode cX7_told 54 = .ok (.if_icmp .ne 12, 3) := by decide +kernel
theorem dX7_told_57 : decode cX7_told 57 = .ok (.aload_n 0, 1) := by decide +kernel
theorem dX7_told_58 : decode cX7_told 58 = .ok (.getfield 51, 3) := by decide +kernel
theorem dX7_told_61 : decode cX7_told 61 = .ok (.iload_n 1, 1) := by decide +kernel
theorem dX7_told_62 : decode cX7_told 62 = .ok (.iaload, 1) := by decide +kernel
theorem dX7_told_63 : decode cX7_told 63 = .ok (.goto 14, 3) := by decide +kernel
theorem dX7_told_66 : decode cX7_told 66 = .ok (.aload_n 0, 1) := by decide +kernel
theorem dX7_told_67 : decode cX7_told 67 = .ok (.getfield 54, 3) := by decide +kernel
theorem dX7_told_70 : decode cX7_told 70 = .ok (.aload_n 0, 1) := by decide +kernel
theorem dX7_told_71 : decode cX7_told 71 = .ok (.getfield 48, 3) := by decide +kernel
theorem dX7_told_74 : decode cX7_told 74 = .ok (.iload_n 1, 1) := by decide +kernel
theorem dX7_told_75 : decode cX7_told 75 = .ok (.iaload, 1) := by decide +kernel
theorem dX7_told_76 : decode cX7_told 76 = .ok (.iaload, 1) := by decide +kernel
theorem dX7_told_77 : decode cX7_told 77 = .ok (.ireturn, 1) := by decide +kernel
theorem dX7_goes_0 : decode cX7_goes 0 = .ok (.iconst 0, 1) := by decide +kernel
theorem dX7_goes_1 : decode cX7_goes 1 = .ok (.istore 4, 2) := by decide +kernel
theorem dX7_goes_3 : decode cX7_goes 3 = .ok (.iconst 0, 1) := by decide +kernel
theorem dX7_goes_4 : decode cX7_goes 4 = .ok (.istore 5, 2) := by decide +kernel
theorem dX7_goes_6 : decode cX7_goes 6 = .ok (.iload_n 1, 1) := by decide +kernel
theorem dX7_goes_7 : decode cX7_goes 7 = .ok (.iload 5, 2) := by decide +kernel
theorem dX7_goes_9 : decode cX7_goes 9 = .ok (.aload_n 0, 1) := by decide +kernel
theorem dX7_goes_10 : decode cX7_goes 10 = .ok (.getfield 54, 3) := by decide +kernel
theorem dX7_goes_13 : decode cX7_goes 13 = .ok (.aload_n 2, 1) := by decide +kernel
theorem dX7_goes_14 : decode cX7_goes 14 = .ok (.iload 4, 2) := by decide +kernel
theorem dX7_goes_16 : decode cX7_goes 16 = .ok (.iaload, 1) := by decide +kernel
theorem dX7_goes_17 : decode cX7_goes 17 = .ok (.iaload, 1) := by decide +kernel
theorem dX7_goes_18 : decode cX7_goes 18 = .ok (.iadd, 1) := by decide +kernel
theorem dX7_goes_19 : decode cX7_goes 19 = .ok (.if_icmp .lt 23, 3) := by decide +kernel
theorem dX7_goes_22 : decode cX7_goes 22 = .ok (.iload 5, 2) := by decide +kernel
theorem dX7_goes_24 : decode cX7_goes 24 = .ok (.aload_n 0, 1) := by decide +kernel
theorem dX7_goes_25 : decode cX7_goes 25 = .ok (.getfield 54, 3) := by decide +kernel
theorem dX7_goes_28 : decode cX7_goes 28 = .ok (.aload_n 2, 1) := by decide +kernel
theorem dX7_goes_29 : decode cX7_goes 29 = .ok (.iload 4, 2) := by decide +kernel
theorem dX7_goes_31 : decode cX7_goes 31 = .ok (.iaload, 1) := by decide +kernel
theorem dX7_goes_32 : decode cX7_goes 32 = .ok (.iaload, 1) := by decide +kernel
theorem dX7_goes_33 : decode cX7_goes 33 = .ok (.iadd, 1) := by decide +kernel
theorem dX7_goes_34 : decode cX7_goes 34 = .ok (.istore 5, 2) := by decide +kernel
theorem dX7_goes_36 : decode cX7_goes 36 = .ok (.iinc 4 1, 3) := by decide +kernel
theorem dX7_goes_39 : decode cX7_goes 39 = .ok (.goto (-33), 3) := by decide +kernel
theorem dX7_goes_42 : decode cX7_goes 42 = .ok (.iconst 0, 1) := by decide +kernel
theorem dX7_goes_43 : decode cX7_goes 43 = .ok (.istore 6, 2) := by decide +kernel
theorem dX7_goes_45 : decode cX7_goes 45 = .ok (.iconst 0, 1) := by decide +kernel
theorem dX7_goes_46 : decode cX7_goes 46 = .ok (.istore 7, 2) := by decide +kernel
theorem dX7_goes_48 : decode cX7_goes 48 = .ok (.aload_n 3, 1) := by decide +kernel
theorem dX7_goes_49 : decode cX7_goes 49 = .ok (.iload 7, 2) := by decide +kernel
theorem dX7_goes_51 : decode cX7_goes 51 = .ok (.iaload, 1) := by decide +kernel
theorem dX7_goes_52 : decode cX7_goes 52 = .ok (.aload_n 2, 1) := by decide +kernel
theorem dX7_goes_53 : decode cX7_goes 53 = .ok (.iload 4, 2) := by decide +kernel
theorem dX7_goes_55 : decode cX7_goes 55 = .ok (.iaload, 1) := by decide +kernel
theorem dX7_goes_56 : decode cX7_goes 56 = .ok (.if_icmp .eq 23, 3) := by decide +kernel
theorem dX7_goes_59 : decode cX7_goes 59 = .ok (.iload 6, 2) := by decide +kernel
theorem dX7_goes_61 : decode cX7_goes 61 = .ok (.aload_n 0, 1) := by decide +kernel
theorem dX7_goes_62 : decode cX7_goes 62 = .ok (.getfield 54, 3) := by decide +kernel
theorem dX7_goes_65 : decode cX7_goes 65 = .ok (.aload_n 3, 1) := by decide +kernel
theorem dX7_goes_66 : decode cX7_goes 66 = .ok (.iload 7, 2) := by decide +kernel
theorem dX7_goes_68 : decode cX7_goes 68 = .ok (.iaload, 1) := by decide +kernel
theorem dX7_goes_69 : decode cX7_goes 69 = .ok (.iaload, 1) := by decide +kernel
theorem dX7_goes_70 : decode cX7_goes 70 = .ok (.iadd, 1) := by decide +kernel
theorem dX7_goes_71 : decode cX7_goes 71 = .ok (.istore 6, 2) := by decide +kernel
theorem dX7_goes_73 : decode cX7_goes 73 = .ok (.iinc 7 1, 3) := by decide +kernel
theorem dX7_goes_76 : decode cX7_goes 76 = .ok (.goto (-28), 3) := by decide +kernel
theorem dX7_goes_79 : decode cX7_goes 79 = .ok (.iload 6, 2) := by decide +kernel
theorem dX7_goes_81 : decode cX7_goes 81 = .ok (.iload_n 1, 1) := by decide +kernel
theorem dX7_goes_82 : decode cX7_goes 82 = .ok (.iadd, 1) := by decide +kernel
theorem dX7_goes_83 : decode cX7_goes 83 = .ok (.iload 5, 2) := by decide +kernel
theorem dX7_goes_85 : decode cX7_goes 85 = .ok (.isub, 1) := by decide +kernel
theorem dX7_goes_86 : decode cX7_goes 86 = .ok (.ireturn, 1) := by decide +kernel
set_option maxRecDepth 20000 in
theorem ggX7_asksPoint_X7_sum : GoodIn wsX7_asksPoint wsX7_sum := goodIn_r _ [6, 7, 8, 12, 13, 14, 15, 16, 17, 18, 19, 20, 21, 22, 23, 24, 25, 26, 27, 28, 29, 30, 31] (by decide +kernel) (by decide +kernel)
set_option maxRecDepth 20000 in
theorem gX7_asksPoint_X7_sum : GoodIn wsX7_asksPoint (wsV RX7 224 RX7 yX7_sum wsX7_sum) := goodIn_app (goodIn_of _ (by decide +kernel)) ggX7_asksPoint_X7_sum
set_option maxRecDepth 20000 in
theorem ggX7_asksPoint_X7_in : GoodIn wsX7_asksPoint wsX7_in := goodIn_r _ [11] (by decide +kernel) (by decide +kernel)
set_option maxRecDepth 20000 in
theorem gX7_asksPoint_X7_in : GoodIn wsX7_asksPoint (va_wsS RX7 63 yX7_in wsX7_in) := goodIn_app (goodIn_of _ (by decide +kernel)) ggX7_asksPoint_X7_in
theorem dX7_asksPoint_0 : decode cX7_asksPoint 0 = .ok (.aload_n 0, 1) := by decide +kernel
theorem dX7_asksPoint_1 : decode cX7_asksPoint 1 = .ok (.iload_n 1, 1) := by decide +kernel
theorem dX7_asksPoint_2 : decode cX7_asksPoint 2 = .ok (.iconst 0, 1) := by decide +kernel
theorem dX7_asksPoint_3 : decode cX7_asksPoint 3 = .ok (.aload_n 0, 1) := by decide +kernel
theorem dX7_asksPoint_4 : decode cX7_asksPoint 4 = .ok (.invokevirtual 224, 3) := by decide +kernel
theorem dX7_asksPoint_7 : decode cX7_asksPoint 7 = .ok (.iconst 1, 1) := by decide +kernel
theorem dX7_asksPoint_8 : decode cX7_asksPoint 8 = .ok (.isub, 1) := by decide +kernel
theorem dX7_asksPoint_9 : decode cX7_asksPoint 9 = .ok (.invokestatic 63, 3) := by decide +kernel
theorem dX7_asksPoint_12 : decode cX7_asksPoint 12 = .ok (.ifCond .eq 7, 3) := by decide +kernel
theorem dX7_asksPoint_15 : decode cX7_asksPoint 15 = .ok (.iconst 0, 1) := by decide +kernel
theorem dX7_asksPoint_16 : decode cX7_asksPoint 16 = .ok (.goto 4, 3) := by decide +kernel
theorem dX7_asksPoint_19 : decode cX7_asksPoint 19 = .ok (.iconst 1, 1) := by decide +kernel
theorem dX7_asksPoint_20 : decode cX7_asksPoint 20 = .ok (.putfield 60, 3) := by decide +kernel
theorem dX7_asksPoint_23 : decode cX7_asksPoint 23 = .ok (.aload_n 0, 1) := by decide +kernel
theorem dX7_asksPoint_24 : decode cX7_asksPoint 24 = .ok (.getfield 60, 3) := by decide +kernel
theorem dX7_asksPoint_27 : decode cX7_asksPoint 27 = .ok (.ifCond .ne 7, 3) := by decide +kernel
theorem dX7_asksPoint_30 : decode cX7_asksPoint 30 = .ok (.iconst 1, 1) := by decide +kernel
theorem dX7_asksPoint_31 : decode cX7_asksPoint 31 = .ok (.goto 4, 3) := by decide +kernel
theorem dX7_asksPoint_34 : decode cX7_asksPoint 34 = .ok (.iconst 0, 1) := by decide +kernel
theorem dX7_asksPoint_35 : decode cX7_asksPoint 35 = .ok (.ireturn, 1) := by decide +kernel
set_option maxRecDepth 20000 in
theorem ggX7_image_X7_asksPoint : GoodIn wsX7_image wsX7_asksPoint := goodIn_r _ [7, 8, 9, 10, 11, 6, 12, 13, 14, 15, 16, 17, 22, 23, 24, 25, 26, 27, 28, 29, 30, 31, 32, 33, 34, 35, 36, 37, 38, 39, 40, 41] (by decide +kernel) (by decide +kernel)
set_option maxRecDepth 20000 in
theorem gX7_image_X7_asksPoint : GoodIn wsX7_image (wsV RX7 227 RX7 yX7_asksPoint wsX7_asksPoint) := goodIn_app (goodIn_of _ (by decide +kernel)) ggX7_image_X7_asksPoint
set_option maxRecDepth 20000 in
theorem ggX7_image_X7_goes : GoodIn wsX7_image wsX7_goes := goodIn_r _ [21, 14, 22, 23, 24, 25, 26, 27, 28, 29, 30, 31, 32, 33, 34, 35, 36, 37, 38, 39, 40, 41] (by decide +kernel) (by decide +kernel)
set_option maxRecDepth 20000 in
theorem gX7_image_X7_goes : GoodIn wsX7_image (wsV RX7 230 RX7 yX7_goes wsX7_goes) := goodIn_app (goodIn_of _ (by decide +kernel)) ggX7_image_X7_goes
theorem dX7_image_0 : decode cX7_image 0 = .ok (.aload_n 0, 1) := by decide +kernel
theorem dX7_image_1 : decode cX7_image 1 = .ok (.iload_n 1, 1) := by decide +kernel
theorem dX7_image_2 : decode cX7_image 2 = .ok (.invokevirtual 227, 3) := by decide +kernel
theorem dX7_image_5 : decode cX7_image 5 = .ok (.ifCond .eq 19, 3) := by decide +kernel
theorem dX7_image_8 : decode cX7_image 8 = .ok (.aload_n 0, 1) := by decide +kernel
theorem dX7_image_9 : decode cX7_image 9 = .ok (.iload_n 1, 1) := by decide +kernel
theorem dX7_image_10 : decode cX7_image 10 = .ok (.aload_n 0, 1) := by decide +kernel
theorem dX7_image_11 : decode cX7_image 11 = .ok (.getfield 48, 3) := by decide +kernel
theorem dX7_image_14 : decode cX7_image 14 = .ok (.aload_n 0, 1) := by decide +kernel
theorem dX7_image_15 : decode cX7_image 15 = .ok (.getfield 51, 3) := by decide +kernel
theorem dX7_image_18 : decode cX7_image 18 = .ok (.invokevirtual 230, 3) := by decide +kernel
theorem dX7_image_21 : decode cX7_image 21 = .ok (.goto 4, 3) := by decide +kernel
theorem dX7_image_24 : decode cX7_image 24 = .ok (.iconst 0, 1) := by decide +kernel
theorem dX7_image_25 : decode cX7_image 25 = .ok (.ireturn, 1) := by decide +kernel
set_option maxRecDepth 20000 in
theorem ggX7_back_X7_asksPoint : GoodIn wsX7_back wsX7_asksPoint := goodIn_r _ [7, 8, 9, 10, 11, 6, 12, 13, 14, 15, 16, 17, 22, 23, 24, 25, 26, 27, 28, 29, 30, 31, 32, 33, 34, 35, 36, 37, 38, 39, 40, 41] (by decide +kernel) (by decide +kernel)
set_option maxRecDepth 20000 in
theorem gX7_back_X7_asksPoint : GoodIn wsX7_back (wsV RX7 227 RX7 yX7_asksPoint wsX7_asksPoint) := goodIn_app (goodIn_of _ (by decide +kernel)) ggX7_back_X7_asksPoint
set_option maxRecDepth 20000 in
theorem ggX7_back_X7_goes : GoodIn wsX7_back wsX7_goes := goodIn_r _ [21, 14, 22, 23, 24, 25, 26, 27, 28, 29, 30, 31, 32, 33, 34, 35, 36, 37, 38, 39, 40, 41] (by decide +kernel) (by decide +kernel)
set_option maxRecDepth 20000 in
theorem gX7_back_X7_goes : GoodIn wsX7_back (wsV RX7 230 RX7 yX7_goes wsX7_goes) := goodIn_app (goodIn_of _ (by decide +kernel)) ggX7_back_X7_goes
theorem dX7_back_0 : decode cX7_back 0 = .ok (.aload_n 0, 1) := by decide +kernel
theorem dX7_back_1 : decode cX7_back 1 = .ok (.iload_n 1, 1) := by decide +kernel
theorem dX7_back_2 : decode cX7_back 2 = .ok (.invokevirtual 227, 3) := by decide +kernel
theorem dX7_back_5 : decode cX7_back 5 = .ok (.ifCond .eq 19, 3) := by decide +kernel
theorem dX7_back_8 : decode cX7_back 8 = .ok (.aload_n 0, 1) := by decide +kernel
theorem dX7_back_9 : decode cX7_back 9 = .ok (.iload_n 1, 1) := by decide +kernel
theorem dX7_back_10 : decode cX7_back 10 = .ok (.aload_n 0, 1) := by decide +kernel
theorem dX7_back_11 : decode cX7_back 11 = .ok (.getfield 51, 3) := by decide +kernel
theorem dX7_back_14 : decode cX7_back 14 = .ok (.aload_n 0, 1) := by decide +kernel
theorem dX7_back_15 : decode cX7_back 15 = .ok (.getfield 48, 3) := by decide +kernel
theorem dX7_back_18 : decode cX7_back 18 = .ok (.invokevirtual 230, 3) := by decide +kernel
theorem dX7_back_21 : decode cX7_back 21 = .ok (.goto 4, 3) := by decide +kernel
theorem dX7_back_24 : decode cX7_back 24 = .ok (.iconst 0, 1) := by decide +kernel
theorem dX7_back_25 : decode cX7_back 25 = .ok (.ireturn, 1) := by decide +kernel
set_option maxRecDepth 20000 in
theorem ggX7_cycle_X7_asksPoint : GoodIn wsX7_cycle wsX7_asksPoint := goodIn_r _ [7, 8, 9, 10, 11, 6, 12, 13, 14, 15, 16, 17, 22, 23, 24, 25, 26, 27, 28, 29, 30, 31, 32, 33, 34, 35, 36, 37, 38, 39, 40, 41] (by decide +kernel) (by decide +kernel)
set_option maxRecDepth 20000 in
theorem gX7_cycle_X7_asksPoint : GoodIn wsX7_cycle (wsV RX7 227 RX7 yX7_asksPoint wsX7_asksPoint) := goodIn_app (goodIn_of _ (by decide +kernel)) ggX7_cycle_X7_asksPoint
set_option maxRecDepth 20000 in
theorem ggX7_cycle_X7_goes : GoodIn wsX7_cycle wsX7_goes := goodIn_r _ [21, 14, 22, 23, 24, 25, 26, 27, 28, 29, 30, 31, 32, 33, 34, 35, 36, 37, 38, 39, 40, 41] (by decide +kernel) (by decide +kernel)
set_option maxRecDepth 20000 in
theorem gX7_cycle_X7_goes : GoodIn wsX7_cycle (wsV RX7 230 RX7 yX7_goes wsX7_goes) := goodIn_app (goodIn_of _ (by decide +kernel)) ggX7_cycle_X7_goes
theorem dX7_cycle_0 : decode cX7_cycle 0 = .ok (.aload_n 0, 1) := by decide +kernel
theorem dX7_cycle_1 : decode cX7_cycle 1 = .ok (.iload_n 1, 1) := by decide +kernel
theorem dX7_cycle_2 : decode cX7_cycle 2 = .ok (.invokevirtual 227, 3) := by decide +kernel
theorem dX7_cycle_5 : decode cX7_cycle 5 = .ok (.ifCond .ne 5, 3) := by decide +kernel
theorem dX7_cycle_8 : decode cX7_cycle 8 = .ok (.iconst 0, 1) := by decide +kernel
theorem dX7_cycle_9 : decode cX7_cycle 9 = .ok (.ireturn, 1) := by decide +kernel
theorem dX7_cycle_10 : decode cX7_cycle 10 = .ok (.iconst 1, 1) := by decide +kernel
theorem dX7_cycle_11 : decode cX7_cycle 11 = .ok (.istore_n 2, 1) := by decide +kernel
theorem dX7_cycle_12 : decode cX7_cycle 12 = .ok (.aload_n 0, 1) := by decide +kernel
theorem dX7_cycle_13 : decode cX7_cycle 13 = .ok (.iload_n 1, 1) := by decide +kernel
theorem dX7_cycle_14 : decode cX7_cycle 14 = .ok (.aload_n 0, 1) := by decide +kernel
theorem dX7_cycle_15 : decode cX7_cycle 15 = .ok (.getfield 48, 3) := by decide +kernel
theorem dX7_cycle_18 : decode cX7_cycle 18 = .ok (.aload_n 0, 1) := by decide +kernel
theorem dX7_cycle_19 : decode cX7_cycle 19 = .ok (.getfield 51, 3) := by decide +kernel
theorem dX7_cycle_22 : decode cX7_cycle 22 = .ok (.invokevirtual 230, 3) := by decide +kernel
theorem dX7_cycle_25 : decode cX7_cycle 25 = .ok (.istore_n 3, 1) := by decide +kernel
theorem dX7_cycle_26 : decode cX7_cycle 26 = .ok (.iload_n 3, 1) := by decide +kernel
theorem dX7_cycle_27 : decode cX7_cycle 27 = .ok (.iload_n 1, 1) := by decide +kernel
theorem dX7_cycle_28 : decode cX7_cycle 28 = .ok (.if_icmp .eq 23, 3) := by decide +kernel
theorem dX7_cycle_31 : decode cX7_cycle 31 = .ok (.aload_n 0, 1) := by decide +kernel
theorem dX7_cycle_32 : decode cX7_cycle 32 = .ok (.iload_n 3, 1) := by decide +kernel
theorem dX7_cycle_33 : decode cX7_cycle 33 = .ok (.aload_n 0, 1) := by decide +kernel
theorem dX7_cycle_34 : decode cX7_cycle 34 = .ok (.getfield 48, 3) := by decide +kernel
theorem dX7_cycle_37 : decode cX7_cycle 37 = .ok (.aload_n 0, 1) := by decide +kernel
theorem dX7_cycle_38 : decode cX7_cycle 38 = .ok (.getfield 51, 3) := by decide +kernel
theorem dX7_cycle_41 : decode cX7_cycle 41 = .ok (.invokevirtual 230, 3) := by decide +kernel
theorem dX7_cycle_44 : decode cX7_cycle 44 = .ok (.istore_n 3, 1) := by decide +kernel
theorem dX7_cycle_45 : decode cX7_cycle 45 = .ok (.iinc 2 1, 3) := by decide +kernel
theorem dX7_cycle_48 : decode cX7_cycle 48 = .ok (.goto (-22), 3) := by decide +kernel
theorem dX7_cycle_51 : decode cX7_cycle 51 = .ok (.iload_n 2, 1) := by decide +kernel
theorem dX7_cycle_52 : decode cX7_cycle 52 = .ok (.ireturn, 1) := by decide +kernel
set_option maxRecDepth 20000 in
theorem ggX7_cycles_X7_sum : GoodIn wsX7_cycles wsX7_sum := goodIn_r _ [9, 10, 11, 16, 17, 18, 19, 20, 21, 22, 23, 24, 25, 26, 27, 28, 29, 30, 31, 32, 33, 34, 35] (by decide +kernel) (by decide +kernel)
set_option maxRecDepth 20000 in
theorem gX7_cycles_X7_sum : GoodIn wsX7_cycles (wsV RX7 224 RX7 yX7_sum wsX7_sum) := goodIn_app (goodIn_of _ (by decide +kernel)) ggX7_cycles_X7_sum
set_option maxRecDepth 20000 in
theorem ggX7_cycles_X7_goes : GoodIn wsX7_cycles wsX7_goes := goodIn_r _ [15, 11, 16, 17, 18, 19, 20, 21, 22, 23, 24, 25, 26, 27, 28, 29, 30, 31, 32, 33, 34, 35] (by decide +kernel) (by decide +kernel)
set_option maxRecDepth 20000 in
theorem gX7_cycles_X7_goes : GoodIn wsX7_cycles (wsV RX7 230 RX7 yX7_goes wsX7_goes) := goodIn_app (goodIn_of _ (by decide +kernel)) ggX7_cycles_X7_goes
theorem dX7_cycles_0 : decode cX7_cycles 0 = .ok (.aload_n 0, 1) := by decide +kernel
theorem dX7_cycles_1 : decode cX7_cycles 1 = .ok (.iconst 0, 1) := by decide +kernel
theorem dX7_cycles_2 : decode cX7_cycles 2 = .ok (.putfield 60, 3) := by decide +kernel
theorem dX7_cycles_5 : decode cX7_cycles 5 = .ok (.aload_n 0, 1) := by decide +kernel
theorem dX7_cycles_6 : decode cX7_cycles 6 = .ok (.invokevirtual 224, 3) := by decide +kernel
theorem dX7_cycles_9 : decode cX7_cycles 9 = .ok (.istore_n 1, 1) := by decide +kernel
theorem dX7_cycles_10 : decode cX7_cycles 10 = .ok (.iconst 0, 1) := by decide +kernel
theorem dX7_cycles_11 : decode cX7_cycles 11 = .ok (.istore_n 2, 1) := by decide +kernel
theorem dX7_cycles_12 : decode cX7_cycles 12 = .ok (.iconst 0, 1) := by decide +kernel
theorem dX7_cycles_13 : decode cX7_cycles 13 = .ok (.istore_n 3, 1) := by decide +kernel
theorem dX7_cycles_14 : decode cX7_cycles 14 = .ok (.iload_n 3, 1) := by decide +kernel
theorem dX7_cycles_15 : decode cX7_cycles 15 = .ok (.iload_n 1, 1) := by decide +kernel
theorem dX7_cycles_16 : decode cX7_cycles 16 = .ok (.if_icmp .ge 16, 3) := by decide +kernel
theorem dX7_cycles_19 : decode cX7_cycles 19 = .ok (.aload_n 0, 1) := by decide +kernel
theorem dX7_cycles_20 : decode cX7_cycles 20 = .ok (.getfield 57, 3) := by decide +kernel
theorem dX7_cycles_23 : decode cX7_cycles 23 = .ok (.iload_n 3, 1) := by decide +kernel
theorem dX7_cycles_24 : decode cX7_cycles 24 = .ok (.iconst 0, 1) := by decide +kernel
theorem dX7_cycles_25 : decode cX7_cycles 25 = .ok (.bastore, 1) := by decide +kernel
theorem dX7_cycles_26 : decode cX7_cycles 26 = .ok (.iinc 3 1, 3) := by decide +kernel
theorem dX7_cycles_29 : decode cX7_cycles 29 = .ok (.goto (-15), 3) := by decide +kernel
theorem dX7_cycles_32 : decode cX7_cycles 32 = .ok (.iconst 0, 1) := by decide +kernel
theorem dX7_cycles_33 : decode cX7_cycles 33 = .ok (.istore_n 3, 1) := by decide +kernel
theorem dX7_cycles_34 : decode cX7_cycles 34 = .ok (.iload_n 3, 1) := by decide +kernel
theorem dX7_cycles_35 : decode cX7_cycles 35 = .ok (.iload_n 1, 1) := by decide +kernel
theorem dX7_cycles_36 : decode cX7_cycles 36 = .ok (.if_icmp .ge 66, 3) := by decide +kernel
theorem dX7_cycles_39 : decode cX7_cycles 39 = .ok (.iload_n 2, 1) := by decide +kernel
theorem dX7_cycles_40 : decode cX7_cycles 40 = .ok (.aload_n 0, 1) := by decide +kernel
theorem dX7_cycles_41 : decode cX7_cycles 41 = .ok (.getfield 57, 3) := by decide +kernel
theorem dX7_cycles_44 : decode cX7_cycles 44 = .ok (.iload_n 3, 1) := by decide +kernel
theorem dX7_cycles_45 : decode cX7_cycles 45 = .ok (.baload, 1) := by decide +kernel
theorem dX7_cycles_46 : decode cX7_cycles 46 = .ok (.ifCond .eq 7, 3) := by decide +kernel
theorem dX7_cycles_49 : decode cX7_cycles 49 = .ok (.iconst 0, 1) := by decide +kernel
theorem dX7_cycles_50 : decode cX7_cycles 50 = .ok (.goto 4, 3) := by decide +kernel
theorem dX7_cycles_53 : decode cX7_cycles 53 = .ok (.iconst 1, 1) := by decide +kernel
theorem dX7_cycles_54 : decode cX7_cycles 54 = .ok (.iadd, 1) := by decide +kernel
theorem dX7_cycles_55 : decode cX7_cycles 55 = .ok (.istore_n 2, 1) := by decide +kernel
theorem dX7_cycles_56 : decode cX7_cycles 56 = .ok (.iload_n 3, 1) := by decide +kernel
theorem dX7_cycles_57 : decode cX7_cycles 57 = .ok (.istore 4, 2) := by decide +kernel
theorem dX7_cycles_59 : decode cX7_cycles 59 = .ok (.aload_n 0, 1) := by decide +kernel
theorem dX7_cycles_60 : decode cX7_cycles 60 = .ok (.getfield 57, 3) := by decide +kernel
theorem dX7_cycles_63 : decode cX7_cycles 63 = .ok (.iload 4, 2) := by decide +kernel
theorem dX7_cycles_65 : decode cX7_cycles 65 = .ok (.baload, 1) := by decide +kernel
theorem dX7_cycles_66 : decode cX7_cycles 66 = .ok (.ifCond .ne 30, 3) := by decide +kernel
theorem dX7_cycles_69 : decode cX7_cycles 69 = .ok (.aload_n 0, 1) := by decide +kernel
theorem dX7_cycles_70 : decode cX7_cycles 70 = .ok (.getfield 57, 3) := by decide +kernel
theorem dX7_cycles_73 : decode cX7_cycles 73 = .ok (.iload 4, 2) := by decide +kernel
theorem dX7_cycles_75 : decode cX7_cycles 75 = .ok (.iconst 1, 1) := by decide +kernel
theorem dX7_cycles_76 : decode cX7_cycles 76 = .ok (.bastore, 1) := by decide +kernel
theorem dX7_cycles_77 : decode cX7_cycles 77 = .ok (.aload_n 0, 1) := by decide +kernel
theorem dX7_cycles_78 : decode cX7_cycles 78 = .ok (.iload 4, 2) := by decide +kernel
theorem dX7_cycles_80 : decode cX7_cycles 80 = .ok (.aload_n 0, 1) := by decide +kernel
theorem dX7_cycles_81 : decode cX7_cycles 81 = .ok (.getfield 48, 3) := by decide +kernel
theorem dX7_cycles_84 : decode cX7_cycles 84 = .ok (.aload_n 0, 1) := by decide +kernel
theorem dX7_cycles_85 : decode cX7_cycles 85 = .ok (.getfield 51, 3) := by decide +kernel
theorem dX7_cycles_88 : decode cX7_cycles 88 = .ok (.invokevirtual 230, 3) := by decide +kernel
theorem dX7_cycles_91 : decode cX7_cycles 91 = .ok (.istore 4, 2) := by decide +kernel
theorem dX7_cycles_93 : decode cX7_cycles 93 = .ok (.goto (-34), 3) := by decide +kernel
theorem dX7_cycles_96 : decode cX7_cycles 96 = .ok (.iinc 3 1, 3) := by decide +kernel
theorem dX7_cycles_99 : decode cX7_cycles 99 = .ok (.goto (-65), 3) := by decide +kernel
theorem dX7_cycles_102 : decode cX7_cycles 102 = .ok (.iload_n 2, 1) := by decide +kernel
theorem dX7_cycles_103 : decode cX7_cycles 103 = .ok (.ireturn, 1) := by decide +kernel
theorem dX7_apart_0 : decode cX7_apart 0 = .ok (.aload_n 0, 1) := by decide +kernel
theorem dX7_apart_1 : decode cX7_apart 1 = .ok (.iconst 0, 1) := by decide +kernel
theorem dX7_apart_2 : decode cX7_apart 2 = .ok (.putfield 60, 3) := by decide +kernel
theorem dX7_apart_5 : decode cX7_apart 5 = .ok (.iconst 0, 1) := by decide +kernel
theorem dX7_apart_6 : decode cX7_apart 6 = .ok (.istore_n 1, 1) := by decide +kernel
theorem dX7_apart_7 : decode cX7_apart 7 = .ok (.iconst 0, 1) := by decide +kernel
theorem dX7_apart_8 : decode cX7_apart 8 = .ok (.istore_n 2, 1) := by decide +kernel
theorem dX7_apart_9 : decode cX7_apart 9 = .ok (.iconst 0, 1) := by decide +kernel
theorem dX7_apart_10 : decode cX7_apart 10 = .ok (.istore_n 3, 1) := by decide +kernel
theorem dX7_apart_11 : decode cX7_apart 11 = .ok (.iload_n 3, 1) := by decide +kernel
theorem dX7_apart_12 : decode cX7_apart 12 = .ok (.aload_n 0, 1) := by decide +kernel
theorem dX7_apart_13 : decode cX7_apart 13 = .ok (.getfield 214, 3) := by decide +kernel
theorem dX7_apart_16 : decode cX7_apart 16 = .ok (.if_icmp .ge 40, 3) := by decide +kernel
theorem dX7_apart_19 : decode cX7_apart 19 = .ok (.iload_n 1, 1) := by decide +kernel
theorem dX7_apart_20 : decode cX7_apart 20 = .ok (.iconst 1, 1) := by decide +kernel
theorem dX7_apart_21 : decode cX7_apart 21 = .ok (.aload_n 0, 1) := by decide +kernel
theorem dX7_apart_22 : decode cX7_apart 22 = .ok (.getfield 48, 3) := by decide +kernel
theorem dX7_apart_25 : decode cX7_apart 25 = .ok (.iload_n 3, 1) := by decide +kernel
theorem dX7_apart_26 : decode cX7_apart 26 = .ok (.iaload, 1) := by decide +kernel
theorem dX7_apart_27 : decode cX7_apart 27 = .ok (.ishl, 1) := by decide +kernel
theorem dX7_apart_28 : decode cX7_apart 28 = .ok (.ior, 1) := by decide +kernel
theorem dX7_apart_29 : decode cX7_apart 29 = .ok (.istore_n 1, 1) := by decide +kernel
theorem dX7_apart_30 : decode cX7_apart 30 = .ok (.iload_n 2, 1) := by decide +kernel
theorem dX7_apart_31 : decode cX7_apart 31 = .ok (.iconst 1, 1) := by decide +kernel
theorem dX7_apart_32 : decode cX7_apart 32 = .ok (.aload_n 0, 1) := by decide +kernel
theorem dX7_apart_33 : decode cX7_apart 33 = .ok (.getfield 51, 3) := by decide +kernel
theorem dX7_apart_36 : decode cX7_apart 36 = .ok (.iload_n 3, 1) := by decide +kernel
theorem dX7_apart_37 : decode cX7_apart 37 = .ok (.iaload, 1) := by decide +kernel
theorem dX7_apart_38 : decode cX7_apart 38 = .ok (.ishl, 1) := by decide +kernel
theorem dX7_apart_39 : decode cX7_apart 39 = .ok (.ior, 1) := by decide +kernel
theorem dX7_apart_40 : decode cX7_apart 40 = .ok (.istore_n 2, 1) := by decide +kernel
theorem dX7_apart_41 : decode cX7_apart 41 = .ok (.iload_n 1, 1) := by decide +kernel
theorem dX7_apart_42 : decode cX7_apart 42 = .ok (.iload_n 2, 1) := by decide +kernel
theorem dX7_apart_43 : decode cX7_apart 43 = .ok (.if_icmp .ne 7, 3) := by decide +kernel
theorem dX7_apart_46 : decode cX7_apart 46 = .ok (.iload_n 3, 1) := by decide +kernel
theorem dX7_apart_47 : decode cX7_apart 47 = .ok (.iconst 1, 1) := by decide +kernel
theorem dX7_apart_48 : decode cX7_apart 48 = .ok (.iadd, 1) := by decide +kernel
theorem dX7_apart_49 : decode cX7_apart 49 = .ok (.ireturn, 1) := by decide +kernel
theorem dX7_apart_50 : decode cX7_apart 50 = .ok (.iinc 3 1, 3) := by decide +kernel
theorem dX7_apart_53 : decode cX7_apart 53 = .ok (.goto (-42), 3) := by decide +kernel
theorem dX7_apart_56 : decode cX7_apart 56 = .ok (.iconst 0, 1) := by decide +kernel
theorem dX7_apart_57 : decode cX7_apart 57 = .ok (.ireturn, 1) := by decide +kernel
theorem dJ6_compare_7cf53_0 : decode cJ6_compare_7cf53 0 = .ok (.iload_n 0, 1) := by decide +kernel
theorem dJ6_compare_7cf53_1 : decode cJ6_compare_7cf53 1 = .ok (.iload_n 1, 1) := by decide +kernel
theorem dJ6_compare_7cf53_2 : decode cJ6_compare_7cf53 2 = .ok (.if_icmp .ge 7, 3) := by decide +kernel
theorem dJ6_compare_7cf53_5 : decode cJ6_compare_7cf53 5 = .ok (.iconst (-1), 1) := by decide +kernel
theorem dJ6_compare_7cf53_6 : decode cJ6_compare_7cf53 6 = .ok (.goto 13, 3) := by decide +kernel
theorem dJ6_compare_7cf53_9 : decode cJ6_compare_7cf53 9 = .ok (.iload_n 0, 1) := by decide +kernel
theorem dJ6_compare_7cf53_10 : decode cJ6_compare_7cf53 10 = .ok (.iload_n 1, 1) := by decide +kernel
theorem dJ6_compare_7cf53_11 : decode cJ6_compare_7cf53 11 = .ok (.if_icmp .ne 7, 3) := by decide +kernel
theorem dJ6_compare_7cf53_14 : decode cJ6_compare_7cf53 14 = .ok (.iconst 0, 1) := by decide +kernel
theorem dJ6_compare_7cf53_15 : decode cJ6_compare_7cf53 15 = .ok (.goto 4, 3) := by decide +kernel
theorem dJ6_compare_7cf53_18 : decode cJ6_compare_7cf53 18 = .ok (.iconst 1, 1) := by decide +kernel
theorem dJ6_compare_7cf53_19 : decode cJ6_compare_7cf53 19 = .ok (.ireturn, 1) := by decide +kernel
theorem dJ6_bitCount_0f7a4_0 : decode cJ6_bitCount_0f7a4 0 = .ok (.iload_n 0, 1) := by decide +kernel
theorem dJ6_bitCount_0f7a4_1 : decode cJ6_bitCount_0f7a4 1 = .ok (.iload_n 0, 1) := by decide +kernel
theorem dJ6_bitCount_0f7a4_2 : decode cJ6_bitCount_0f7a4 2 = .ok (.iconst 1, 1) := by decide +kernel
theorem dJ6_bitCount_0f7a4_3 : decode cJ6_bitCount_0f7a4 3 = .ok (.iushr, 1) := by decide +kernel
theorem dJ6_bitCount_0f7a4_4 : decode cJ6_bitCount_0f7a4 4 = .ok (.ldc_w 265, 3) := by decide +kernel
theorem dJ6_bitCount_0f7a4_7 : decode cJ6_bitCount_0f7a4 7 = .ok (.iand, 1) := by decide +kernel
theorem dJ6_bitCount_0f7a4_8 : decode cJ6_bitCount_0f7a4 8 = .ok (.isub, 1) := by decide +kernel
theorem dJ6_bitCount_0f7a4_9 : decode cJ6_bitCount_0f7a4 9 = .ok (.istore_n 0, 1) := by decide +kernel
theorem dJ6_bitCount_0f7a4_10 : decode cJ6_bitCount_0f7a4 10 = .ok (.iload_n 0, 1) := by decide +kernel
theorem dJ6_bitCount_0f7a4_11 : decode cJ6_bitCount_0f7a4 11 = .ok (.ldc_w 266, 3) := by decide +kernel
theorem dJ6_bitCount_0f7a4_14 : decode cJ6_bitCount_0f7a4 14 = .ok (.iand, 1) := by decide +kernel
theorem dJ6_bitCount_0f7a4_15 : decode cJ6_bitCount_0f7a4 15 = .ok (.iload_n 0, 1) := by decide +kernel
theorem dJ6_bitCount_0f7a4_16 : decode cJ6_bitCount_0f7a4 16 = .ok (.iconst 2, 1) := by decide +kernel
theorem dJ6_bitCount_0f7a4_17 : decode cJ6_bitCount_0f7a4 17 = .ok (.iushr, 1) := by decide +kernel
theorem dJ6_bitCount_0f7a4_18 : decode cJ6_bitCount_0f7a4 18 = .ok (.ldc_w 266, 3) := by decide +kernel
theorem dJ6_bitCount_0f7a4_21 : decode cJ6_bitCount_0f7a4 21 = .ok (.iand, 1) := by decide +kernel
theorem dJ6_bitCount_0f7a4_22 : decode cJ6_bitCount_0f7a4 22 = .ok (.iadd, 1) := by decide +kernel
theorem dJ6_bitCount_0f7a4_23 : decode cJ6_bitCount_0f7a4 23 = .ok (.istore_n 0, 1) := by decide +kernel
theorem dJ6_bitCount_0f7a4_24 : decode cJ6_bitCount_0f7a4 24 = .ok (.iload_n 0, 1) := by decide +kernel
theorem dJ6_bitCount_0f7a4_25 : decode cJ6_bitCount_0f7a4 25 = .ok (.iload_n 0, 1) := by decide +kernel
theorem dJ6_bitCount_0f7a4_26 : decode cJ6_bitCount_0f7a4 26 = .ok (.iconst 4, 1) := by decide +kernel
theorem dJ6_bitCount_0f7a4_27 : decode cJ6_bitCount_0f7a4 27 = .ok (.iushr, 1) := by decide +kernel
theorem dJ6_bitCount_0f7a4_28 : decode cJ6_bitCount_0f7a4 28 = .ok (.iadd, 1) := by decide +kernel
theorem dJ6_bitCount_0f7a4_29 : decode cJ6_bitCount_0f7a4 29 = .ok (.ldc_w 267, 3) := by decide +kernel
theorem dJ6_bitCount_0f7a4_32 : decode cJ6_bitCount_0f7a4 32 = .ok (.iand, 1) := by decide +kernel
theorem dJ6_bitCount_0f7a4_33 : decode cJ6_bitCount_0f7a4 33 = .ok (.istore_n 0, 1) := by decide +kernel
theorem dJ6_bitCount_0f7a4_34 : decode cJ6_bitCount_0f7a4 34 = .ok (.iload_n 0, 1) := by decide +kernel
theorem dJ6_bitCount_0f7a4_35 : decode cJ6_bitCount_0f7a4 35 = .ok (.iload_n 0, 1) := by decide +kernel
theorem dJ6_bitCount_0f7a4_36 : decode cJ6_bitCount_0f7a4 36 = .ok (.bipush 8, 2) := by decide +kernel
theorem dJ6_bitCount_0f7a4_38 : decode cJ6_bitCount_0f7a4 38 = .ok (.iushr, 1) := by decide +kernel
theorem dJ6_bitCount_0f7a4_39 : decode cJ6_bitCount_0f7a4 39 = .ok (.iadd, 1) := by decide +kernel
theorem dJ6_bitCount_0f7a4_40 : decode cJ6_bitCount_0f7a4 40 = .ok (.istore_n 0, 1) := by decide +kernel
theorem dJ6_bitCount_0f7a4_41 : decode cJ6_bitCount_0f7a4 41 = .ok (.iload_n 0, 1) := by decide +kernel
theorem dJ6_bitCount_0f7a4_42 : decode cJ6_bitCount_0f7a4 42 = .ok (.iload_n 0, 1) := by decide +kernel
theorem dJ6_bitCount_0f7a4_43 : decode cJ6_bitCount_0f7a4 43 = .ok (.bipush 16, 2) := by decide +kernel
theorem dJ6_bitCount_0f7a4_45 : decode cJ6_bitCount_0f7a4 45 = .ok (.iushr, 1) := by decide +kernel
theorem dJ6_bitCount_0f7a4_46 : decode cJ6_bitCount_0f7a4 46 = .ok (.iadd, 1) := by decide +kernel
theorem dJ6_bitCount_0f7a4_47 : decode cJ6_bitCount_0f7a4 47 = .ok (.istore_n 0, 1) := by decide +kernel
theorem dJ6_bitCount_0f7a4_48 : decode cJ6_bitCount_0f7a4 48 = .ok (.iload_n 0, 1) := by decide +kernel
theorem dJ6_bitCount_0f7a4_49 : decode cJ6_bitCount_0f7a4 49 = .ok (.bipush 63, 2) := by decide +kernel
theorem dJ6_bitCount_0f7a4_51 : decode cJ6_bitCount_0f7a4 51 = .ok (.iand, 1) := by decide +kernel
theorem dJ6_bitCount_0f7a4_52 : decode cJ6_bitCount_0f7a4 52 = .ok (.ireturn, 1) := by decide +kernel
theorem dJ13_bitCount_95d88_0 : decode cJ13_bitCount_95d88 0 = .ok (.lload_n 0, 1) := by decide +kernel
theorem dJ13_bitCount_95d88_1 : decode cJ13_bitCount_95d88 1 = .ok (.lload_n 0, 1) := by decide +kernel
theorem dJ13_bitCount_95d88_2 : decode cJ13_bitCount_95d88 2 = .ok (.iconst 1, 1) := by decide +kernel
theorem dJ13_bitCount_95d88_3 : decode cJ13_bitCount_95d88 3 = .ok (.lushr, 1) := by decide +kernel
theorem dJ13_bitCount_95d88_4 : decode cJ13_bitCount_95d88 4 = .ok (.ldc2_w 314, 3) := by decide +kernel
theorem dJ13_bitCount_95d88_7 : decode cJ13_bitCount_95d88 7 = .ok (.land, 1) := by decide +kernel
theorem dJ13_bitCount_95d88_8 : decode cJ13_bitCount_95d88 8 = .ok (.lsub, 1) := by decide +kernel
theorem dJ13_bitCount_95d88_9 : decode cJ13_bitCount_95d88 9 = .ok (.lstore_n 0, 1) := by decide +kernel
theorem dJ13_bitCount_95d88_10 : decode cJ13_bitCount_95d88 10 = .ok (.lload_n 0, 1) := by decide +kernel
theorem dJ13_bitCount_95d88_11 : decode cJ13_bitCount_95d88 11 = .ok (.ldc2_w 316, 3) := by decide +kernel
theorem dJ13_bitCount_95d88_14 : decode cJ13_bitCount_95d88 14 = .ok (.land, 1) := by decide +kernel
theorem dJ13_bitCount_95d88_15 : decode cJ13_bitCount_95d88 15 = .ok (.lload_n 0, 1) := by decide +kernel
theorem dJ13_bitCount_95d88_16 : decode cJ13_bitCount_95d88 16 = .ok (.iconst 2, 1) := by decide +kernel
theorem dJ13_bitCount_95d88_17 : decode cJ13_bitCount_95d88 17 = .ok (.lushr, 1) := by decide +kernel
theorem dJ13_bitCount_95d88_18 : decode cJ13_bitCount_95d88 18 = .ok (.ldc2_w 316, 3) := by decide +kernel
theorem dJ13_bitCount_95d88_21 : decode cJ13_bitCount_95d88 21 = .ok (.land, 1) := by decide +kernel
theorem dJ13_bitCount_95d88_22 : decode cJ13_bitCount_95d88 22 = .ok (.ladd, 1) := by decide +kernel
theorem dJ13_bitCount_95d88_23 : decode cJ13_bitCount_95d88 23 = .ok (.lstore_n 0, 1) := by decide +kernel
theorem dJ13_bitCount_95d88_24 : decode cJ13_bitCount_95d88 24 = .ok (.lload_n 0, 1) := by decide +kernel
theorem dJ13_bitCount_95d88_25 : decode cJ13_bitCount_95d88 25 = .ok (.lload_n 0, 1) := by decide +kernel
theorem dJ13_bitCount_95d88_26 : decode cJ13_bitCount_95d88 26 = .ok (.iconst 4, 1) := by decide +kernel
theorem dJ13_bitCount_95d88_27 : decode cJ13_bitCount_95d88 27 = .ok (.lushr, 1) := by decide +kernel
theorem dJ13_bitCount_95d88_28 : decode cJ13_bitCount_95d88 28 = .ok (.ladd, 1) := by decide +kernel
theorem dJ13_bitCount_95d88_29 : decode cJ13_bitCount_95d88 29 = .ok (.ldc2_w 318, 3) := by decide +kernel
theorem dJ13_bitCount_95d88_32 : decode cJ13_bitCount_95d88 32 = .ok (.land, 1) := by decide +kernel
theorem dJ13_bitCount_95d88_33 : decode cJ13_bitCount_95d88 33 = .ok (.lstore_n 0, 1) := by decide +kernel
theorem dJ13_bitCount_95d88_34 : decode cJ13_bitCount_95d88 34 = .ok (.lload_n 0, 1) := by decide +kernel
theorem dJ13_bitCount_95d88_35 : decode cJ13_bitCount_95d88 35 = .ok (.lload_n 0, 1) := by decide +kernel
theorem dJ13_bitCount_95d88_36 : decode cJ13_bitCount_95d88 36 = .ok (.bipush 8, 2) := by decide +kernel
theorem dJ13_bitCount_95d88_38 : decode cJ13_bitCount_95d88 38 = .ok (.lushr, 1) := by decide +kernel
theorem dJ13_bitCount_95d88_39 : decode cJ13_bitCount_95d88 39 = .ok (.ladd, 1) := by decide +kernel
theorem dJ13_bitCount_95d88_40 : decode cJ13_bitCount_95d88 40 = .ok (.lstore_n 0, 1) := by decide +kernel
theorem dJ13_bitCount_95d88_41 : decode cJ13_bitCount_95d88 41 = .ok (.lload_n 0, 1) := by decide +kernel
theorem dJ13_bitCount_95d88_42 : decode cJ13_bitCount_95d88 42 = .ok (.lload_n 0, 1) := by decide +kernel
theorem dJ13_bitCount_95d88_43 : decode cJ13_bitCount_95d88 43 = .ok (.bipush 16, 2) := by decide +kernel
theorem dJ13_bitCount_95d88_45 : decode cJ13_bitCount_95d88 45 = .ok (.lushr, 1) := by decide +kernel
theorem dJ13_bitCount_95d88_46 : decode cJ13_bitCount_95d88 46 = .ok (.ladd, 1) := by decide +kernel
theorem dJ13_bitCount_95d88_47 : decode cJ13_bitCount_95d88 47 = .ok (.lstore_n 0, 1) := by decide +kernel
theorem dJ13_bitCount_95d88_48 : decode cJ13_bitCount_95d88 48 = .ok (.lload_n 0, 1) := by decide +kernel
theorem dJ13_bitCount_95d88_49 : decode cJ13_bitCount_95d88 49 = .ok (.lload_n 0, 1) := by decide +kernel
theorem dJ13_bitCount_95d88_50 : decode cJ13_bitCount_95d88 50 = .ok (.bipush 32, 2) := by decide +kernel
theorem dJ13_bitCount_95d88_52 : decode cJ13_bitCount_95d88 52 = .ok (.lushr, 1) := by decide +kernel
theorem dJ13_bitCount_95d88_53 : decode cJ13_bitCount_95d88 53 = .ok (.ladd, 1) := by decide +kernel
theorem dJ13_bitCount_95d88_54 : decode cJ13_bitCount_95d88 54 = .ok (.lstore_n 0, 1) := by decide +kernel
theorem dJ13_bitCount_95d88_55 : decode cJ13_bitCount_95d88 55 = .ok (.lload_n 0, 1) := by decide +kernel
theorem dJ13_bitCount_95d88_56 : decode cJ13_bitCount_95d88 56 = .ok (.l2i, 1) := by decide +kernel
theorem dJ13_bitCount_95d88_57 : decode cJ13_bitCount_95d88 57 = .ok (.bipush 127, 2) := by decide +kernel
theorem dJ13_bitCount_95d88_59 : decode cJ13_bitCount_95d88 59 = .ok (.iand, 1) := by decide +kernel
theorem dJ13_bitCount_95d88_60 : decode cJ13_bitCount_95d88 60 = .ok (.ireturn, 1) := by decide +kernel
theorem dJ9_abs_0f7a4_0 : decode cJ9_abs_0f7a4 0 = .ok (.iload_n 0, 1) := by decide +kernel
theorem dJ9_abs_0f7a4_1 : decode cJ9_abs_0f7a4 1 = .ok (.ifCond .ge 8, 3) := by decide +kernel
theorem dJ9_abs_0f7a4_4 : decode cJ9_abs_0f7a4 4 = .ok (.iload_n 0, 1) := by decide +kernel
theorem dJ9_abs_0f7a4_5 : decode cJ9_abs_0f7a4 5 = .ok (.ineg, 1) := by decide +kernel
theorem dJ9_abs_0f7a4_6 : decode cJ9_abs_0f7a4 6 = .ok (.goto 4, 3) := by decide +kernel
theorem dJ9_abs_0f7a4_9 : decode cJ9_abs_0f7a4 9 = .ok (.iload_n 0, 1) := by decide +kernel
theorem dJ9_abs_0f7a4_10 : decode cJ9_abs_0f7a4 10 = .ok (.ireturn, 1) := by decide +kernel
theorem dJ9_max_7cf53_0 : decode cJ9_max_7cf53 0 = .ok (.iload_n 0, 1) := by decide +kernel
theorem dJ9_max_7cf53_1 : decode cJ9_max_7cf53 1 = .ok (.iload_n 1, 1) := by decide +kernel
theorem dJ9_max_7cf53_2 : decode cJ9_max_7cf53 2 = .ok (.if_icmp .lt 7, 3) := by decide +kernel
theorem dJ9_max_7cf53_5 : decode cJ9_max_7cf53 5 = .ok (.iload_n 0, 1) := by decide +kernel
theorem dJ9_max_7cf53_6 : decode cJ9_max_7cf53 6 = .ok (.goto 4, 3) := by decide +kernel
theorem dJ9_max_7cf53_9 : decode cJ9_max_7cf53 9 = .ok (.iload_n 1, 1) := by decide +kernel
theorem dJ9_max_7cf53_10 : decode cJ9_max_7cf53 10 = .ok (.ireturn, 1) := by decide +kernel
theorem dJ9_min_7cf53_0 : decode cJ9_min_7cf53 0 = .ok (.iload_n 0, 1) := by decide +kernel
theorem dJ9_min_7cf53_1 : decode cJ9_min_7cf53 1 = .ok (.iload_n 1, 1) := by decide +kernel
theorem dJ9_min_7cf53_2 : decode cJ9_min_7cf53 2 = .ok (.if_icmp .gt 7, 3) := by decide +kernel
theorem dJ9_min_7cf53_5 : decode cJ9_min_7cf53 5 = .ok (.iload_n 0, 1) := by decide +kernel
theorem dJ9_min_7cf53_6 : decode cJ9_min_7cf53 6 = .ok (.goto 4, 3) := by decide +kernel
theorem dJ9_min_7cf53_9 : decode cJ9_min_7cf53 9 = .ok (.iload_n 1, 1) := by decide +kernel
theorem dJ9_min_7cf53_10 : decode cJ9_min_7cf53 10 = .ok (.ireturn, 1) := by decide +kernel
set_option maxRecDepth 20000 in
theorem ggL_block_X6_block : GoodIn wsL_block wsX6_block := goodIn_ca (goodIn_r _ [6, 7, 8, 9, 5, 10, 11, 12, 13, 14, 15, 16, 17, 18, 19, 20, 21, 22, 23, 24, 25, 26, 27, 28, 29, 30, 31, 32, 33] (by decide +kernel) (by decide +kernel)) (goodIn_sub (fun _ h => List.mem_cons_of_mem _ (List.mem_append_right _ h)) (by decide +kernel))
set_option maxRecDepth 20000 in
theorem gL_block_X6_block : GoodIn wsL_block (wsV RL 7 RX6 yX6_block wsX6_block) := goodIn_app (goodIn_of _ (by decide +kernel)) ggL_block_X6_block
theorem dL_block_0 : decode cL_block 0 = .ok (.aload 4, 2) := by decide +kernel
theorem dL_block_2 : decode cL_block 2 = .ok (.iconst 0, 1) := by decide +kernel
theorem dL_block_3 : decode cL_block 3 = .ok (.aload_n 0, 1) := by decide +kernel
theorem dL_block_4 : decode cL_block 4 = .ok (.iload_n 1, 1) := by decide +kernel
theorem dL_block_5 : decode cL_block 5 = .ok (.iload_n 2, 1) := by decide +kernel
theorem dL_block_6 : decode cL_block 6 = .ok (.iload_n 3, 1) := by decide +kernel
theorem dL_block_7 : decode cL_block 7 = .ok (.invokevirtual 7, 3) := by decide +kernel
theorem dL_block_10 : decode cL_block 10 = .ok (.ifCond .eq 7, 3) := by decide +kernel
theorem dL_block_13 : decode cL_block 13 = .ok (.lconst 1, 1) := by decide +kernel
theorem dL_block_14 : decode cL_block 14 = .ok (.goto 4, 3) := by decide +kernel
theorem dL_block_17 : decode cL_block 17 = .ok (.lconst 0, 1) := by decide +kernel
theorem dL_block_18 : decode cL_block 18 = .ok (.lastore, 1) := by decide +kernel
theorem dL_block_19 : decode cL_block 19 = .ok (.goto 7, 3) := by decide +kernel
theorem dL_block_22 : decode cL_block 22 = .ok (.astore 5, 2) := by decide +kernel
theorem dL_block_24 : decode cL_block 24 = .ok (.iconst 1, 1) := by decide +kernel
theorem dL_block_25 : decode cL_block 25 = .ok (.ireturn, 1) := by decide +kernel
theorem dL_block_26 : decode cL_block 26 = .ok (.iconst 0, 1) := by decide +kernel
theorem dL_block_27 : decode cL_block 27 = .ok (.ireturn, 1) := by decide +kernel
set_option maxRecDepth 20000 in
theorem ggL_period_X6_period : GoodIn wsL_period wsX6_period := goodIn_ca (goodIn_ca (goodIn_ca (goodIn_r _ [8, 9, 10, 11, 12, 7, 13, 14, 15, 16, 17, 18, 19, 20, 21, 22, 23, 24, 25, 26, 27, 28, 29, 30, 31, 32, 33, 34, 35, 36, 37, 38, 39, 40, 41, 42, 43, 44, 45, 46, 47, 48, 49, 50, 51, 52, 53, 54, 55, 56, 57, 58, 59, 60, 61, 62, 63, 64, 65, 66, 67, 68, 69, 70, 71, 72, 73, 74, 75, 76, 77, 78, 79, 80, 81, 82, 83, 84, 85, 86, 87, 88] (by decide +kernel) (by decide +kernel)) (goodIn_sub (fun _ h => List.mem_cons_of_mem _ (List.mem_append_left _ (List.mem_append_left _ (List.mem_append_right _ h)))) (by decide +kernel))) (goodIn_sub (fun _ h => List.mem_cons_of_mem _ (List.mem_append_left _ (List.mem_append_right _ h))) (by decide +kernel))) (goodIn_sub (fun _ h => List.mem_cons_of_mem _ (List.mem_append_right _ h)) (by decide +kernel))
set_option maxRecDepth 20000 in
theorem gL_period_X6_period : GoodIn wsL_period (wsV RL 15 RX6 yX6_period wsX6_period) := goodIn_app (goodIn_of _ (by decide +kernel)) ggL_period_X6_period
theorem dL_period_0 : decode cL_period 0 = .ok (.aload 5, 2) := by decide +kernel
theorem dL_period_2 : decode cL_period 2 = .ok (.iconst 0, 1) := by decide +kernel
theorem dL_period_3 : decode cL_period 3 = .ok (.aload_n 0, 1) := by decide +kernel
theorem dL_period_4 : decode cL_period 4 = .ok (.iload_n 1, 1) := by decide +kernel
theorem dL_period_5 : decode cL_period 5 = .ok (.iload_n 2, 1) := by decide +kernel
theorem dL_period_6 : decode cL_period 6 = .ok (.iload_n 3, 1) := by decide +kernel
theorem dL_period_7 : decode cL_period 7 = .ok (.iload 4, 2) := by decide +kernel
theorem dL_period_9 : decode cL_period 9 = .ok (.invokevirtual 15, 3) := by decide +kernel
theorem dL_period_12 : decode cL_period 12 = .ok (.i2l, 1) := by decide +kernel
theorem dL_period_13 : decode cL_period 13 = .ok (.lastore, 1) := by decide +kernel
theorem dL_period_14 : decode cL_period 14 = .ok (.goto 15, 3) := by decide +kernel
theorem dL_period_17 : decode cL_period 17 = .ok (.astore 6, 2) := by decide +kernel
theorem dL_period_19 : decode cL_period 19 = .ok (.iconst 1, 1) := by decide +kernel
theorem dL_period_20 : decode cL_period 20 = .ok (.ireturn, 1) := by decide +kernel
theorem dL_period_21 : decode cL_period 21 = .ok (.astore 6, 2) := by decide +kernel
theorem dL_period_23 : decode cL_period 23 = .ok (.iconst 2, 1) := by decide +kernel
theorem dL_period_24 : decode cL_period 24 = .ok (.ireturn, 1) := by decide +kernel
theorem dL_period_25 : decode cL_period 25 = .ok (.astore 6, 2) := by decide +kernel
theorem dL_period_27 : decode cL_period 27 = .ok (.iconst 3, 1) := by decide +kernel
theorem dL_period_28 : decode cL_period 28 = .ok (.ireturn, 1) := by decide +kernel
theorem dL_period_29 : decode cL_period 29 = .ok (.iconst 0, 1) := by decide +kernel
theorem dL_period_30 : decode cL_period 30 = .ok (.ireturn, 1) := by decide +kernel
set_option maxRecDepth 20000 in
theorem ggL_periodAnew_X6_periodAnew : GoodIn wsL_periodAnew wsX6_periodAnew := goodIn_ca (goodIn_ca (goodIn_ca (goodIn_r _ [8, 9, 10, 11, 12, 7, 13, 14, 15, 16, 17, 18, 19, 20, 21, 22, 23, 24, 25, 26, 27, 28, 29, 30, 31, 32, 33, 34, 35, 36, 37, 38, 39, 40, 41, 42, 43, 44, 45, 46, 47, 48, 49, 50, 51, 52, 53, 54, 55, 56, 57, 58, 59, 60, 61, 62, 63, 64, 65, 66, 67, 68, 69, 70, 71, 72, 73, 74, 75, 76, 77, 78, 79, 80, 81, 82, 83, 84, 85] (by decide +kernel) (by decide +kernel)) (goodIn_sub (fun _ h => List.mem_cons_of_mem _ (List.mem_append_left _ (List.mem_append_left _ (List.mem_append_right _ h)))) (by decide +kernel))) (goodIn_sub (fun _ h => List.mem_cons_of_mem _ (List.mem_append_left _ (List.mem_append_right _ h))) (by decide +kernel))) (goodIn_sub (fun _ h => List.mem_cons_of_mem _ (List.mem_append_right _ h)) (by decide +kernel))
set_option maxRecDepth 20000 in
theorem gL_periodAnew_X6_periodAnew : GoodIn wsL_periodAnew (wsV RL 23 RX6 yX6_periodAnew wsX6_periodAnew) := goodIn_app (goodIn_of _ (by decide +kernel)) ggL_periodAnew_X6_periodAnew
theorem dL_periodAnew_0 : decode cL_periodAnew 0 = .ok (.aload 5, 2) := by decide +kernel
theorem dL_periodAnew_2 : decode cL_periodAnew 2 = .ok (.iconst 0, 1) := by decide +kernel
theorem dL_periodAnew_3 : decode cL_periodAnew 3 = .ok (.aload_n 0, 1) := by decide +kernel
theorem dL_periodAnew_4 : decode cL_periodAnew 4 = .ok (.iload_n 1, 1) := by decide +kernel
theorem dL_periodAnew_5 : decode cL_periodAnew 5 = .ok (.iload_n 2, 1) := by decide +kernel
theorem dL_periodAnew_6 : decode cL_periodAnew 6 = .ok (.iload_n 3, 1) := by decide +kernel
theorem dL_periodAnew_7 : decode cL_periodAnew 7 = .ok (.iload 4, 2) := by decide +kernel
theorem dL_periodAnew_9 : decode cL_periodAnew 9 = .ok (.invokevirtual 23, 3) := by decide +kernel
theorem dL_periodAnew_12 : decode cL_periodAnew 12 = .ok (.i2l, 1) := by decide +kernel
theorem dL_periodAnew_13 : decode cL_periodAnew 13 = .ok (.lastore, 1) := by decide +kernel
theorem dL_periodAnew_14 : decode cL_periodAnew 14 = .ok (.goto 15, 3) := by decide +kernel
theorem dL_periodAnew_17 : decode cL_periodAnew 17 = .ok (.astore 6, 2) := by decide +kernel
theorem dL_periodAnew_19 : decode cL_periodAnew 19 = .ok (.iconst 1, 1) := by decide +kernel
theorem dL_periodAnew_20 : decode cL_periodAnew 20 = .ok (.ireturn, 1) := by decide +kernel
theorem dL_periodAnew_21 : decode cL_periodAnew 21 = .ok (.astore 6, 2) := by decide +kernel
theorem dL_periodAnew_23 : decode cL_periodAnew 23 = .ok (.iconst 2, 1) := by decide +kernel
theorem dL_periodAnew_24 : decode cL_periodAnew 24 = .ok (.ireturn, 1) := by decide +kernel
theorem dL_periodAnew_25 : decode cL_periodAnew 25 = .ok (.astore 6, 2) := by decide +kernel
theorem dL_periodAnew_27 : decode cL_periodAnew 27 = .ok (.iconst 3, 1) := by decide +kernel
theorem dL_periodAnew_28 : decode cL_periodAnew 28 = .ok (.ireturn, 1) := by decide +kernel
theorem dL_periodAnew_29 : decode cL_periodAnew 29 = .ok (.iconst 0, 1) := by decide +kernel
theorem dL_periodAnew_30 : decode cL_periodAnew 30 = .ok (.ireturn, 1) := by decide +kernel
set_option maxRecDepth 20000 in
theorem ggL_bounces_X6_bounces : GoodIn wsL_bounces wsX6_bounces := goodIn_ca (goodIn_ca (goodIn_ca (goodIn_r _ [8, 9, 10, 11, 12, 7, 13, 14, 15, 16, 17, 18, 19, 20, 21, 22, 23, 24, 25, 26, 27, 28, 29, 30, 31, 32, 33, 34, 35, 36, 37, 38, 39, 40, 41, 42, 43, 44, 45, 46, 47, 48, 49, 50, 51, 52, 53, 54, 55, 56, 57, 58, 59, 60, 61, 62, 63, 64, 65, 66, 67, 68, 69, 70, 71, 72, 73, 74, 75, 76, 77, 78, 79, 80, 81, 82, 83, 84, 85, 86, 87, 88, 89, 90, 91, 92] (by decide +kernel) (by decide +kernel)) (goodIn_sub (fun _ h => List.mem_cons_of_mem _ (List.mem_append_left _ (List.mem_append_left _ (List.mem_append_right _ h)))) (by decide +kernel))) (goodIn_sub (fun _ h => List.mem_cons_of_mem _ (List.mem_append_left _ (List.mem_append_right _ h))) (by decide +kernel))) (goodIn_sub (fun _ h => List.mem_cons_of_mem _ (List.mem_append_right _ h)) (by decide +kernel))
set_option maxRecDepth 20000 in
theorem gL_bounces_X6_bounces : GoodIn wsL_bounces (wsV RL 26 RX6 yX6_bounces wsX6_bounces) := goodIn_app (goodIn_of _ (by decide +kernel)) ggL_bounces_X6_bounces
theorem dL_bounces_0 : decode cL_bounces 0 = .ok (.aload 5, 2) := by decide +kernel
theorem dL_bounces_2 : decode cL_bounces 2 = .ok (.iconst 0, 1) := by decide +kernel
theorem dL_bounces_3 : decode cL_bounces 3 = .ok (.aload_n 0, 1) := by decide +kernel
theorem dL_bounces_4 : decode cL_bounces 4 = .ok (.iload_n 1, 1) := by decide +kernel
theorem dL_bounces_5 : decode cL_bounces 5 = .ok (.iload_n 2, 1) := by decide +kernel
theorem dL_bounces_6 : decode cL_bounces 6 = .ok (.iload_n 3, 1) := by decide +kernel
theorem dL_bounces_7 : decode cL_bounces 7 = .ok (.iload 4, 2) := by decide +kernel
theorem dL_bounces_9 : decode cL_bounces 9 = .ok (.invokevirtual 26, 3) := by decide +kernel
theorem dL_bounces_12 : decode cL_bounces 12 = .ok (.i2l, 1) := by decide +kernel
theorem dL_bounces_13 : decode cL_bounces 13 = .ok (.lastore, 1) := by decide +kernel
theorem dL_bounces_14 : decode cL_bounces 14 = .ok (.goto 15, 3) := by decide +kernel
theorem dL_bounces_17 : decode cL_bounces 17 = .ok (.astore 6, 2) := by decide +kernel
theorem dL_bounces_19 : decode cL_bounces 19 = .ok (.iconst 1, 1) := by decide +kernel
theorem dL_bounces_20 : decode cL_bounces 20 = .ok (.ireturn, 1) := by decide +kernel
theorem dL_bounces_21 : decode cL_bounces 21 = .ok (.astore 6, 2) := by decide +kernel
theorem dL_bounces_23 : decode cL_bounces 23 = .ok (.iconst 2, 1) := by decide +kernel
theorem dL_bounces_24 : decode cL_bounces 24 = .ok (.ireturn, 1) := by decide +kernel
theorem dL_bounces_25 : decode cL_bounces 25 = .ok (.astore 6, 2) := by decide +kernel
theorem dL_bounces_27 : decode cL_bounces 27 = .ok (.iconst 3, 1) := by decide +kernel
theorem dL_bounces_28 : decode cL_bounces 28 = .ok (.ireturn, 1) := by decide +kernel
theorem dL_bounces_29 : decode cL_bounces 29 = .ok (.iconst 0, 1) := by decide +kernel
theorem dL_bounces_30 : decode cL_bounces 30 = .ok (.ireturn, 1) := by decide +kernel
set_option maxRecDepth 20000 in
theorem ggL_touched_X6_touched : GoodIn wsL_touched wsX6_touched := goodIn_ca (goodIn_ca (goodIn_ca (goodIn_r _ [8, 9, 10, 11, 12, 7, 13, 14, 15, 16, 17, 18, 19, 20, 21, 22, 23, 24, 25, 26, 27, 28, 29, 30, 31, 32, 33, 34, 35, 36, 37, 38, 39, 40, 41, 42, 43, 44, 45, 46, 47, 48, 49, 50, 51, 52, 53, 54, 55, 56, 57, 58, 59, 60, 61, 62, 63, 64, 65, 66, 67, 68, 69, 70, 71, 72, 73, 74, 75, 76, 77, 78, 79, 80, 81, 82, 83, 84, 85, 86, 87, 88, 89, 90, 91, 92, 93, 94, 95] (by decide +kernel) (by decide +kernel)) (goodIn_sub (fun _ h => List.mem_cons_of_mem _ (List.mem_append_left _ (List.mem_append_left _ (List.mem_append_right _ h)))) (by decide +kernel))) (goodIn_sub (fun _ h => List.mem_cons_of_mem _ (List.mem_append_left _ (List.mem_append_right _ h))) (by decide +kernel))) (goodIn_sub (fun _ h => List.mem_cons_of_mem _ (List.mem_append_right _ h)) (by decide +kernel))
set_option maxRecDepth 20000 in
theorem gL_touched_X6_touched : GoodIn wsL_touched (wsV RL 29 RX6 yX6_touched wsX6_touched) := goodIn_app (goodIn_of _ (by decide +kernel)) ggL_touched_X6_touched
theorem dL_touched_0 : decode cL_touched 0 = .ok (.aload 5, 2) := by decide +kernel
theorem dL_touched_2 : decode cL_touched 2 = .ok (.iconst 0, 1) := by decide +kernel
theorem dL_touched_3 : decode cL_touched 3 = .ok (.aload_n 0, 1) := by decide +kernel
theorem dL_touched_4 : decode cL_touched 4 = .ok (.iload_n 1, 1) := by decide +kernel
theorem dL_touched_5 : decode cL_touched 5 = .ok (.iload_n 2, 1) := by decide +kernel
theorem dL_touched_6 : decode cL_touched 6 = .ok (.iload_n 3, 1) := by decide +kernel
theorem dL_touched_7 : decode cL_touched 7 = .ok (.iload 4, 2) := by decide +kernel
theorem dL_touched_9 : decode cL_touched 9 = .ok (.invokevirtual 29, 3) := by decide +kernel
theorem dL_touched_12 : decode cL_touched 12 = .ok (.i2l, 1) := by decide +kernel
theorem dL_touched_13 : decode cL_touched 13 = .ok (.lastore, 1) := by decide +kernel
theorem dL_touched_14 : decode cL_touched 14 = .ok (.goto 15, 3) := by decide +kernel
theorem dL_touched_17 : decode cL_touched 17 = .ok (.astore 6, 2) := by decide +kernel
theorem dL_touched_19 : decode cL_touched 19 = .ok (.iconst 1, 1) := by decide +kernel
theorem dL_touched_20 : decode cL_touched 20 = .ok (.ireturn, 1) := by decide +kernel
theorem dL_touched_21 : decode cL_touched 21 = .ok (.astore 6, 2) := by decide +kernel
theorem dL_touched_23 : decode cL_touched 23 = .ok (.iconst 2, 1) := by decide +kernel
theorem dL_touched_24 : decode cL_touched 24 = .ok (.ireturn, 1) := by decide +kernel
theorem dL_touched_25 : decode cL_touched 25 = .ok (.astore 6, 2) := by decide +kernel
theorem dL_touched_27 : decode cL_touched 27 = .ok (.iconst 3, 1) := by decide +kernel
theorem dL_touched_28 : decode cL_touched 28 = .ok (.ireturn, 1) := by decide +kernel
theorem dL_touched_29 : decode cL_touched 29 = .ok (.iconst 0, 1) := by decide +kernel
theorem dL_touched_30 : decode cL_touched 30 = .ok (.ireturn, 1) := by decide +kernel
set_option maxRecDepth 20000 in
theorem ggL_bounce_X6_bounce : GoodIn wsL_bounce wsX6_bounce := goodIn_ca (goodIn_ca (goodIn_ca (goodIn_r _ [8, 9, 10, 11, 12, 13, 7, 14, 15, 16, 17, 18, 19, 20, 21, 22, 23, 24, 25, 26, 27, 28, 29, 30, 31, 32, 33, 34, 35, 36, 37, 38, 39, 40, 41, 42, 43, 44, 45, 46, 47, 48, 49, 50, 51, 52, 53, 54, 55, 56, 57, 58, 59, 60, 61, 62, 63, 64, 65, 66, 67, 68, 69, 70, 71, 72, 73, 74, 75, 76, 77, 78, 79, 80, 81, 82, 83, 84, 85, 86, 87, 88, 89, 90, 91, 92, 93, 94, 95, 96, 97] (by decide +kernel) (by decide +kernel)) (goodIn_sub (fun _ h => List.mem_cons_of_mem _ (List.mem_append_left _ (List.mem_append_left _ (List.mem_append_right _ h)))) (by decide +kernel))) (goodIn_sub (fun _ h => List.mem_cons_of_mem _ (List.mem_append_left _ (List.mem_append_right _ h))) (by decide +kernel))) (goodIn_sub (fun _ h => List.mem_cons_of_mem _ (List.mem_append_right _ h)) (by decide +kernel))
set_option maxRecDepth 20000 in
theorem gL_bounce_X6_bounce : GoodIn wsL_bounce (wsV RL 32 RX6 yX6_bounce wsX6_bounce) := goodIn_app (goodIn_of _ (by decide +kernel)) ggL_bounce_X6_bounce
theorem dL_bounce_0 : decode cL_bounce 0 = .ok (.aload 6, 2) := by decide +kernel
theorem dL_bounce_2 : decode cL_bounce 2 = .ok (.iconst 0, 1) := by decide +kernel
theorem dL_bounce_3 : decode cL_bounce 3 = .ok (.aload_n 0, 1) := by decide +kernel
theorem dL_bounce_4 : decode cL_bounce 4 = .ok (.iload_n 1, 1) := by decide +kernel
theorem dL_bounce_5 : decode cL_bounce 5 = .ok (.iload_n 2, 1) := by decide +kernel
theorem dL_bounce_6 : decode cL_bounce 6 = .ok (.iload_n 3, 1) := by decide +kernel
theorem dL_bounce_7 : decode cL_bounce 7 = .ok (.iload 4, 2) := by decide +kernel
theorem dL_bounce_9 : decode cL_bounce 9 = .ok (.iload 5, 2) := by decide +kernel
theorem dL_bounce_11 : decode cL_bounce 11 = .ok (.invokevirtual 32, 3) := by decide +kernel
theorem dL_bounce_14 : decode cL_bounce 14 = .ok (.i2l, 1) := by decide +kernel
theorem dL_bounce_15 : decode cL_bounce 15 = .ok (.lastore, 1) := by decide +kernel
theorem dL_bounce_16 : decode cL_bounce 16 = .ok (.goto 15, 3) := by decide +kernel
theorem dL_bounce_19 : decode cL_bounce 19 = .ok (.astore 7, 2) := by decide +kernel
theorem dL_bounce_21 : decode cL_bounce 21 = .ok (.iconst 1, 1) := by decide +kernel
theorem dL_bounce_22 : decode cL_bounce 22 = .ok (.ireturn, 1) := by decide +kernel
theorem dL_bounce_23 : decode cL_bounce 23 = .ok (.astore 7, 2) := by decide +kernel
theorem dL_bounce_25 : decode cL_bounce 25 = .ok (.iconst 2, 1) := by decide +kernel
theorem dL_bounce_26 : decode cL_bounce 26 = .ok (.ireturn, 1) := by decide +kernel
theorem dL_bounce_27 : decode cL_bounce 27 = .ok (.astore 7, 2) := by decide +kernel
theorem dL_bounce_29 : decode cL_bounce 29 = .ok (.iconst 3, 1) := by decide +kernel
theorem dL_bounce_30 : decode cL_bounce 30 = .ok (.ireturn, 1) := by decide +kernel
theorem dL_bounce_31 : decode cL_bounce 31 = .ok (.iconst 0, 1) := by decide +kernel
theorem dL_bounce_32 : decode cL_bounce 32 = .ok (.ireturn, 1) := by decide +kernel
set_option maxRecDepth 20000 in
theorem ggL_state_X6_state : GoodIn wsL_state wsX6_state := goodIn_ca (goodIn_ca (goodIn_ca (goodIn_r _ [8, 9, 10, 11, 12, 13, 7, 14, 15, 16, 17, 18, 19, 20, 21, 22, 23, 24, 25, 26, 27, 28, 29, 30, 31, 32, 33, 34, 35, 36, 37, 38, 39, 40, 41, 42, 43, 44, 45, 46, 47, 48, 49, 50, 51, 52, 53, 54, 55, 56, 57, 58, 59, 60, 61, 62, 63, 64, 65, 66, 67, 68, 69, 70, 71, 72, 73, 74, 75, 76, 77, 78, 79, 80, 81, 82, 83, 84, 85, 86, 87, 88, 89, 90, 91, 92, 93] (by decide +kernel) (by decide +kernel)) (goodIn_sub (fun _ h => List.mem_cons_of_mem _ (List.mem_append_left _ (List.mem_append_left _ (List.mem_append_right _ h)))) (by decide +kernel))) (goodIn_sub (fun _ h => List.mem_cons_of_mem _ (List.mem_append_left _ (List.mem_append_right _ h))) (by decide +kernel))) (goodIn_sub (fun _ h => List.mem_cons_of_mem _ (List.mem_append_right _ h)) (by decide +kernel))
set_option maxRecDepth 20000 in
theorem gL_state_X6_state : GoodIn wsL_state (wsV RL 36 RX6 yX6_state wsX6_state) := goodIn_app (goodIn_of _ (by decide +kernel)) ggL_state_X6_state
theorem dL_state_0 : decode cL_state 0 = .ok (.aload 6, 2) := by decide +kernel
theorem dL_state_2 : decode cL_state 2 = .ok (.iconst 0, 1) := by decide +kernel
theorem dL_state_3 : decode cL_state 3 = .ok (.aload_n 0, 1) := by decide +kernel
theorem dL_state_4 : decode cL_state 4 = .ok (.iload_n 1, 1) := by decide +kernel
theorem dL_state_5 : decode cL_state 5 = .ok (.iload_n 2, 1) := by decide +kernel
theorem dL_state_6 : decode cL_state 6 = .ok (.iload_n 3, 1) := by decide +kernel
theorem dL_state_7 : decode cL_state 7 = .ok (.iload 4, 2) := by decide +kernel
theorem dL_state_9 : decode cL_state 9 = .ok (.iload 5, 2) := by decide +kernel
theorem dL_state_11 : decode cL_state 11 = .ok (.invokevirtual 36, 3) := by decide +kernel
theorem dL_state_14 : decode cL_state 14 = .ok (.i2l, 1) := by decide +kernel
theorem dL_state_15 : decode cL_state 15 = .ok (.lastore, 1) := by decide +kernel
theorem dL_state_16 : decode cL_state 16 = .ok (.goto 15, 3) := by decide +kernel
theorem dL_state_19 : decode cL_state 19 = .ok (.astore 7, 2) := by decide +kernel
theorem dL_state_21 : decode cL_state 21 = .ok (.iconst 1, 1) := by decide +kernel
theorem dL_state_22 : decode cL_state 22 = .ok (.ireturn, 1) := by decide +kernel
theorem dL_state_23 : decode cL_state 23 = .ok (.astore 7, 2) := by decide +kernel
theorem dL_state_25 : decode cL_state 25 = .ok (.iconst 2, 1) := by decide +kernel
theorem dL_state_26 : decode cL_state 26 = .ok (.ireturn, 1) := by decide +kernel
theorem dL_state_27 : decode cL_state 27 = .ok (.astore 7, 2) := by decide +kernel
theorem dL_state_29 : decode cL_state 29 = .ok (.iconst 3, 1) := by decide +kernel
theorem dL_state_30 : decode cL_state 30 = .ok (.ireturn, 1) := by decide +kernel
theorem dL_state_31 : decode cL_state 31 = .ok (.iconst 0, 1) := by decide +kernel
theorem dL_state_32 : decode cL_state 32 = .ok (.ireturn, 1) := by decide +kernel
set_option maxRecDepth 20000 in
theorem ggL_lamp_X6_lamp : GoodIn wsL_lamp wsX6_lamp := goodIn_ca (goodIn_ca (goodIn_r _ [7, 8, 9, 10, 11, 12, 6, 13, 14, 15, 16, 17, 18, 19, 20, 21, 22, 23, 24, 25, 26, 27, 28, 29, 30, 31, 32, 33, 34, 35, 36, 37, 38] (by decide +kernel) (by decide +kernel)) (goodIn_sub (fun _ h => List.mem_cons_of_mem _ (List.mem_append_left _ (List.mem_append_right _ h))) (by decide +kernel))) (goodIn_sub (fun _ h => List.mem_cons_of_mem _ (List.mem_append_right _ h)) (by decide +kernel))
set_option maxRecDepth 20000 in
theorem gL_lamp_X6_lamp : GoodIn wsL_lamp (wsV RL 39 RX6 yX6_lamp wsX6_lamp) := goodIn_app (goodIn_of _ (by decide +kernel)) ggL_lamp_X6_lamp
theorem dL_lamp_0 : decode cL_lamp 0 = .ok (.aload_n 3, 1) := by decide +kernel
theorem dL_lamp_1 : decode cL_lamp 1 = .ok (.iconst 0, 1) := by decide +kernel
theorem dL_lamp_2 : decode cL_lamp 2 = .ok (.aload_n 0, 1) := by decide +kernel
theorem dL_lamp_3 : decode cL_lamp 3 = .ok (.iload_n 1, 1) := by decide +kernel
theorem dL_lamp_4 : decode cL_lamp 4 = .ok (.iload_n 2, 1) := by decide +kernel
theorem dL_lamp_5 : decode cL_lamp 5 = .ok (.invokevirtual 39, 3) := by decide +kernel
theorem dL_lamp_8 : decode cL_lamp 8 = .ok (.i2l, 1) := by decide +kernel
theorem dL_lamp_9 : decode cL_lamp 9 = .ok (.lastore, 1) := by decide +kernel
theorem dL_lamp_10 : decode cL_lamp 10 = .ok (.goto 11, 3) := by decide +kernel
theorem dL_lamp_13 : decode cL_lamp 13 = .ok (.astore 4, 2) := by decide +kernel
theorem dL_lamp_15 : decode cL_lamp 15 = .ok (.iconst 1, 1) := by decide +kernel
theorem dL_lamp_16 : decode cL_lamp 16 = .ok (.ireturn, 1) := by decide +kernel
theorem dL_lamp_17 : decode cL_lamp 17 = .ok (.astore 4, 2) := by decide +kernel
theorem dL_lamp_19 : decode cL_lamp 19 = .ok (.iconst 2, 1) := by decide +kernel
theorem dL_lamp_20 : decode cL_lamp 20 = .ok (.ireturn, 1) := by decide +kernel
theorem dL_lamp_21 : decode cL_lamp 21 = .ok (.iconst 0, 1) := by decide +kernel
theorem dL_lamp_22 : decode cL_lamp 22 = .ok (.ireturn, 1) := by decide +kernel
set_option maxRecDepth 20000 in
theorem ggL_sees_X6_sees : GoodIn wsL_sees wsX6_sees := goodIn_ca (goodIn_r _ [6, 7, 8, 9, 5, 10, 11, 12, 13, 14, 15, 16, 17, 18, 19, 20, 21, 22, 23, 24, 25, 26, 27, 28, 29, 30, 31, 32, 33, 34, 35, 36, 37, 38, 39, 40, 41, 42, 43, 44, 45] (by decide +kernel) (by decide +kernel)) (goodIn_sub (fun _ h => List.mem_cons_of_mem _ (List.mem_append_right _ h)) (by decide +kernel))
set_option maxRecDepth 20000 in
theorem gL_sees_X6_sees : GoodIn wsL_sees (wsV RL 43 RX6 yX6_sees wsX6_sees) := goodIn_app (goodIn_of _ (by decide +kernel)) ggL_sees_X6_sees
theorem dL_sees_0 : decode cL_sees 0 = .ok (.aload 5, 2) := by decide +kernel
theorem dL_sees_2 : decode cL_sees 2 = .ok (.iconst 0, 1) := by decide +kernel
theorem dL_sees_3 : decode cL_sees 3 = .ok (.aload_n 0, 1) := by decide +kernel
theorem dL_sees_4 : decode cL_sees 4 = .ok (.iload_n 1, 1) := by decide +kernel
theorem dL_sees_5 : decode cL_sees 5 = .ok (.iload_n 2, 1) := by decide +kernel
theorem dL_sees_6 : decode cL_sees 6 = .ok (.iload_n 3, 1) := by decide +kernel
theorem dL_sees_7 : decode cL_sees 7 = .ok (.iload 4, 2) := by decide +kernel
theorem dL_sees_9 : decode cL_sees 9 = .ok (.invokevirtual 43, 3) := by decide +kernel
theorem dL_sees_12 : decode cL_sees 12 = .ok (.ifCond .eq 7, 3) := by decide +kernel
theorem dL_sees_15 : decode cL_sees 15 = .ok (.lconst 1, 1) := by decide +kernel
theorem dL_sees_16 : decode cL_sees 16 = .ok (.goto 4, 3) := by decide +kernel
theorem dL_sees_19 : decode cL_sees 19 = .ok (.lconst 0, 1) := by decide +kernel
theorem dL_sees_20 : decode cL_sees 20 = .ok (.lastore, 1) := by decide +kernel
theorem dL_sees_21 : decode cL_sees 21 = .ok (.goto 7, 3) := by decide +kernel
theorem dL_sees_24 : decode cL_sees 24 = .ok (.astore 6, 2) := by decide +kernel
theorem dL_sees_26 : decode cL_sees 26 = .ok (.iconst 1, 1) := by decide +kernel
theorem dL_sees_27 : decode cL_sees 27 = .ok (.ireturn, 1) := by decide +kernel
theorem dL_sees_28 : decode cL_sees 28 = .ok (.iconst 0, 1) := by decide +kernel
theorem dL_sees_29 : decode cL_sees 29 = .ok (.ireturn, 1) := by decide +kernel
set_option maxRecDepth 20000 in
theorem ggL_seesAnew_X6_seesAnew : GoodIn wsL_seesAnew wsX6_seesAnew := goodIn_ca (goodIn_r _ [6, 7, 8, 9, 5, 10, 11, 12, 13, 14, 15, 16, 17, 18, 19, 20, 21, 22, 23, 24, 25, 26, 27, 28, 29, 30, 31, 32, 33, 34, 35, 36, 37, 38, 39, 40] (by decide +kernel) (by decide +kernel)) (goodIn_sub (fun _ h => List.mem_cons_of_mem _ (List.mem_append_right _ h)) (by decide +kernel))
set_option maxRecDepth 20000 in
theorem gL_seesAnew_X6_seesAnew : GoodIn wsL_seesAnew (wsV RL 47 RX6 yX6_seesAnew wsX6_seesAnew) := goodIn_app (goodIn_of _ (by decide +kernel)) ggL_seesAnew_X6_seesAnew
theorem dL_seesAnew_0 : decode cL_seesAnew 0 = .ok (.aload 5, 2) := by decide +kernel
theorem dL_seesAnew_2 : decode cL_seesAnew 2 = .ok (.iconst 0, 1) := by decide +kernel
theorem dL_seesAnew_3 : decode cL_seesAnew 3 = .ok (.aload_n 0, 1) := by decide +kernel
theorem dL_seesAnew_4 : decode cL_seesAnew 4 = .ok (.iload_n 1, 1) := by decide +kernel
theorem dL_seesAnew_5 : decode cL_seesAnew 5 = .ok (.iload_n 2, 1) := by decide +kernel
theorem dL_seesAnew_6 : decode cL_seesAnew 6 = .ok (.iload_n 3, 1) := by decide +kernel
theorem dL_seesAnew_7 : decode cL_seesAnew 7 = .ok (.iload 4, 2) := by decide +kernel
theorem dL_seesAnew_9 : decode cL_seesAnew 9 = .ok (.invokevirtual 47, 3) := by decide +kernel
theorem dL_seesAnew_12 : decode cL_seesAnew 12 = .ok (.ifCond .eq 7, 3) := by decide +kernel
theorem dL_seesAnew_15 : decode cL_seesAnew 15 = .ok (.lconst 1, 1) := by decide +kernel
theorem dL_seesAnew_16 : decode cL_seesAnew 16 = .ok (.goto 4, 3) := by decide +kernel
theorem dL_seesAnew_19 : decode cL_seesAnew 19 = .ok (.lconst 0, 1) := by decide +kernel
theorem dL_seesAnew_20 : decode cL_seesAnew 20 = .ok (.lastore, 1) := by decide +kernel
theorem dL_seesAnew_21 : decode cL_seesAnew 21 = .ok (.goto 7, 3) := by decide +kernel
theorem dL_seesAnew_24 : decode cL_seesAnew 24 = .ok (.astore 6, 2) := by decide +kernel
theorem dL_seesAnew_26 : decode cL_seesAnew 26 = .ok (.iconst 1, 1) := by decide +kernel
theorem dL_seesAnew_27 : decode cL_seesAnew 27 = .ok (.ireturn, 1) := by decide +kernel
theorem dL_seesAnew_28 : decode cL_seesAnew 28 = .ok (.iconst 0, 1) := by decide +kernel
theorem dL_seesAnew_29 : decode cL_seesAnew 29 = .ok (.ireturn, 1) := by decide +kernel
set_option maxRecDepth 20000 in
theorem ggL_surface_X6_surface : GoodIn wsL_surface wsX6_surface := goodIn_ca (goodIn_r _ [6, 7, 8, 9, 5, 10, 11, 12, 13, 14, 15, 16, 17, 18, 19, 20, 21, 22, 23, 24, 25, 26, 27, 28, 29, 30, 31, 32, 33, 34, 35, 36, 37, 38, 39, 40, 41, 42, 43, 44, 45, 46, 47, 48, 49, 50, 51, 52, 53, 54, 55, 56] (by decide +kernel) (by decide +kernel)) (goodIn_sub (fun _ h => List.mem_cons_of_mem _ (List.mem_append_right _ h)) (by decide +kernel))
set_option maxRecDepth 20000 in
theorem gL_surface_X6_surface : GoodIn wsL_surface (wsV RL 50 RX6 yX6_surface wsX6_surface) := goodIn_app (goodIn_of _ (by decide +kernel)) ggL_surface_X6_surface
theorem dL_surface_0 : decode cL_surface 0 = .ok (.aload_n 2, 1) := by decide +kernel
theorem dL_surface_1 : decode cL_surface 1 = .ok (.iconst 0, 1) := by decide +kernel
theorem dL_surface_2 : decode cL_surface 2 = .ok (.aload_n 0, 1) := by decide +kernel
theorem dL_surface_3 : decode cL_surface 3 = .ok (.iload_n 1, 1) := by decide +kernel
theorem dL_surface_4 : decode cL_surface 4 = .ok (.invokevirtual 50, 3) := by decide +kernel
theorem dL_surface_7 : decode cL_surface 7 = .ok (.i2l, 1) := by decide +kernel
theorem dL_surface_8 : decode cL_surface 8 = .ok (.lastore, 1) := by decide +kernel
theorem dL_surface_9 : decode cL_surface 9 = .ok (.goto 6, 3) := by decide +kernel
theorem dL_surface_12 : decode cL_surface 12 = .ok (.astore_n 3, 1) := by decide +kernel
theorem dL_surface_13 : decode cL_surface 13 = .ok (.iconst 1, 1) := by decide +kernel
theorem dL_surface_14 : decode cL_surface 14 = .ok (.ireturn, 1) := by decide +kernel
theorem dL_surface_15 : decode cL_surface 15 = .ok (.iconst 0, 1) := by decide +kernel
theorem dL_surface_16 : decode cL_surface 16 = .ok (.ireturn, 1) := by decide +kernel
set_option maxRecDepth 20000 in
theorem ggL_glue_X6_glue : GoodIn wsL_glue wsX6_glue := goodIn_ca (goodIn_r _ [6, 7, 8, 9, 10, 11, 12, 13, 14, 15, 5, 16, 17, 18, 19, 20, 21, 22, 23, 24, 25, 26, 27, 28, 29, 30, 31, 32, 33, 34, 35, 36, 37, 38, 39, 40, 41, 42, 43, 44, 45, 46, 47, 48, 49, 50, 51, 52, 53, 54, 55, 56, 57, 58, 59, 60] (by decide +kernel) (by decide +kernel)) (goodIn_sub (fun _ h => List.mem_cons_of_mem _ (List.mem_append_right _ h)) (by decide +kernel))
set_option maxRecDepth 20000 in
theorem gL_glue_X6_glue : GoodIn wsL_glue (wsV RL 54 RX6 yX6_glue wsX6_glue) := goodIn_app (goodIn_of _ (by decide +kernel)) ggL_glue_X6_glue
theorem dL_glue_0 : decode cL_glue 0 = .ok (.aload 4, 2) := by decide +kernel
theorem dL_glue_2 : decode cL_glue 2 = .ok (.iconst 0, 1) := by decide +kernel
theorem dL_glue_3 : decode cL_glue 3 = .ok (.aload_n 0, 1) := by decide +kernel
theorem dL_glue_4 : decode cL_glue 4 = .ok (.iload_n 1, 1) := by decide +kernel
theorem dL_glue_5 : decode cL_glue 5 = .ok (.iload_n 2, 1) := by decide +kernel
theorem dL_glue_6 : decode cL_glue 6 = .ok (.iload_n 3, 1) := by decide +kernel
theorem dL_glue_7 : decode cL_glue 7 = .ok (.invokevirtual 54, 3) := by decide +kernel
theorem dL_glue_10 : decode cL_glue 10 = .ok (.i2l, 1) := by decide +kernel
theorem dL_glue_11 : decode cL_glue 11 = .ok (.lastore, 1) := by decide +kernel
theorem dL_glue_12 : decode cL_glue 12 = .ok (.goto 7, 3) := by decide +kernel
theorem dL_glue_15 : decode cL_glue 15 = .ok (.astore 5, 2) := by decide +kernel
theorem dL_glue_17 : decode cL_glue 17 = .ok (.iconst 1, 1) := by decide +kernel
theorem dL_glue_18 : decode cL_glue 18 = .ok (.ireturn, 1) := by decide +kernel
theorem dL_glue_19 : decode cL_glue 19 = .ok (.iconst 0, 1) := by decide +kernel
theorem dL_glue_20 : decode cL_glue 20 = .ok (.ireturn, 1) := by decide +kernel
set_option maxRecDepth 20000 in
theorem ggL_square_X6_square : GoodIn wsL_square wsX6_square := goodIn_ca (goodIn_ca (goodIn_r _ [7, 8, 9, 10, 11, 12, 13, 14, 15, 16, 6, 17, 18, 19, 20, 21, 22, 23, 24, 25, 26, 27, 28, 29, 30, 31, 32, 33, 34, 35, 36, 37, 38, 39, 40, 41, 42, 43, 44, 45, 46, 47, 48, 49, 50, 51, 52, 53, 54, 55, 56, 57, 58, 59, 60, 61, 62, 63, 64, 65, 66, 67, 68, 69, 70, 71, 72, 73, 74, 75, 76, 77, 78, 79, 80, 81, 82, 83, 84, 85, 86, 87, 88, 89, 90, 91, 92] (by decide +kernel) (by decide +kernel)) (goodIn_sub (fun _ h => List.mem_cons_of_mem _ (List.mem_append_left _ (List.mem_append_right _ h))) (by decide +kernel))) (goodIn_sub (fun _ h => List.mem_cons_of_mem _ (List.mem_append_right _ h)) (by decide +kernel))
set_option maxRecDepth 20000 in
theorem gL_square_X6_square : GoodIn wsL_square (wsV RL 58 RX6 yX6_square wsX6_square) := goodIn_app (goodIn_of _ (by decide +kernel)) ggL_square_X6_square
theorem dL_square_0 : decode cL_square 0 = .ok (.aload_n 3, 1) := by decide +kernel
theorem dL_square_1 : decode cL_square 1 = .ok (.iconst 0, 1) := by decide +kernel
theorem dL_square_2 : decode cL_square 2 = .ok (.aload_n 0, 1) := by decide +kernel
theorem dL_square_3 : decode cL_square 3 = .ok (.iload_n 1, 1) := by decide +kernel
theorem dL_square_4 : decode cL_square 4 = .ok (.iload_n 2, 1) := by decide +kernel
theorem dL_square_5 : decode cL_square 5 = .ok (.invokevirtual 58, 3) := by decide +kernel
theorem dL_square_8 : decode cL_square 8 = .ok (.i2l, 1) := by decide +kernel
theorem dL_square_9 : decode cL_square 9 = .ok (.lastore, 1) := by decide +kernel
theorem dL_square_10 : decode cL_square 10 = .ok (.goto 11, 3) := by decide +kernel
theorem dL_square_13 : decode cL_square 13 = .ok (.astore 4, 2) := by decide +kernel
theorem dL_square_15 : decode cL_square 15 = .ok (.iconst 1, 1) := by decide +kernel
theorem dL_square_16 : decode cL_square 16 = .ok (.ireturn, 1) := by decide +kernel
theorem dL_square_17 : decode cL_square 17 = .ok (.astore 4, 2) := by decide +kernel
theorem dL_square_19 : decode cL_square 19 = .ok (.iconst 2, 1) := by decide +kernel
theorem dL_square_20 : decode cL_square 20 = .ok (.ireturn, 1) := by decide +kernel
theorem dL_square_21 : decode cL_square 21 = .ok (.iconst 0, 1) := by decide +kernel
theorem dL_square_22 : decode cL_square 22 = .ok (.ireturn, 1) := by decide +kernel
set_option maxRecDepth 20000 in
theorem ggL_count_X6_count : GoodIn wsL_count wsX6_count := goodIn_ca (goodIn_r _ [6, 7, 8, 9, 5, 10, 11, 12, 13, 14, 15, 16, 17, 18, 19, 20, 21, 22, 23, 24, 25, 26, 27, 28, 29, 30, 31, 32, 33, 34, 35, 36, 37, 38, 39, 40, 41, 42, 43, 44, 45, 46, 47, 48, 49, 50, 51, 52, 53, 54, 55, 56, 57, 58, 59, 60, 61, 62, 63, 64, 65, 66, 67, 68, 69] (by decide +kernel) (by decide +kernel)) (goodIn_sub (fun _ h => List.mem_cons_of_mem _ (List.mem_append_right _ h)) (by decide +kernel))
set_option maxRecDepth 20000 in
theorem gL_count_X6_count : GoodIn wsL_count (wsV RL 61 RX6 yX6_count wsX6_count) := goodIn_app (goodIn_of _ (by decide +kernel)) ggL_count_X6_count
theorem dL_count_0 : decode cL_count 0 = .ok (.aload_n 2, 1) := by decide +kernel
theorem dL_count_1 : decode cL_count 1 = .ok (.iconst 0, 1) := by decide +kernel
theorem dL_count_2 : decode cL_count 2 = .ok (.aload_n 0, 1) := by decide +kernel
theorem dL_count_3 : decode cL_count 3 = .ok (.iload_n 1, 1) := by decide +kernel
theorem dL_count_4 : decode cL_count 4 = .ok (.invokevirtual 61, 3) := by decide +kernel
theorem dL_count_7 : decode cL_count 7 = .ok (.i2l, 1) := by decide +kernel
theorem dL_count_8 : decode cL_count 8 = .ok (.lastore, 1) := by decide +kernel
theorem dL_count_9 : decode cL_count 9 = .ok (.goto 6, 3) := by decide +kernel
theorem dL_count_12 : decode cL_count 12 = .ok (.astore_n 3, 1) := by decide +kernel
theorem dL_count_13 : decode cL_count 13 = .ok (.iconst 1, 1) := by decide +kernel
theorem dL_count_14 : decode cL_count 14 = .ok (.ireturn, 1) := by decide +kernel
theorem dL_count_15 : decode cL_count 15 = .ok (.iconst 0, 1) := by decide +kernel
theorem dL_count_16 : decode cL_count 16 = .ok (.ireturn, 1) := by decide +kernel
set_option maxRecDepth 20000 in
theorem ggL_genus_X6_genus : GoodIn wsL_genus wsX6_genus := goodIn_ca (goodIn_r _ [6, 7, 8, 9, 10, 11, 12, 13, 14, 15, 16, 17, 18, 19, 20, 21, 22, 23, 24, 25, 26, 27, 28, 29, 30, 31, 32, 5, 33, 34, 35, 36, 37, 38, 39, 40, 41, 42, 43, 44, 45, 46, 47, 48, 49, 50, 51, 52, 53, 54, 55, 56, 57, 58, 59, 60, 61, 62, 63, 64, 65, 66] (by decide +kernel) (by decide +kernel)) (goodIn_sub (fun _ h => List.mem_cons_of_mem _ (List.mem_append_right _ h)) (by decide +kernel))
set_option maxRecDepth 20000 in
theorem gL_genus_X6_genus : GoodIn wsL_genus (wsV RL 64 RX6 yX6_genus wsX6_genus) := goodIn_app (goodIn_of _ (by decide +kernel)) ggL_genus_X6_genus
theorem dL_genus_0 : decode cL_genus 0 = .ok (.aload_n 1, 1) := by decide +kernel
theorem dL_genus_1 : decode cL_genus 1 = .ok (.iconst 0, 1) := by decide +kernel
theorem dL_genus_2 : decode cL_genus 2 = .ok (.aload_n 0, 1) := by decide +kernel
theorem dL_genus_3 : decode cL_genus 3 = .ok (.invokevirtual 64, 3) := by decide +kernel
theorem dL_genus_6 : decode cL_genus 6 = .ok (.i2l, 1) := by decide +kernel
theorem dL_genus_7 : decode cL_genus 7 = .ok (.lastore, 1) := by decide +kernel
theorem dL_genus_8 : decode cL_genus 8 = .ok (.goto 6, 3) := by decide +kernel
theorem dL_genus_11 : decode cL_genus 11 = .ok (.astore_n 2, 1) := by decide +kernel
theorem dL_genus_12 : decode cL_genus 12 = .ok (.iconst 1, 1) := by decide +kernel
theorem dL_genus_13 : decode cL_genus 13 = .ok (.ireturn, 1) := by decide +kernel
theorem dL_genus_14 : decode cL_genus 14 = .ok (.iconst 0, 1) := by decide +kernel
theorem dL_genus_15 : decode cL_genus 15 = .ok (.ireturn, 1) := by decide +kernel
set_option maxRecDepth 20000 in
theorem ggL_interval_X6_interval : GoodIn wsL_interval wsX6_interval := goodIn_ca (goodIn_ca (goodIn_r _ [7, 8, 9, 10, 11, 12, 6, 13, 14, 15, 16, 17, 18, 19, 20, 21, 22, 23, 24, 25, 26, 27, 28, 29, 30, 31, 32, 33, 34, 35, 36, 37, 38, 39, 40] (by decide +kernel) (by decide +kernel)) (goodIn_sub (fun _ h => List.mem_cons_of_mem _ (List.mem_append_left _ (List.mem_append_right _ h))) (by decide +kernel))) (goodIn_sub (fun _ h => List.mem_cons_of_mem _ (List.mem_append_right _ h)) (by decide +kernel))
set_option maxRecDepth 20000 in
theorem gL_interval_X6_interval : GoodIn wsL_interval (wsV RL 68 RX6 yX6_interval wsX6_interval) := goodIn_app (goodIn_of _ (by decide +kernel)) ggL_interval_X6_interval
theorem dL_interval_0 : decode cL_interval 0 = .ok (.aload_n 2, 1) := by decide +kernel
theorem dL_interval_1 : decode cL_interval 1 = .ok (.iconst 0, 1) := by decide +kernel
theorem dL_interval_2 : decode cL_interval 2 = .ok (.aload_n 0, 1) := by decide +kernel
theorem dL_interval_3 : decode cL_interval 3 = .ok (.iload_n 1, 1) := by decide +kernel
theorem dL_interval_4 : decode cL_interval 4 = .ok (.invokevirtual 68, 3) := by decide +kernel
theorem dL_interval_7 : decode cL_interval 7 = .ok (.i2l, 1) := by decide +kernel
theorem dL_interval_8 : decode cL_interval 8 = .ok (.lastore, 1) := by decide +kernel
theorem dL_interval_9 : decode cL_interval 9 = .ok (.goto 9, 3) := by decide +kernel
theorem dL_interval_12 : decode cL_interval 12 = .ok (.astore_n 3, 1) := by decide +kernel
theorem dL_interval_13 : decode cL_interval 13 = .ok (.iconst 1, 1) := by decide +kernel
theorem dL_interval_14 : decode cL_interval 14 = .ok (.ireturn, 1) := by decide +kernel
theorem dL_interval_15 : decode cL_interval 15 = .ok (.astore_n 3, 1) := by decide +kernel
theorem dL_interval_16 : decode cL_interval 16 = .ok (.iconst 2, 1) := by decide +kernel
theorem dL_interval_17 : decode cL_interval 17 = .ok (.ireturn, 1) := by decide +kernel
theorem dL_interval_18 : decode cL_interval 18 = .ok (.iconst 0, 1) := by decide +kernel
theorem dL_interval_19 : decode cL_interval 19 = .ok (.ireturn, 1) := by decide +kernel
set_option maxRecDepth 20000 in
theorem ggL_swap_X6_swap : GoodIn wsL_swap wsX6_swap := goodIn_ca (goodIn_r _ [6, 7, 8, 9, 10, 11, 12, 13, 14, 15, 5, 16, 17, 18, 19, 20, 21, 22, 23, 24, 25, 26, 27, 28, 29, 30, 31, 32, 33, 34, 35, 36, 37, 38, 39, 40, 41] (by decide +kernel) (by decide +kernel)) (goodIn_sub (fun _ h => List.mem_cons_of_mem _ (List.mem_append_right _ h)) (by decide +kernel))
set_option maxRecDepth 20000 in
theorem gL_swap_X6_swap : GoodIn wsL_swap (wsV RL 71 RX6 yX6_swap wsX6_swap) := goodIn_app (goodIn_of _ (by decide +kernel)) ggL_swap_X6_swap
theorem dL_swap_0 : decode cL_swap 0 = .ok (.aload_n 3, 1) := by decide +kernel
theorem dL_swap_1 : decode cL_swap 1 = .ok (.iconst 0, 1) := by decide +kernel
theorem dL_swap_2 : decode cL_swap 2 = .ok (.aload_n 0, 1) := by decide +kernel
theorem dL_swap_3 : decode cL_swap 3 = .ok (.iload_n 1, 1) := by decide +kernel
theorem dL_swap_4 : decode cL_swap 4 = .ok (.iload_n 2, 1) := by decide +kernel
theorem dL_swap_5 : decode cL_swap 5 = .ok (.invokevirtual 71, 3) := by decide +kernel
theorem dL_swap_8 : decode cL_swap 8 = .ok (.i2l, 1) := by decide +kernel
theorem dL_swap_9 : decode cL_swap 9 = .ok (.lastore, 1) := by decide +kernel
theorem dL_swap_10 : decode cL_swap 10 = .ok (.goto 7, 3) := by decide +kernel
theorem dL_swap_13 : decode cL_swap 13 = .ok (.astore 4, 2) := by decide +kernel
theorem dL_swap_15 : decode cL_swap 15 = .ok (.iconst 1, 1) := by decide +kernel
theorem dL_swap_16 : decode cL_swap 16 = .ok (.ireturn, 1) := by decide +kernel
theorem dL_swap_17 : decode cL_swap 17 = .ok (.iconst 0, 1) := by decide +kernel
theorem dL_swap_18 : decode cL_swap 18 = .ok (.ireturn, 1) := by decide +kernel
set_option maxRecDepth 20000 in
theorem ggL_induce_X6_induce : GoodIn wsL_induce wsX6_induce := goodIn_ca (goodIn_r _ [6, 7, 8, 9, 10, 11, 12, 13, 14, 15, 16, 17, 18, 19, 5, 20, 21, 22, 23, 24, 25, 26, 27, 28, 29, 30, 31, 32, 33, 34, 35, 36, 37, 38, 39, 40, 41, 42, 43, 44, 45, 46, 47] (by decide +kernel) (by decide +kernel)) (goodIn_sub (fun _ h => List.mem_cons_of_mem _ (List.mem_append_right _ h)) (by decide +kernel))
set_option maxRecDepth 20000 in
theorem gL_induce_X6_induce : GoodIn wsL_induce (wsV RL 74 RX6 yX6_induce wsX6_induce) := goodIn_app (goodIn_of _ (by decide +kernel)) ggL_induce_X6_induce
theorem dL_induce_0 : decode cL_induce 0 = .ok (.aload_n 1, 1) := by decide +kernel
theorem dL_induce_1 : decode cL_induce 1 = .ok (.iconst 0, 1) := by decide +kernel
theorem dL_induce_2 : decode cL_induce 2 = .ok (.aload_n 0, 1) := by decide +kernel
theorem dL_induce_3 : decode cL_induce 3 = .ok (.invokevirtual 74, 3) := by decide +kernel
theorem dL_induce_6 : decode cL_induce 6 = .ok (.i2l, 1) := by decide +kernel
theorem dL_induce_7 : decode cL_induce 7 = .ok (.lastore, 1) := by decide +kernel
theorem dL_induce_8 : decode cL_induce 8 = .ok (.goto 6, 3) := by decide +kernel
theorem dL_induce_11 : decode cL_induce 11 = .ok (.astore_n 2, 1) := by decide +kernel
theorem dL_induce_12 : decode cL_induce 12 = .ok (.iconst 1, 1) := by decide +kernel
theorem dL_induce_13 : decode cL_induce 13 = .ok (.ireturn, 1) := by decide +kernel
theorem dL_induce_14 : decode cL_induce 14 = .ok (.iconst 0, 1) := by decide +kernel
theorem dL_induce_15 : decode cL_induce 15 = .ok (.ireturn, 1) := by decide +kernel
set_option maxRecDepth 20000 in
theorem ggL_told_X6_told : GoodIn wsL_told wsX6_told := goodIn_ca (goodIn_ca (goodIn_r _ [7, 8, 9, 10, 11, 12, 13, 14, 15, 16, 6, 17, 18, 19, 20, 21, 22, 23, 24, 25, 26, 27, 28, 29, 30, 31, 32, 33, 34, 35, 36, 37, 38, 39, 40, 41, 42, 43, 44, 45, 46, 47, 48, 49, 50, 51] (by decide +kernel) (by decide +kernel)) (goodIn_sub (fun _ h => List.mem_cons_of_mem _ (List.mem_append_left _ (List.mem_append_right _ h))) (by decide +kernel))) (goodIn_sub (fun _ h => List.mem_cons_of_mem _ (List.mem_append_right _ h)) (by decide +kernel))
set_option maxRecDepth 20000 in
theorem gL_told_X6_told : GoodIn wsL_told (wsV RL 77 RX6 yX6_told wsX6_told) := goodIn_app (goodIn_of _ (by decide +kernel)) ggL_told_X6_told
theorem dL_told_0 : decode cL_told 0 = .ok (.aload_n 3, 1) := by decide +kernel
theorem dL_told_1 : decode cL_told 1 = .ok (.iconst 0, 1) := by decide +kernel
theorem dL_told_2 : decode cL_told 2 = .ok (.aload_n 0, 1) := by decide +kernel
theorem dL_told_3 : decode cL_told 3 = .ok (.iload_n 1, 1) := by decide +kernel
theorem dL_told_4 : decode cL_told 4 = .ok (.iload_n 2, 1) := by decide +kernel
theorem dL_told_5 : decode cL_told 5 = .ok (.invokevirtual 77, 3) := by decide +kernel
theorem dL_told_8 : decode cL_told 8 = .ok (.i2l, 1) := by decide +kernel
theorem dL_told_9 : decode cL_told 9 = .ok (.lastore, 1) := by decide +kernel
theorem dL_told_10 : decode cL_told 10 = .ok (.goto 11, 3) := by decide +kernel
theorem dL_told_13 : decode cL_told 13 = .ok (.astore 4, 2) := by decide +kernel
theorem dL_told_15 : decode cL_told 15 = .ok (.iconst 1, 1) := by decide +kernel
theorem dL_told_16 : decode cL_told 16 = .ok (.ireturn, 1) := by decide +kernel
theorem dL_told_17 : decode cL_told 17 = .ok (.astore 4, 2) := by decide +kernel
theorem dL_told_19 : decode cL_told 19 = .ok (.iconst 2, 1) := by decide +kernel
theorem dL_told_20 : decode cL_told 20 = .ok (.ireturn, 1) := by decide +kernel
theorem dL_told_21 : decode cL_told 21 = .ok (.iconst 0, 1) := by decide +kernel
theorem dL_told_22 : decode cL_told 22 = .ok (.ireturn, 1) := by decide +kernel
set_option maxRecDepth 20000 in
theorem ggL_image_X6_image : GoodIn wsL_image wsX6_image := goodIn_ca (goodIn_r _ [6, 7, 8, 9, 10, 11, 12, 13, 14, 15, 5, 16, 17, 18, 19, 20, 21, 22, 23, 24, 25, 26, 27, 28, 29, 30, 31, 32, 33, 34, 35, 36, 37, 38, 39, 40, 41, 42, 43, 44, 45] (by decide +kernel) (by decide +kernel)) (goodIn_sub (fun _ h => List.mem_cons_of_mem _ (List.mem_append_right _ h)) (by decide +kernel))
set_option maxRecDepth 20000 in
theorem gL_image_X6_image : GoodIn wsL_image (wsV RL 80 RX6 yX6_image wsX6_image) := goodIn_app (goodIn_of _ (by decide +kernel)) ggL_image_X6_image
theorem dL_image_0 : decode cL_image 0 = .ok (.aload_n 2, 1) := by decide +kernel
theorem dL_image_1 : decode cL_image 1 = .ok (.iconst 0, 1) := by decide +kernel
theorem dL_image_2 : decode cL_image 2 = .ok (.aload_n 0, 1) := by decide +kernel
theorem dL_image_3 : decode cL_image 3 = .ok (.iload_n 1, 1) := by decide +kernel
theorem dL_image_4 : decode cL_image 4 = .ok (.invokevirtual 80, 3) := by decide +kernel
theorem dL_image_7 : decode cL_image 7 = .ok (.i2l, 1) := by decide +kernel
theorem dL_image_8 : decode cL_image 8 = .ok (.lastore, 1) := by decide +kernel
theorem dL_image_9 : decode cL_image 9 = .ok (.goto 6, 3) := by decide +kernel
theorem dL_image_12 : decode cL_image 12 = .ok (.astore_n 3, 1) := by decide +kernel
theorem dL_image_13 : decode cL_image 13 = .ok (.iconst 1, 1) := by decide +kernel
theorem dL_image_14 : decode cL_image 14 = .ok (.ireturn, 1) := by decide +kernel
theorem dL_image_15 : decode cL_image 15 = .ok (.iconst 0, 1) := by decide +kernel
theorem dL_image_16 : decode cL_image 16 = .ok (.ireturn, 1) := by decide +kernel
set_option maxRecDepth 20000 in
theorem ggL_back_X6_back : GoodIn wsL_back wsX6_back := goodIn_ca (goodIn_r _ [6, 7, 8, 9, 10, 11, 12, 13, 14, 15, 5, 16, 17, 18, 19, 20, 21, 22, 23, 24, 25, 26, 27, 28, 29, 30, 31, 32, 33, 34, 35, 36, 37, 38, 39, 40, 41, 42, 43, 44, 45] (by decide +kernel) (by decide +kernel)) (goodIn_sub (fun _ h => List.mem_cons_of_mem _ (List.mem_append_right _ h)) (by decide +kernel))
set_option maxRecDepth 20000 in
theorem gL_back_X6_back : GoodIn wsL_back (wsV RL 83 RX6 yX6_back wsX6_back) := goodIn_app (goodIn_of _ (by decide +kernel)) ggL_back_X6_back
theorem dL_back_0 : decode cL_back 0 = .ok (.aload_n 2, 1) := by decide +kernel
theorem dL_back_1 : decode cL_back 1 = .ok (.iconst 0, 1) := by decide +kernel
theorem dL_back_2 : decode cL_back 2 = .ok (.aload_n 0, 1) := by decide +kernel
theorem dL_back_3 : decode cL_back 3 = .ok (.iload_n 1, 1) := by decide +kernel
theorem dL_back_4 : decode cL_back 4 = .ok (.invokevirtual 83, 3) := by decide +kernel
theorem dL_back_7 : decode cL_back 7 = .ok (.i2l, 1) := by decide +kernel
theorem dL_back_8 : decode cL_back 8 = .ok (.lastore, 1) := by decide +kernel
theorem dL_back_9 : decode cL_back 9 = .ok (.goto 6, 3) := by decide +kernel
theorem dL_back_12 : decode cL_back 12 = .ok (.astore_n 3, 1) := by decide +kernel
theorem dL_back_13 : decode cL_back 13 = .ok (.iconst 1, 1) := by decide +kernel
theorem dL_back_14 : decode cL_back 14 = .ok (.ireturn, 1) := by decide +kernel
theorem dL_back_15 : decode cL_back 15 = .ok (.iconst 0, 1) := by decide +kernel
theorem dL_back_16 : decode cL_back 16 = .ok (.ireturn, 1) := by decide +kernel
set_option maxRecDepth 20000 in
theorem ggL_cycle_X6_cycle : GoodIn wsL_cycle wsX6_cycle := goodIn_ca (goodIn_r _ [6, 7, 8, 9, 10, 11, 12, 13, 14, 15, 5, 16, 17, 18, 19, 20, 21, 22, 23, 24, 25, 26, 27, 28, 29, 30, 31, 32, 33, 34, 35, 36, 37, 38, 39, 40, 41, 42, 43, 44, 45, 46, 47, 48, 49] (by decide +kernel) (by decide +kernel)) (goodIn_sub (fun _ h => List.mem_cons_of_mem _ (List.mem_append_right _ h)) (by decide +kernel))
set_option maxRecDepth 20000 in
theorem gL_cycle_X6_cycle : GoodIn wsL_cycle (wsV RL 86 RX6 yX6_cycle wsX6_cycle) := goodIn_app (goodIn_of _ (by decide +kernel)) ggL_cycle_X6_cycle
theorem dL_cycle_0 : decode cL_cycle 0 = .ok (.aload_n 2, 1) := by decide +kernel
theorem dL_cycle_1 : decode cL_cycle 1 = .ok (.iconst 0, 1) := by decide +kernel
theorem dL_cycle_2 : decode cL_cycle 2 = .ok (.aload_n 0, 1) := by decide +kernel
theorem dL_cycle_3 : decode cL_cycle 3 = .ok (.iload_n 1, 1) := by decide +kernel
theorem dL_cycle_4 : decode cL_cycle 4 = .ok (.invokevirtual 86, 3) := by decide +kernel
theorem dL_cycle_7 : decode cL_cycle 7 = .ok (.i2l, 1) := by decide +kernel
theorem dL_cycle_8 : decode cL_cycle 8 = .ok (.lastore, 1) := by decide +kernel
theorem dL_cycle_9 : decode cL_cycle 9 = .ok (.goto 6, 3) := by decide +kernel
theorem dL_cycle_12 : decode cL_cycle 12 = .ok (.astore_n 3, 1) := by decide +kernel
theorem dL_cycle_13 : decode cL_cycle 13 = .ok (.iconst 1, 1) := by decide +kernel
theorem dL_cycle_14 : decode cL_cycle 14 = .ok (.ireturn, 1) := by decide +kernel
theorem dL_cycle_15 : decode cL_cycle 15 = .ok (.iconst 0, 1) := by decide +kernel
theorem dL_cycle_16 : decode cL_cycle 16 = .ok (.ireturn, 1) := by decide +kernel
set_option maxRecDepth 20000 in
theorem ggL_law_X6_init : GoodIn wsL_law wsX6_init := goodIn_r _ [9, 10, 11, 12, 13, 14, 15, 16, 17, 18, 19, 20, 21, 22, 23, 24, 25, 26, 27, 28, 29, 30, 31, 32, 33, 34, 35, 36, 37, 38, 39, 40, 41, 42, 43, 6, 44, 45, 46, 47, 48, 49, 50, 51, 52, 53, 54, 55, 56, 57, 58, 59, 60, 61, 62, 63, 64, 65, 66, 67, 68, 69, 70, 71, 72, 73, 74, 75, 76, 77, 78, 1015, 1016, 990, 991, 992, 993, 994, 1017, 1018, 1019, 1020, 1021, 1022, 1023, 1024, 1025, 1026, 1027, 1028, 1029, 1030, 1031, 1032, 1033, 1034, 1035, 1036] (by decide +kernel) (by decide +kernel)
set_option maxRecDepth 20000 in
theorem gL_law_X6_init : GoodIn wsL_law (wsX6_init) := ggL_law_X6_init
set_option maxRecDepth 20000 in
theorem ggL_law_X7_init : GoodIn wsL_law wsX7_init := goodIn_r _ [81, 82, 11, 12, 83, 84, 85, 48, 86, 87, 88, 89, 90, 91, 92, 93, 94, 95, 96, 97, 98, 99, 995, 996, 997, 998, 999, 1000, 1001, 1002, 1003, 1004, 1005, 1006, 1007, 1008, 1009, 1010, 1011, 1012, 1013, 1014] (by decide +kernel) (by decide +kernel)
set_option maxRecDepth 20000 in
theorem gL_law_X7_init : GoodIn wsL_law (wsX7_init) := ggL_law_X7_init
set_option maxRecDepth 20000 in
theorem ggL_law_L_block : GoodIn wsL_law wsL_block := goodIn_ca (goodIn_r _ [103, 104, 105, 106, 107, 2, 108, 16, 109, 110, 111, 112, 113, 114, 115, 116, 117, 118, 119, 15, 120, 40, 121, 122, 123, 124, 125, 990, 991, 992, 993, 994, 1015, 1016] (by decide +kernel) (by decide +kernel)) (goodIn_sub (fun _ h => List.mem_append_left _ (List.mem_append_left _ (List.mem_append_right _ h))) (by decide +kernel))
set_option maxRecDepth 20000 in
theorem gL_law_L_block : GoodIn wsL_law (va_wsS RL 93 yL_block wsL_block) := goodIn_app (goodIn_of _ (by decide +kernel)) ggL_law_L_block
set_option maxRecDepth 20000 in
theorem ggL_law_X7_block : GoodIn wsL_law wsX7_block := goodIn_r _ [129, 130, 84, 131, 132, 5, 133, 134, 135, 136, 995, 996, 997, 998, 999, 1000, 1001, 1002, 1003, 1004, 1005, 1006, 1007, 1008, 1009, 1010, 1011, 1012, 1013, 1014] (by decide +kernel) (by decide +kernel)
set_option maxRecDepth 20000 in
theorem gL_law_X7_block : GoodIn wsL_law (wsV RL 98 RX7 yX7_block wsX7_block) := goodIn_app (goodIn_of _ (by decide +kernel)) ggL_law_X7_block
set_option maxRecDepth 20000 in
theorem ggL_law_X7_thrown : GoodIn wsL_law wsX7_thrown := goodIn_r _ [140, 130, 995, 996, 997, 998, 999, 1000, 1001, 1002, 1003, 1004, 1005, 1006, 1007, 1008, 1009, 1010, 1011, 1012, 1013, 1014] (by decide +kernel) (by decide +kernel)
set_option maxRecDepth 20000 in
theorem gL_law_X7_thrown : GoodIn wsL_law (wsV RL 99 RX7 yX7_thrown wsX7_thrown) := goodIn_app (goodIn_of _ (by decide +kernel)) ggL_law_X7_thrown
set_option maxRecDepth 20000 in
theorem ggL_law_L_period : GoodIn wsL_law wsL_period := goodIn_ca (goodIn_ca (goodIn_ca (goodIn_r _ [143, 104, 144, 145, 146, 147, 148, 2, 149, 16, 150, 151, 152, 153, 154, 155, 109, 110, 111, 112, 113, 114, 115, 116, 156, 157, 158, 159, 160, 117, 118, 119, 15, 120, 40, 161, 162, 163, 164, 165, 166, 167, 168, 169, 170, 171, 172, 173, 174, 175, 176, 177, 178, 179, 180, 181, 182, 183, 184, 185, 186, 187, 188, 189, 190, 191, 192, 193, 194, 195, 196, 197, 198, 199, 200, 201, 202, 203, 204, 205, 206, 207, 990, 991, 992, 993, 994, 1015, 1016] (by decide +kernel) (by decide +kernel)) (goodIn_sub (fun _ h => List.mem_append_left _ (List.mem_append_right _ h)) (by decide +kernel))) (goodIn_sub (fun _ h => List.mem_append_left _ (List.mem_append_left _ (List.mem_append_right _ h))) (by decide +kernel))) (goodIn_sub (fun _ h => List.mem_append_right _ h) (by decide +kernel))
set_option maxRecDepth 20000 in
theorem gL_law_L_period : GoodIn wsL_law (va_wsS RL 102 yL_period wsL_period) := goodIn_app (goodIn_of _ (by decide +kernel)) ggL_law_L_period
set_option maxRecDepth 20000 in
theorem ggL_law_X7_period : GoodIn wsL_law wsX7_period := goodIn_r _ [211, 212, 213, 214, 5, 215, 130, 131, 132, 133, 134, 135, 136, 216, 217, 218, 219, 84, 220, 221, 222, 223, 224, 225, 226, 227, 228, 229, 230, 231, 995, 996, 997, 998, 999, 1000, 1001, 1002, 1003, 1004, 1005, 1006, 1007, 1008, 1009, 1010, 1011, 1012, 1013, 1014] (by decide +kernel) (by decide +kernel)
set_option maxRecDepth 20000 in
theorem gL_law_X7_period : GoodIn wsL_law (wsV RL 105 RX7 yX7_period wsX7_period) := goodIn_app (goodIn_of _ (by decide +kernel)) ggL_law_X7_period
set_option maxRecDepth 20000 in
theorem ggL_law_L_periodAnew : GoodIn wsL_law wsL_periodAnew := goodIn_ca (goodIn_ca (goodIn_ca (goodIn_r _ [234, 104, 144, 145, 235, 236, 237, 2, 238, 16, 150, 151, 152, 153, 154, 155, 109, 110, 111, 112, 113, 114, 115, 116, 156, 157, 158, 159, 160, 117, 118, 119, 15, 120, 40, 161, 162, 163, 239, 240, 241, 242, 243, 244, 245, 246, 175, 176, 177, 178, 179, 180, 181, 182, 183, 205, 206, 207, 187, 188, 189, 190, 191, 192, 193, 194, 195, 196, 197, 198, 199, 200, 201, 202, 203, 184, 185, 186, 204, 990, 991, 992, 993, 994, 1015, 1016] (by decide +kernel) (by decide +kernel)) (goodIn_sub (fun _ h => List.mem_append_left _ (List.mem_append_right _ h)) (by decide +kernel))) (goodIn_sub (fun _ h => List.mem_append_left _ (List.mem_append_left _ (List.mem_append_right _ h))) (by decide +kernel))) (goodIn_sub (fun _ h => List.mem_append_right _ h) (by decide +kernel))
set_option maxRecDepth 20000 in
theorem gL_law_L_periodAnew : GoodIn wsL_law (va_wsS RL 106 yL_periodAnew wsL_periodAnew) := goodIn_app (goodIn_of _ (by decide +kernel)) ggL_law_L_periodAnew
set_option maxRecDepth 20000 in
theorem ggL_law_X7_periodAnew : GoodIn wsL_law wsX7_periodAnew := goodIn_r _ [250, 251, 209, 210, 5, 211, 212, 213, 214, 215, 130, 131, 132, 133, 134, 135, 136, 216, 217, 218, 219, 84, 220, 221, 222, 223, 224, 225, 226, 227, 228, 229, 230, 231, 995, 996, 997, 998, 999, 1000, 1001, 1002, 1003, 1004, 1005, 1006, 1007, 1008, 1009, 1010, 1011, 1012, 1013, 1014] (by decide +kernel) (by decide +kernel)
set_option maxRecDepth 20000 in
theorem gL_law_X7_periodAnew : GoodIn wsL_law (wsV RL 108 RX7 yX7_periodAnew wsX7_periodAnew) := goodIn_app (goodIn_of _ (by decide +kernel)) ggL_law_X7_periodAnew
set_option maxRecDepth 20000 in
theorem ggL_law_L_bounces : GoodIn wsL_law wsL_bounces := goodIn_ca (goodIn_ca (goodIn_ca (goodIn_r _ [254, 104, 144, 145, 255, 256, 257, 2, 258, 16, 150, 151, 152, 153, 154, 155, 109, 110, 111, 112, 113, 114, 115, 116, 156, 157, 158, 159, 160, 117, 118, 119, 15, 120, 40, 161, 162, 163, 259, 260, 261, 262, 263, 264, 265, 266, 172, 173, 174, 175, 176, 177, 178, 179, 180, 181, 182, 183, 187, 188, 189, 190, 191, 192, 193, 194, 195, 196, 197, 198, 199, 200, 201, 202, 203, 168, 169, 170, 171, 184, 185, 186, 204, 205, 206, 207, 990, 991, 992, 993, 994, 1015, 1016] (by decide +kernel) (by decide +kernel)) (goodIn_sub (fun _ h => List.mem_append_left _ (List.mem_append_right _ h)) (by decide +kernel))) (goodIn_sub (fun _ h => List.mem_append_left _ (List.mem_append_left _ (List.mem_append_right _ h))) (by decide +kernel))) (goodIn_sub (fun _ h => List.mem_append_right _ h) (by decide +kernel))
set_option maxRecDepth 20000 in
theorem gL_law_L_bounces : GoodIn wsL_law (va_wsS RL 109 yL_bounces wsL_bounces) := goodIn_app (goodIn_of _ (by decide +kernel)) ggL_law_L_bounces
set_option maxRecDepth 20000 in
theorem ggL_law_X7_bounces : GoodIn wsL_law wsX7_bounces := goodIn_r _ [270, 212, 213, 214, 5, 215, 130, 131, 132, 133, 134, 135, 136, 216, 217, 218, 219, 84, 220, 221, 222, 271, 272, 273, 274, 231, 227, 228, 229, 230, 995, 996, 997, 998, 999, 1000, 1001, 1002, 1003, 1004, 1005, 1006, 1007, 1008, 1009, 1010, 1011, 1012, 1013, 1014] (by decide +kernel) (by decide +kernel)
set_option maxRecDepth 20000 in
theorem gL_law_X7_bounces : GoodIn wsL_law (wsV RL 111 RX7 yX7_bounces wsX7_bounces) := goodIn_app (goodIn_of _ (by decide +kernel)) ggL_law_X7_bounces
set_option maxRecDepth 20000 in
theorem ggL_law_L_touched : GoodIn wsL_law wsL_touched := goodIn_ca (goodIn_ca (goodIn_ca (goodIn_r _ [277, 104, 144, 145, 278, 279, 280, 2, 281, 16, 150, 151, 152, 153, 154, 155, 109, 110, 111, 112, 113, 114, 115, 116, 156, 157, 158, 159, 160, 117, 118, 119, 15, 120, 40, 161, 162, 163, 282, 283, 284, 285, 194, 195, 196, 200, 201, 202, 168, 169, 170, 171, 172, 173, 174, 175, 176, 177, 178, 179, 180, 181, 182, 183, 184, 185, 186, 187, 188, 189, 190, 191, 192, 193, 197, 198, 199, 203, 204, 205, 206, 207, 286, 287, 288, 289, 290, 291, 292, 990, 991, 992, 993, 994, 1015, 1016] (by decide +kernel) (by decide +kernel)) (goodIn_sub (fun _ h => List.mem_append_left _ (List.mem_append_right _ h)) (by decide +kernel))) (goodIn_sub (fun _ h => List.mem_append_left _ (List.mem_append_left _ (List.mem_append_right _ h))) (by decide +kernel))) (goodIn_sub (fun _ h => List.mem_append_right _ h) (by decide +kernel))
set_option maxRecDepth 20000 in
theorem gL_law_L_touched : GoodIn wsL_law (va_wsS RL 112 yL_touched wsL_touched) := goodIn_app (goodIn_of _ (by decide +kernel)) ggL_law_L_touched
set_option maxRecDepth 20000 in
theorem ggL_law_X7_touched : GoodIn wsL_law wsX7_touched := goodIn_r _ [296, 85, 212, 213, 214, 5, 215, 130, 131, 132, 133, 134, 135, 136, 216, 217, 218, 219, 84, 297, 298, 299, 300, 220, 221, 222, 227, 228, 229, 230, 231, 995, 996, 997, 998, 999, 1000, 1001, 1002, 1003, 1004, 1005, 1006, 1007, 1008, 1009, 1010, 1011, 1012, 1013, 1014] (by decide +kernel) (by decide +kernel)
set_option maxRecDepth 20000 in
theorem gL_law_X7_touched : GoodIn wsL_law (wsV RL 114 RX7 yX7_touched wsX7_touched) := goodIn_app (goodIn_of _ (by decide +kernel)) ggL_law_X7_touched
set_option maxRecDepth 20000 in
theorem ggL_law_L_bounce : GoodIn wsL_law wsL_bounce := goodIn_ca (goodIn_ca (goodIn_ca (goodIn_r _ [303, 104, 144, 145, 304, 305, 306, 2, 307, 308, 16, 150, 151, 152, 153, 154, 155, 109, 110, 111, 112, 113, 114, 115, 116, 156, 157, 158, 159, 160, 117, 118, 119, 15, 120, 40, 161, 162, 163, 309, 310, 311, 312, 313, 260, 261, 262, 263, 264, 265, 266, 172, 173, 174, 175, 176, 177, 178, 179, 180, 181, 182, 183, 187, 188, 189, 190, 191, 192, 193, 194, 195, 196, 197, 198, 199, 200, 201, 202, 203, 168, 169, 170, 171, 184, 185, 186, 204, 205, 206, 207, 990, 991, 992, 993, 994, 1015, 1016] (by decide +kernel) (by decide +kernel)) (goodIn_sub (fun _ h => List.mem_append_left _ (List.mem_append_right _ h)) (by decide +kernel))) (goodIn_sub (fun _ h => List.mem_append_left _ (List.mem_append_left _ (List.mem_append_right _ h))) (by decide +kernel))) (goodIn_sub (fun _ h => List.mem_append_right _ h) (by decide +kernel))
set_option maxRecDepth 20000 in
theorem gL_law_L_bounce : GoodIn wsL_law (va_wsS RL 115 yL_bounce wsL_bounce) := goodIn_app (goodIn_of _ (by decide +kernel)) ggL_law_L_bounce
set_option maxRecDepth 20000 in
theorem ggL_law_X7_bounce : GoodIn wsL_law wsX7_bounce := goodIn_r _ [317, 318, 231, 134, 135, 5, 136, 212, 213, 214, 215, 130, 131, 132, 133, 216, 217, 218, 219, 84, 220, 221, 222, 271, 272, 273, 274, 227, 228, 229, 230, 995, 996, 997, 998, 999, 1000, 1001, 1002, 1003, 1004, 1005, 1006, 1007, 1008, 1009, 1010, 1011, 1012, 1013, 1014] (by decide +kernel) (by decide +kernel)
set_option maxRecDepth 20000 in
theorem gL_law_X7_bounce : GoodIn wsL_law (wsV RL 118 RX7 yX7_bounce wsX7_bounce) := goodIn_app (goodIn_of _ (by decide +kernel)) ggL_law_X7_bounce
set_option maxRecDepth 20000 in
theorem ggL_law_L_state : GoodIn wsL_law wsL_state := goodIn_ca (goodIn_ca (goodIn_ca (goodIn_r _ [321, 104, 144, 145, 322, 323, 324, 2, 325, 326, 16, 150, 151, 152, 153, 154, 155, 109, 110, 111, 112, 113, 114, 115, 116, 156, 157, 158, 159, 160, 117, 118, 119, 15, 120, 40, 161, 162, 163, 327, 328, 329, 330, 331, 165, 166, 167, 168, 169, 170, 171, 172, 173, 174, 175, 176, 177, 178, 179, 180, 181, 182, 183, 184, 185, 186, 187, 188, 189, 190, 191, 192, 193, 194, 195, 196, 197, 198, 199, 200, 201, 202, 203, 204, 205, 206, 207, 990, 991, 992, 993, 994, 1015, 1016] (by decide +kernel) (by decide +kernel)) (goodIn_sub (fun _ h => List.mem_append_left _ (List.mem_append_right _ h)) (by decide +kernel))) (goodIn_sub (fun _ h => List.mem_append_left _ (List.mem_append_left _ (List.mem_append_right _ h))) (by decide +kernel))) (goodIn_sub (fun _ h => List.mem_append_right _ h) (by decide +kernel))
set_option maxRecDepth 20000 in
theorem gL_law_L_state : GoodIn wsL_law (va_wsS RL 119 yL_state wsL_state) := goodIn_app (goodIn_of _ (by decide +kernel)) ggL_law_L_state
set_option maxRecDepth 20000 in
theorem ggL_law_X7_state : GoodIn wsL_law wsX7_state := goodIn_r _ [335, 212, 213, 214, 5, 215, 130, 131, 132, 133, 134, 135, 136, 216, 217, 218, 219, 84, 220, 221, 222, 223, 224, 225, 226, 227, 228, 229, 230, 231, 995, 996, 997, 998, 999, 1000, 1001, 1002, 1003, 1004, 1005, 1006, 1007, 1008, 1009, 1010, 1011, 1012, 1013, 1014] (by decide +kernel) (by decide +kernel)
set_option maxRecDepth 20000 in
theorem gL_law_X7_state : GoodIn wsL_law (wsV RL 121 RX7 yX7_state wsX7_state) := goodIn_app (goodIn_of _ (by decide +kernel)) ggL_law_X7_state
set_option maxRecDepth 20000 in
theorem ggL_law_X6_paths : GoodIn wsL_law wsX6_paths := goodIn_r _ [339, 16, 340, 341, 342, 15, 343, 39, 344, 345, 346, 38, 347, 44, 194, 195, 196, 200, 201, 202, 203, 118, 119, 120, 40, 115, 2, 116, 348, 349, 350, 351, 352, 353, 354, 355, 356, 357, 358, 359, 168, 169, 170, 171, 172, 173, 174, 175, 176, 177, 178, 179, 180, 181, 182, 183, 184, 185, 186, 187, 188, 189, 190, 191, 192, 193, 197, 198, 199, 204, 162, 163, 205, 206, 207, 990, 991, 992, 993, 994, 1015, 1016, 1036] (by decide +kernel) (by decide +kernel)
set_option maxRecDepth 20000 in
theorem gL_law_X6_paths : GoodIn wsL_law (wsV RL 122 RX6 yX6_paths wsX6_paths) := goodIn_app (goodIn_of _ (by decide +kernel)) ggL_law_X6_paths
set_option maxRecDepth 20000 in
theorem ggL_law_X7_paths : GoodIn wsL_law wsX7_paths := goodIn_r _ [363, 130, 84, 85, 297, 298, 299, 5, 300, 227, 228, 229, 230, 231, 216, 217, 218, 219, 131, 132, 133, 134, 135, 136, 220, 221, 222, 995, 996, 997, 998, 999, 1000, 1001, 1002, 1003, 1004, 1005, 1006, 1007, 1008, 1009, 1010, 1011, 1012, 1013, 1014] (by decide +kernel) (by decide +kernel)
set_option maxRecDepth 20000 in
theorem gL_law_X7_paths : GoodIn wsL_law (wsV RL 125 RX7 yX7_paths wsX7_paths) := goodIn_app (goodIn_of _ (by decide +kernel)) ggL_law_X7_paths
set_option maxRecDepth 20000 in
theorem ggL_law_X6_mean : GoodIn wsL_law wsX6_mean := goodIn_r _ [367, 16, 340, 341, 342, 15, 343, 39, 344, 345, 346, 38, 347, 44, 194, 195, 196, 200, 201, 202, 203, 118, 119, 120, 40, 115, 2, 116, 348, 349, 350, 351, 352, 353, 354, 355, 356, 357, 358, 359, 168, 169, 170, 171, 172, 173, 174, 175, 176, 177, 178, 179, 180, 181, 182, 183, 184, 185, 186, 187, 188, 189, 190, 191, 192, 193, 197, 198, 199, 204, 162, 163, 205, 206, 207, 368, 369, 370, 371, 372, 373, 374, 375, 286, 287, 288, 289, 290, 291, 292, 990, 991, 992, 993, 994, 1015, 1016, 1036] (by decide +kernel) (by decide +kernel)
set_option maxRecDepth 20000 in
theorem gL_law_X6_mean : GoodIn wsL_law (wsV RL 126 RX6 yX6_mean wsX6_mean) := goodIn_app (goodIn_of _ (by decide +kernel)) ggL_law_X6_mean
set_option maxRecDepth 20000 in
theorem ggL_law_X7_mean : GoodIn wsL_law wsX7_mean := goodIn_r _ [379, 380, 361, 362, 5, 363, 130, 84, 85, 297, 298, 299, 300, 227, 228, 229, 230, 231, 216, 217, 218, 219, 131, 132, 133, 134, 135, 136, 220, 221, 222, 381, 382, 383, 384, 995, 996, 997, 998, 999, 1000, 1001, 1002, 1003, 1004, 1005, 1006, 1007, 1008, 1009, 1010, 1011, 1012, 1013, 1014] (by decide +kernel) (by decide +kernel)
set_option maxRecDepth 20000 in
theorem gL_law_X7_mean : GoodIn wsL_law (wsV RL 130 RX7 yX7_mean wsX7_mean) := goodIn_app (goodIn_of _ (by decide +kernel)) ggL_law_X7_mean
set_option maxRecDepth 20000 in
theorem ggL_law_L_lamp : GoodIn wsL_law wsL_lamp := goodIn_ca (goodIn_ca (goodIn_r _ [387, 104, 145, 388, 389, 390, 2, 391, 154, 155, 20, 109, 110, 111, 112, 113, 114, 115, 116, 392, 393, 394, 19, 395, 50, 396, 397, 398, 399, 49, 400, 401, 990, 991, 992, 993, 994, 1017, 1018] (by decide +kernel) (by decide +kernel)) (goodIn_sub (fun _ h => List.mem_append_left _ (List.mem_append_right _ h)) (by decide +kernel))) (goodIn_sub (fun _ h => List.mem_append_left _ (List.mem_append_left _ (List.mem_append_right _ h))) (by decide +kernel))
set_option maxRecDepth 20000 in
theorem gL_law_L_lamp : GoodIn wsL_law (va_wsS RL 131 yL_lamp wsL_lamp) := goodIn_app (goodIn_of _ (by decide +kernel)) ggL_law_L_lamp
set_option maxRecDepth 20000 in
theorem ggL_law_X7_lamp : GoodIn wsL_law wsX7_lamp := goodIn_r _ [405, 406, 130, 86, 87, 131, 132, 5, 133, 134, 135, 136, 995, 996, 997, 998, 999, 1000, 1001, 1002, 1003, 1004, 1005, 1006, 1007, 1008, 1009, 1010, 1011, 1012, 1013, 1014] (by decide +kernel) (by decide +kernel)
set_option maxRecDepth 20000 in
theorem gL_law_X7_lamp : GoodIn wsL_law (wsV RL 134 RX7 yX7_lamp wsX7_lamp) := goodIn_app (goodIn_of _ (by decide +kernel)) ggL_law_X7_lamp
set_option maxRecDepth 20000 in
theorem ggL_law_L_sees : GoodIn wsL_law wsL_sees := goodIn_ca (goodIn_r _ [409, 104, 410, 411, 412, 2, 413, 16, 109, 110, 111, 112, 113, 114, 115, 116, 414, 415, 19, 416, 417, 418, 419, 420, 421, 422, 423, 424, 118, 119, 15, 120, 40, 425, 426, 427, 428, 429, 430, 990, 991, 992, 993, 994, 1015, 1016] (by decide +kernel) (by decide +kernel)) (goodIn_sub (fun _ h => List.mem_append_left _ (List.mem_append_left _ (List.mem_append_right _ h))) (by decide +kernel))
set_option maxRecDepth 20000 in
theorem gL_law_L_sees : GoodIn wsL_law (va_wsS RL 135 yL_sees wsL_sees) := goodIn_app (goodIn_of _ (by decide +kernel)) ggL_law_L_sees
set_option maxRecDepth 20000 in
theorem ggL_law_X7_sees : GoodIn wsL_law wsX7_sees := goodIn_r _ [434, 130, 131, 132, 5, 133, 134, 135, 136, 435, 436, 437, 438, 84, 216, 217, 218, 219, 439, 440, 441, 442, 443, 444, 445, 446, 447, 448, 449, 450, 995, 996, 997, 998, 999, 1000, 1001, 1002, 1003, 1004, 1005, 1006, 1007, 1008, 1009, 1010, 1011, 1012, 1013, 1014] (by decide +kernel) (by decide +kernel)
set_option maxRecDepth 20000 in
theorem gL_law_X7_sees : GoodIn wsL_law (wsV RL 138 RX7 yX7_sees wsX7_sees) := goodIn_app (goodIn_of _ (by decide +kernel)) ggL_law_X7_sees
set_option maxRecDepth 20000 in
theorem ggL_law_L_seesAnew : GoodIn wsL_law wsL_seesAnew := goodIn_ca (goodIn_r _ [453, 104, 454, 455, 456, 2, 457, 16, 109, 110, 111, 112, 113, 114, 115, 116, 458, 459, 19, 460, 428, 429, 419, 430, 424, 118, 119, 15, 120, 40, 461, 462, 463, 464, 990, 991, 992, 993, 994, 1015, 1016] (by decide +kernel) (by decide +kernel)) (goodIn_sub (fun _ h => List.mem_append_left _ (List.mem_append_left _ (List.mem_append_right _ h))) (by decide +kernel))
set_option maxRecDepth 20000 in
theorem gL_law_L_seesAnew : GoodIn wsL_law (va_wsS RL 139 yL_seesAnew wsL_seesAnew) := goodIn_app (goodIn_of _ (by decide +kernel)) ggL_law_L_seesAnew
set_option maxRecDepth 20000 in
theorem ggL_law_X7_seesAnew : GoodIn wsL_law wsX7_seesAnew := goodIn_r _ [468, 469, 432, 433, 5, 434, 130, 131, 132, 133, 134, 135, 136, 435, 436, 437, 438, 84, 216, 217, 218, 219, 439, 440, 441, 442, 443, 444, 445, 446, 447, 448, 449, 450, 995, 996, 997, 998, 999, 1000, 1001, 1002, 1003, 1004, 1005, 1006, 1007, 1008, 1009, 1010, 1011, 1012, 1013, 1014] (by decide +kernel) (by decide +kernel)
set_option maxRecDepth 20000 in
theorem gL_law_X7_seesAnew : GoodIn wsL_law (wsV RL 141 RX7 yX7_seesAnew wsX7_seesAnew) := goodIn_app (goodIn_of _ (by decide +kernel)) ggL_law_X7_seesAnew
set_option maxRecDepth 20000 in
theorem ggL_law_X6_lit : GoodIn wsL_law wsX6_lit := goodIn_r _ [473, 20, 16, 474, 475, 476, 19, 477, 478, 479, 480, 481, 50, 49, 482, 2, 483, 484, 415, 416, 417, 418, 419, 420, 421, 422, 423, 424, 118, 119, 15, 120, 40, 115, 116, 425, 426, 427, 428, 429, 430, 990, 991, 992, 993, 994, 1017, 1018, 1015, 1016] (by decide +kernel) (by decide +kernel)
set_option maxRecDepth 20000 in
theorem gL_law_X6_lit : GoodIn wsL_law (wsV RL 142 RX6 yX6_lit wsX6_lit) := goodIn_app (goodIn_of _ (by decide +kernel)) ggL_law_X6_lit
set_option maxRecDepth 20000 in
theorem ggL_law_X7_lit : GoodIn wsL_law wsX7_lit := goodIn_r _ [488, 130, 406, 86, 87, 435, 436, 437, 5, 438, 84, 216, 217, 218, 219, 131, 132, 133, 134, 135, 136, 439, 440, 441, 442, 443, 444, 445, 446, 447, 448, 449, 450, 995, 996, 997, 998, 999, 1000, 1001, 1002, 1003, 1004, 1005, 1006, 1007, 1008, 1009, 1010, 1011, 1012, 1013, 1014] (by decide +kernel) (by decide +kernel)
set_option maxRecDepth 20000 in
theorem gL_law_X7_lit : GoodIn wsL_law (wsV RL 145 RX7 yX7_lit wsX7_lit) := goodIn_app (goodIn_of _ (by decide +kernel)) ggL_law_X7_lit
set_option maxRecDepth 20000 in
theorem ggL_law_X6_share : GoodIn wsL_law wsX6_share := goodIn_r _ [492, 16, 20, 493, 373, 374, 15, 375, 40, 286, 287, 288, 289, 290, 291, 292, 474, 475, 476, 19, 477, 478, 479, 480, 481, 50, 49, 482, 2, 483, 484, 415, 416, 417, 418, 419, 420, 421, 422, 423, 424, 118, 119, 120, 115, 116, 425, 426, 427, 428, 429, 430, 990, 991, 992, 993, 994, 1015, 1016, 1017, 1018] (by decide +kernel) (by decide +kernel)
set_option maxRecDepth 20000 in
theorem gL_law_X6_share : GoodIn wsL_law (wsV RL 146 RX6 yX6_share wsX6_share) := goodIn_app (goodIn_of _ (by decide +kernel)) ggL_law_X6_share
set_option maxRecDepth 20000 in
theorem ggL_law_X7_share : GoodIn wsL_law wsX7_share := goodIn_r _ [497, 498, 486, 487, 5, 488, 130, 406, 86, 87, 435, 436, 437, 438, 84, 216, 217, 218, 219, 131, 132, 133, 134, 135, 136, 439, 440, 441, 442, 443, 444, 445, 446, 447, 448, 449, 450, 381, 382, 383, 384, 995, 996, 997, 998, 999, 1000, 1001, 1002, 1003, 1004, 1005, 1006, 1007, 1008, 1009, 1010, 1011, 1012, 1013, 1014] (by decide +kernel) (by decide +kernel)
set_option maxRecDepth 20000 in
theorem gL_law_X7_share : GoodIn wsL_law (wsV RL 149 RX7 yX7_share wsX7_share) := goodIn_app (goodIn_of _ (by decide +kernel)) ggL_law_X7_share
set_option maxRecDepth 20000 in
theorem ggL_law_L_surface : GoodIn wsL_law wsL_surface := goodIn_ca (goodIn_r _ [501, 144, 502, 503, 504, 2, 505, 24, 156, 157, 158, 159, 160, 506, 507, 508, 23, 509, 62, 510, 511, 512, 513, 54, 55, 400, 401, 514, 515, 516, 517, 56, 57, 518, 519, 520, 521, 482, 483, 522, 523, 524, 525, 990, 991, 992, 993, 994, 1019, 1020, 1021, 1022, 1023, 1024, 1025, 1026, 1027] (by decide +kernel) (by decide +kernel)) (goodIn_sub (fun _ h => List.mem_append_right _ h) (by decide +kernel))
set_option maxRecDepth 20000 in
theorem gL_law_L_surface : GoodIn wsL_law (va_wsS RL 150 yL_surface wsL_surface) := goodIn_app (goodIn_of _ (by decide +kernel)) ggL_law_L_surface
set_option maxRecDepth 20000 in
theorem ggL_law_X7_surface : GoodIn wsL_law wsX7_surface := goodIn_r _ [529, 130, 88, 89, 90, 134, 135, 5, 136, 995, 996, 997, 998, 999, 1000, 1001, 1002, 1003, 1004, 1005, 1006, 1007, 1008, 1009, 1010, 1011, 1012, 1013, 1014] (by decide +kernel) (by decide +kernel)
set_option maxRecDepth 20000 in
theorem gL_law_X7_surface : GoodIn wsL_law (wsV RL 153 RX7 yX7_surface wsX7_surface) := goodIn_app (goodIn_of _ (by decide +kernel)) ggL_law_X7_surface
set_option maxRecDepth 20000 in
theorem ggL_law_L_glue : GoodIn wsL_law wsL_glue := goodIn_ca (goodIn_r _ [532, 104, 533, 534, 535, 2, 536, 24, 506, 507, 508, 23, 509, 62, 537, 538, 539, 112, 113, 540, 541, 542, 543, 55, 54, 544, 545, 546, 482, 483, 547, 400, 401, 514, 515, 516, 517, 56, 57, 518, 519, 520, 521, 522, 523, 524, 525, 990, 991, 992, 993, 994, 1019, 1020, 1021, 1022, 1023, 1024, 1025, 1026, 1027] (by decide +kernel) (by decide +kernel)) (goodIn_sub (fun _ h => List.mem_append_left _ (List.mem_append_left _ (List.mem_append_right _ h))) (by decide +kernel))
set_option maxRecDepth 20000 in
theorem gL_law_L_glue : GoodIn wsL_law (va_wsS RL 154 yL_glue wsL_glue) := goodIn_app (goodIn_of _ (by decide +kernel)) ggL_law_L_glue
set_option maxRecDepth 20000 in
theorem ggL_law_X7_glue : GoodIn wsL_law wsX7_glue := goodIn_r _ [551, 130, 90, 89, 552, 553, 554, 5, 555, 88, 134, 135, 136, 995, 996, 997, 998, 999, 1000, 1001, 1002, 1003, 1004, 1005, 1006, 1007, 1008, 1009, 1010, 1011, 1012, 1013, 1014] (by decide +kernel) (by decide +kernel)
set_option maxRecDepth 20000 in
theorem gL_law_X7_glue : GoodIn wsL_law (wsV RL 156 RX7 yX7_glue wsX7_glue) := goodIn_app (goodIn_of _ (by decide +kernel)) ggL_law_X7_glue
