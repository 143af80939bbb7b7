theorem dX7_mean_5 : decode cX7_mean 5 = .ok (.iload_n 1, 1) := by decide +kernel
theorem dX7_mean_6 : decode cX7_mean 6 = .ok (.ifCond .ne 7, 3) := by decide +kernel
theorem dX7_mean_9 : decode cX7_mean 9 = .ok (.fconst 0, 1) := by decide +kernel
theorem dX7_mean_10 : decode cX7_mean 10 = .ok (.goto 14, 3) := by decide +kernel
theorem dX7_mean_13 : decode cX7_mean 13 = .ok (.bipush 8, 2) := by decide +kernel
theorem dX7_mean_15 : decode cX7_mean 15 = .ok (.aload_n 0, 1) := by decide +kernel
theorem dX7_mean_16 : decode cX7_mean 16 = .ok (.invokevirtual 107, 3) := by decide +kernel
theorem dX7_mean_19 : decode cX7_mean 19 = .ok (.imul, 1) := by decide +kernel
theorem dX7_mean_20 : decode cX7_mean 20 = .ok (.i2f, 1) := by decide +kernel
theorem dX7_mean_21 : decode cX7_mean 21 = .ok (.iload_n 1, 1) := by decide +kernel
theorem dX7_mean_22 : decode cX7_mean 22 = .ok (.i2f, 1) := by decide +kernel
theorem dX7_mean_23 : decode cX7_mean 23 = .ok (.fdiv, 1) := by decide +kernel
theorem dX7_mean_24 : decode cX7_mean 24 = .ok (.freturn, 1) := by decide +kernel
set_option maxRecDepth 20000 in
theorem ggX7_lamp_X7_isCell : GoodIn wsX7_lamp wsX7_isCell := goodIn_r _ [8, 9, 10, 7, 11] (by decide +kernel) (by decide +kernel)
set_option maxRecDepth 20000 in
theorem gX7_lamp_X7_isCell : GoodIn wsX7_lamp (va_wsS RX7 67 yX7_isCell wsX7_isCell) := goodIn_app (goodIn_of _ (by decide +kernel)) ggX7_lamp_X7_isCell
theorem dX7_lamp_0 : decode cX7_lamp 0 = .ok (.aload_n 0, 1) := by decide +kernel
theorem dX7_lamp_1 : decode cX7_lamp 1 = .ok (.iload_n 1, 1) := by decide +kernel
theorem dX7_lamp_2 : decode cX7_lamp 2 = .ok (.iload_n 2, 1) := by decide +kernel
theorem dX7_lamp_3 : decode cX7_lamp 3 = .ok (.invokestatic 67, 3) := by decide +kernel
theorem dX7_lamp_6 : decode cX7_lamp 6 = .ok (.ifCond .ne 7, 3) := by decide +kernel
theorem dX7_lamp_9 : decode cX7_lamp 9 = .ok (.iconst 1, 1) := by decide +kernel
theorem dX7_lamp_10 : decode cX7_lamp 10 = .ok (.goto 17, 3) := by decide +kernel
theorem dX7_lamp_13 : decode cX7_lamp 13 = .ok (.aload_n 0, 1) := by decide +kernel
theorem dX7_lamp_14 : decode cX7_lamp 14 = .ok (.getfield 110, 3) := by decide +kernel
theorem dX7_lamp_17 : decode cX7_lamp 17 = .ok (.bipush 6, 2) := by decide +kernel
theorem dX7_lamp_19 : decode cX7_lamp 19 = .ok (.if_icmp .ne 7, 3) := by decide +kernel
theorem dX7_lamp_22 : decode cX7_lamp 22 = .ok (.iconst 2, 1) := by decide +kernel
theorem dX7_lamp_23 : decode cX7_lamp 23 = .ok (.goto 4, 3) := by decide +kernel
theorem dX7_lamp_26 : decode cX7_lamp 26 = .ok (.iconst 0, 1) := by decide +kernel
theorem dX7_lamp_27 : decode cX7_lamp 27 = .ok (.putfield 60, 3) := by decide +kernel
theorem dX7_lamp_30 : decode cX7_lamp 30 = .ok (.aload_n 0, 1) := by decide +kernel
theorem dX7_lamp_31 : decode cX7_lamp 31 = .ok (.getfield 60, 3) := by decide +kernel
theorem dX7_lamp_34 : decode cX7_lamp 34 = .ok (.ifCond .le 5, 3) := by decide +kernel
theorem dX7_lamp_37 : decode cX7_lamp 37 = .ok (.iconst 0, 1) := by decide +kernel
theorem dX7_lamp_38 : decode cX7_lamp 38 = .ok (.ireturn, 1) := by decide +kernel
theorem dX7_lamp_39 : decode cX7_lamp 39 = .ok (.aload_n 0, 1) := by decide +kernel
theorem dX7_lamp_40 : decode cX7_lamp 40 = .ok (.getfield 16, 3) := by decide +kernel
theorem dX7_lamp_43 : decode cX7_lamp 43 = .ok (.aload_n 0, 1) := by decide +kernel
theorem dX7_lamp_44 : decode cX7_lamp 44 = .ok (.getfield 110, 3) := by decide +kernel
theorem dX7_lamp_47 : decode cX7_lamp 47 = .ok (.iload_n 1, 1) := by decide +kernel
theorem dX7_lamp_48 : decode cX7_lamp 48 = .ok (.iastore, 1) := by decide +kernel
theorem dX7_lamp_49 : decode cX7_lamp 49 = .ok (.aload_n 0, 1) := by decide +kernel
theorem dX7_lamp_50 : decode cX7_lamp 50 = .ok (.getfield 20, 3) := by decide +kernel
theorem dX7_lamp_53 : decode cX7_lamp 53 = .ok (.aload_n 0, 1) := by decide +kernel
theorem dX7_lamp_54 : decode cX7_lamp 54 = .ok (.getfield 110, 3) := by decide +kernel
theorem dX7_lamp_57 : decode cX7_lamp 57 = .ok (.iload_n 2, 1) := by decide +kernel
theorem dX7_lamp_58 : decode cX7_lamp 58 = .ok (.iastore, 1) := by decide +kernel
theorem dX7_lamp_59 : decode cX7_lamp 59 = .ok (.aload_n 0, 1) := by decide +kernel
theorem dX7_lamp_60 : decode cX7_lamp 60 = .ok (.dup, 1) := by decide +kernel
theorem dX7_lamp_61 : decode cX7_lamp 61 = .ok (.getfield 110, 3) := by decide +kernel
theorem dX7_lamp_64 : decode cX7_lamp 64 = .ok (.iconst 1, 1) := by decide +kernel
theorem dX7_lamp_65 : decode cX7_lamp 65 = .ok (.iadd, 1) := by decide +kernel
theorem dX7_lamp_66 : decode cX7_lamp 66 = .ok (.putfield 110, 3) := by decide +kernel
theorem dX7_lamp_69 : decode cX7_lamp 69 = .ok (.aload_n 0, 1) := by decide +kernel
theorem dX7_lamp_70 : decode cX7_lamp 70 = .ok (.getfield 110, 3) := by decide +kernel
theorem dX7_lamp_73 : decode cX7_lamp 73 = .ok (.iconst 1, 1) := by decide +kernel
theorem dX7_lamp_74 : decode cX7_lamp 74 = .ok (.isub, 1) := by decide +kernel
theorem dX7_lamp_75 : decode cX7_lamp 75 = .ok (.ireturn, 1) := by decide +kernel
theorem dX7_least_0 : decode cX7_least 0 = .ok (.iload_n 0, 1) := by decide +kernel
theorem dX7_least_1 : decode cX7_least 1 = .ok (.iload_n 1, 1) := by decide +kernel
theorem dX7_least_2 : decode cX7_least 2 = .ok (.if_icmp .ge 7, 3) := by decide +kernel
theorem dX7_least_5 : decode cX7_least 5 = .ok (.iload_n 0, 1) := by decide +kernel
theorem dX7_least_6 : decode cX7_least 6 = .ok (.goto 4, 3) := by decide +kernel
theorem dX7_least_9 : decode cX7_least 9 = .ok (.iload_n 1, 1) := by decide +kernel
theorem dX7_least_10 : decode cX7_least 10 = .ok (.ireturn, 1) := by decide +kernel
theorem dX7_most_0 : decode cX7_most 0 = .ok (.iload_n 0, 1) := by decide +kernel
theorem dX7_most_1 : decode cX7_most 1 = .ok (.iload_n 1, 1) := by decide +kernel
theorem dX7_most_2 : decode cX7_most 2 = .ok (.if_icmp .le 7, 3) := by decide +kernel
theorem dX7_most_5 : decode cX7_most 5 = .ok (.iload_n 0, 1) := by decide +kernel
theorem dX7_most_6 : decode cX7_most 6 = .ok (.goto 4, 3) := by decide +kernel
theorem dX7_most_9 : decode cX7_most 9 = .ok (.iload_n 1, 1) := by decide +kernel
theorem dX7_most_10 : decode cX7_most 10 = .ok (.ireturn, 1) := by decide +kernel
theorem dX7_sideOf_0 : decode cX7_sideOf 0 = .ok (.iload_n 2, 1) := by decide +kernel
theorem dX7_sideOf_1 : decode cX7_sideOf 1 = .ok (.iconst 2, 1) := by decide +kernel
theorem dX7_sideOf_2 : decode cX7_sideOf 2 = .ok (.iload 5, 2) := by decide +kernel
theorem dX7_sideOf_4 : decode cX7_sideOf 4 = .ok (.imul, 1) := by decide +kernel
theorem dX7_sideOf_5 : decode cX7_sideOf 5 = .ok (.iconst 2, 1) := by decide +kernel
theorem dX7_sideOf_6 : decode cX7_sideOf 6 = .ok (.iload_n 1, 1) := by decide +kernel
theorem dX7_sideOf_7 : decode cX7_sideOf 7 = .ok (.imul, 1) := by decide +kernel
theorem dX7_sideOf_8 : decode cX7_sideOf 8 = .ok (.isub, 1) := by decide +kernel
theorem dX7_sideOf_9 : decode cX7_sideOf 9 = .ok (.iconst 1, 1) := by decide +kernel
theorem dX7_sideOf_10 : decode cX7_sideOf 10 = .ok (.isub, 1) := by decide +kernel
theorem dX7_sideOf_11 : decode cX7_sideOf 11 = .ok (.imul, 1) := by decide +kernel
theorem dX7_sideOf_12 : decode cX7_sideOf 12 = .ok (.iload_n 3, 1) := by decide +kernel
theorem dX7_sideOf_13 : decode cX7_sideOf 13 = .ok (.iconst 2, 1) := by decide +kernel
theorem dX7_sideOf_14 : decode cX7_sideOf 14 = .ok (.iload 4, 2) := by decide +kernel
theorem dX7_sideOf_16 : decode cX7_sideOf 16 = .ok (.imul, 1) := by decide +kernel
theorem dX7_sideOf_17 : decode cX7_sideOf 17 = .ok (.iconst 2, 1) := by decide +kernel
theorem dX7_sideOf_18 : decode cX7_sideOf 18 = .ok (.iload_n 0, 1) := by decide +kernel
theorem dX7_sideOf_19 : decode cX7_sideOf 19 = .ok (.imul, 1) := by decide +kernel
theorem dX7_sideOf_20 : decode cX7_sideOf 20 = .ok (.isub, 1) := by decide +kernel
theorem dX7_sideOf_21 : decode cX7_sideOf 21 = .ok (.iconst 1, 1) := by decide +kernel
theorem dX7_sideOf_22 : decode cX7_sideOf 22 = .ok (.isub, 1) := by decide +kernel
theorem dX7_sideOf_23 : decode cX7_sideOf 23 = .ok (.imul, 1) := by decide +kernel
theorem dX7_sideOf_24 : decode cX7_sideOf 24 = .ok (.isub, 1) := by decide +kernel
theorem dX7_sideOf_25 : decode cX7_sideOf 25 = .ok (.ireturn, 1) := by decide +kernel
set_option maxRecDepth 20000 in
theorem ggX7_meets_X7_least : GoodIn wsX7_meets wsX7_least := goodIn_r _ [4] (by decide +kernel) (by decide +kernel)
set_option maxRecDepth 20000 in
theorem gX7_meets_X7_least : GoodIn wsX7_meets (va_wsS RX7 113 yX7_least wsX7_least) := goodIn_app (goodIn_of _ (by decide +kernel)) ggX7_meets_X7_least
set_option maxRecDepth 20000 in
theorem ggX7_meets_X7_most : GoodIn wsX7_meets wsX7_most := goodIn_r _ [7] (by decide +kernel) (by decide +kernel)
set_option maxRecDepth 20000 in
theorem gX7_meets_X7_most : GoodIn wsX7_meets (va_wsS RX7 117 yX7_most wsX7_most) := goodIn_app (goodIn_of _ (by decide +kernel)) ggX7_meets_X7_most
set_option maxRecDepth 20000 in
theorem ggX7_meets_X7_sideOf : GoodIn wsX7_meets wsX7_sideOf := goodIn_r _ [10] (by decide +kernel) (by decide +kernel)
set_option maxRecDepth 20000 in
theorem gX7_meets_X7_sideOf : GoodIn wsX7_meets (va_wsS RX7 120 yX7_sideOf wsX7_sideOf) := goodIn_app (goodIn_of _ (by decide +kernel)) ggX7_meets_X7_sideOf
theorem dX7_meets_0 : decode cX7_meets 0 = .ok (.iload 4, 2) := by decide +kernel
theorem dX7_meets_2 : decode cX7_meets 2 = .ok (.iload_n 0, 1) := by decide +kernel
theorem dX7_meets_3 : decode cX7_meets 3 = .ok (.iload_n 2, 1) := by decide +kernel
theorem dX7_meets_4 : decode cX7_meets 4 = .ok (.invokestatic 113, 3) := by decide +kernel
theorem dX7_meets_7 : decode cX7_meets 7 = .ok (.if_icmp .lt 33, 3) := by decide +kernel
theorem dX7_meets_10 : decode cX7_meets 10 = .ok (.iload 4, 2) := by decide +kernel
theorem dX7_meets_12 : decode cX7_meets 12 = .ok (.iload_n 0, 1) := by decide +kernel
theorem dX7_meets_13 : decode cX7_meets 13 = .ok (.iload_n 2, 1) := by decide +kernel
theorem dX7_meets_14 : decode cX7_meets 14 = .ok (.invokestatic 117, 3) := by decide +kernel
theorem dX7_meets_17 : decode cX7_meets 17 = .ok (.if_icmp .gt 23, 3) := by decide +kernel
theorem dX7_meets_20 : decode cX7_meets 20 = .ok (.iload 5, 2) := by decide +kernel
theorem dX7_meets_22 : decode cX7_meets 22 = .ok (.iload_n 1, 1) := by decide +kernel
theorem dX7_meets_23 : decode cX7_meets 23 = .ok (.iload_n 3, 1) := by decide +kernel
theorem dX7_meets_24 : decode cX7_meets 24 = .ok (.invokestatic 113, 3) := by decide +kernel
theorem dX7_meets_27 : decode cX7_meets 27 = .ok (.if_icmp .lt 13, 3) := by decide +kernel
theorem dX7_meets_30 : decode cX7_meets 30 = .ok (.iload 5, 2) := by decide +kernel
theorem dX7_meets_32 : decode cX7_meets 32 = .ok (.iload_n 1, 1) := by decide +kernel
theorem dX7_meets_33 : decode cX7_meets 33 = .ok (.iload_n 3, 1) := by decide +kernel
theorem dX7_meets_34 : decode cX7_meets 34 = .ok (.invokestatic 117, 3) := by decide +kernel
theorem dX7_meets_37 : decode cX7_meets 37 = .ok (.if_icmp .le 5, 3) := by decide +kernel
theorem dX7_meets_40 : decode cX7_meets 40 = .ok (.iconst 0, 1) := by decide +kernel
theorem dX7_meets_41 : decode cX7_meets 41 = .ok (.ireturn, 1) := by decide +kernel
theorem dX7_meets_42 : decode cX7_meets 42 = .ok (.iload_n 2, 1) := by decide +kernel
theorem dX7_meets_43 : decode cX7_meets 43 = .ok (.iload_n 0, 1) := by decide +kernel
theorem dX7_meets_44 : decode cX7_meets 44 = .ok (.isub, 1) := by decide +kernel
theorem dX7_meets_45 : decode cX7_meets 45 = .ok (.istore 6, 2) := by decide +kernel
theorem dX7_meets_47 : decode cX7_meets 47 = .ok (.iload_n 3, 1) := by decide +kernel
theorem dX7_meets_48 : decode cX7_meets 48 = .ok (.iload_n 1, 1) := by decide +kernel
theorem dX7_meets_49 : decode cX7_meets 49 = .ok (.isub, 1) := by decide +kernel
theorem dX7_meets_50 : decode cX7_meets 50 = .ok (.istore 7, 2) := by decide +kernel
theorem dX7_meets_52 : decode cX7_meets 52 = .ok (.iload_n 0, 1) := by decide +kernel
theorem dX7_meets_53 : decode cX7_meets 53 = .ok (.iload_n 1, 1) := by decide +kernel
theorem dX7_meets_54 : decode cX7_meets 54 = .ok (.iload 6, 2) := by decide +kernel
theorem dX7_meets_56 : decode cX7_meets 56 = .ok (.iload 7, 2) := by decide +kernel
theorem dX7_meets_58 : decode cX7_meets 58 = .ok (.iload 4, 2) := by decide +kernel
theorem dX7_meets_60 : decode cX7_meets 60 = .ok (.iload 5, 2) := by decide +kernel
theorem dX7_meets_62 : decode cX7_meets 62 = .ok (.invokestatic 120, 3) := by decide +kernel
theorem dX7_meets_65 : decode cX7_meets 65 = .ok (.istore 8, 2) := by decide +kernel
theorem dX7_meets_67 : decode cX7_meets 67 = .ok (.iload_n 0, 1) := by decide +kernel
theorem dX7_meets_68 : decode cX7_meets 68 = .ok (.iload_n 1, 1) := by decide +kernel
theorem dX7_meets_69 : decode cX7_meets 69 = .ok (.iload 6, 2) := by decide +kernel
theorem dX7_meets_71 : decode cX7_meets 71 = .ok (.iload 7, 2) := by decide +kernel
theorem dX7_meets_73 : decode cX7_meets 73 = .ok (.iload 4, 2) := by decide +kernel
theorem dX7_meets_75 : decode cX7_meets 75 = .ok (.iconst 1, 1) := by decide +kernel
theorem dX7_meets_76 : decode cX7_meets 76 = .ok (.iadd, 1) := by decide +kernel
theorem dX7_meets_77 : decode cX7_meets 77 = .ok (.iload 5, 2) := by decide +kernel
theorem dX7_meets_79 : decode cX7_meets 79 = .ok (.invokestatic 120, 3) := by decide +kernel
theorem dX7_meets_82 : decode cX7_meets 82 = .ok (.istore 9, 2) := by decide +kernel
theorem dX7_meets_84 : decode cX7_meets 84 = .ok (.iload_n 0, 1) := by decide +kernel
theorem dX7_meets_85 : decode cX7_meets 85 = .ok (.iload_n 1, 1) := by decide +kernel
theorem dX7_meets_86 : decode cX7_meets 86 = .ok (.iload 6, 2) := by decide +kernel
theorem dX7_meets_88 : decode cX7_meets 88 = .ok (.iload 7, 2) := by decide +kernel
theorem dX7_meets_90 : decode cX7_meets 90 = .ok (.iload 4, 2) := by decide +kernel
theorem dX7_meets_92 : decode cX7_meets 92 = .ok (.iload 5, 2) := by decide +kernel
theorem dX7_meets_94 : decode cX7_meets 94 = .ok (.iconst 1, 1) := by decide +kernel
theorem dX7_meets_95 : decode cX7_meets 95 = .ok (.iadd, 1) := by decide +kernel
theorem dX7_meets_96 : decode cX7_meets 96 = .ok (.invokestatic 120, 3) := by decide +kernel
theorem dX7_meets_99 : decode cX7_meets 99 = .ok (.istore 10, 2) := by decide +kernel
theorem dX7_meets_101 : decode cX7_meets 101 = .ok (.iload_n 0, 1) := by decide +kernel
theorem dX7_meets_102 : decode cX7_meets 102 = .ok (.iload_n 1, 1) := by decide +kernel
theorem dX7_meets_103 : decode cX7_meets 103 = .ok (.iload 6, 2) := by decide +kernel
theorem dX7_meets_105 : decode cX7_meets 105 = .ok (.iload 7, 2) := by decide +kernel
theorem dX7_meets_107 : decode cX7_meets 107 = .ok (.iload 4, 2) := by decide +kernel
theorem dX7_meets_109 : decode cX7_meets 109 = .ok (.iconst 1, 1) := by decide +kernel
theorem dX7_meets_110 : decode cX7_meets 110 = .ok (.iadd, 1) := by decide +kernel
theorem dX7_meets_111 : decode cX7_meets 111 = .ok (.iload 5, 2) := by decide +kernel
theorem dX7_meets_113 : decode cX7_meets 113 = .ok (.iconst 1, 1) := by decide +kernel
theorem dX7_meets_114 : decode cX7_meets 114 = .ok (.iadd, 1) := by decide +kernel
theorem dX7_meets_115 : decode cX7_meets 115 = .ok (.invokestatic 120, 3) := by decide +kernel
theorem dX7_meets_118 : decode cX7_meets 118 = .ok (.istore 11, 2) := by decide +kernel
theorem dX7_meets_120 : decode cX7_meets 120 = .ok (.iload 8, 2) := by decide +kernel
theorem dX7_meets_122 : decode cX7_meets 122 = .ok (.iload 9, 2) := by decide +kernel
theorem dX7_meets_124 : decode cX7_meets 124 = .ok (.invokestatic 113, 3) := by decide +kernel
theorem dX7_meets_127 : decode cX7_meets 127 = .ok (.iload 10, 2) := by decide +kernel
theorem dX7_meets_129 : decode cX7_meets 129 = .ok (.iload 11, 2) := by decide +kernel
theorem dX7_meets_131 : decode cX7_meets 131 = .ok (.invokestatic 113, 3) := by decide +kernel
theorem dX7_meets_134 : decode cX7_meets 134 = .ok (.invokestatic 113, 3) := by decide +kernel
theorem dX7_meets_137 : decode cX7_meets 137 = .ok (.ifCond .gt 27, 3) := by decide +kernel
theorem dX7_meets_140 : decode cX7_meets 140 = .ok (.iload 8, 2) := by decide +kernel
theorem dX7_meets_142 : decode cX7_meets 142 = .ok (.iload 9, 2) := by decide +kernel
theorem dX7_meets_144 : decode cX7_meets 144 = .ok (.invokestatic 117, 3) := by decide +kernel
theorem dX7_meets_147 : decode cX7_meets 147 = .ok (.iload 10, 2) := by decide +kernel
theorem dX7_meets_149 : decode cX7_meets 149 = .ok (.iload 11, 2) := by decide +kernel
theorem dX7_meets_151 : decode cX7_meets 151 = .ok (.invokestatic 117, 3) := by decide +kernel
theorem dX7_meets_154 : decode cX7_meets 154 = .ok (.invokestatic 117, 3) := by decide +kernel
theorem dX7_meets_157 : decode cX7_meets 157 = .ok (.ifCond .lt 7, 3) := by decide +kernel
theorem dX7_meets_160 : decode cX7_meets 160 = .ok (.iconst 1, 1) := by decide +kernel
theorem dX7_meets_161 : decode cX7_meets 161 = .ok (.goto 4, 3) := by decide +kernel
theorem dX7_meets_164 : decode cX7_meets 164 = .ok (.iconst 0, 1) := by decide +kernel
theorem dX7_meets_165 : decode cX7_meets 165 = .ok (.ireturn, 1) := by decide +kernel
set_option maxRecDepth 20000 in
theorem ggX7_areInSight_X7_isFloor : GoodIn wsX7_areInSight wsX7_isFloor := goodIn_r _ [6, 1, 7, 8, 5, 9, 10, 11, 12, 25, 26, 27, 28, 29, 30, 31, 32, 33, 34, 35, 36, 37, 38, 39, 40, 41, 42, 43, 44] (by decide +kernel) (by decide +kernel)
set_option maxRecDepth 20000 in
theorem gX7_areInSight_X7_isFloor : GoodIn wsX7_areInSight (wsV RX7 71 RX7 yX7_isFloor wsX7_isFloor) := goodIn_app (goodIn_of _ (by decide +kernel)) ggX7_areInSight_X7_isFloor
set_option maxRecDepth 20000 in
theorem ggX7_areInSight_X7_meets : GoodIn wsX7_areInSight wsX7_meets := goodIn_r _ [15, 16, 17, 5, 18, 19, 20, 21, 22, 23, 24] (by decide +kernel) (by decide +kernel)
set_option maxRecDepth 20000 in
theorem gX7_areInSight_X7_meets : GoodIn wsX7_areInSight (va_wsS RX7 124 yX7_meets wsX7_meets) := goodIn_app (goodIn_of _ (by decide +kernel)) ggX7_areInSight_X7_meets
theorem dX7_areInSight_0 : decode cX7_areInSight 0 = .ok (.aload_n 0, 1) := by decide +kernel
theorem dX7_areInSight_1 : decode cX7_areInSight 1 = .ok (.iload_n 1, 1) := by decide +kernel
theorem dX7_areInSight_2 : decode cX7_areInSight 2 = .ok (.iload_n 2, 1) := by decide +kernel
theorem dX7_areInSight_3 : decode cX7_areInSight 3 = .ok (.invokevirtual 71, 3) := by decide +kernel
theorem dX7_areInSight_6 : decode cX7_areInSight 6 = .ok (.ifCond .eq 17, 3) := by decide +kernel
theorem dX7_areInSight_9 : decode cX7_areInSight 9 = .ok (.aload_n 0, 1) := by decide +kernel
theorem dX7_areInSight_10 : decode cX7_areInSight 10 = .ok (.iload_n 3, 1) := by decide +kernel
theorem dX7_areInSight_11 : decode cX7_areInSight 11 = .ok (.iload 4, 2) := by decide +kernel
theorem dX7_areInSight_13 : decode cX7_areInSight 13 = .ok (.invokevirtual 71, 3) := by decide +kernel
theorem dX7_areInSight_16 : decode cX7_areInSight 16 = .ok (.ifCond .eq 7, 3) := by decide +kernel
theorem dX7_areInSight_19 : decode cX7_areInSight 19 = .ok (.iconst 1, 1) := by decide +kernel
theorem dX7_areInSight_20 : decode cX7_areInSight 20 = .ok (.goto 4, 3) := by decide +kernel
theorem dX7_areInSight_23 : decode cX7_areInSight 23 = .ok (.iconst 0, 1) := by decide +kernel
theorem dX7_areInSight_24 : decode cX7_areInSight 24 = .ok (.istore 5, 2) := by decide +kernel
theorem dX7_areInSight_26 : decode cX7_areInSight 26 = .ok (.iconst 0, 1) := by decide +kernel
theorem dX7_areInSight_27 : decode cX7_areInSight 27 = .ok (.istore 6, 2) := by decide +kernel
theorem dX7_areInSight_29 : decode cX7_areInSight 29 = .ok (.iload 6, 2) := by decide +kernel
theorem dX7_areInSight_31 : decode cX7_areInSight 31 = .ok (.bipush 64, 2) := by decide +kernel
theorem dX7_areInSight_33 : decode cX7_areInSight 33 = .ok (.if_icmp .ge 52, 3) := by decide +kernel
theorem dX7_areInSight_36 : decode cX7_areInSight 36 = .ok (.iload 5, 2) := by decide +kernel
theorem dX7_areInSight_38 : decode cX7_areInSight 38 = .ok (.ifCond .eq 47, 3) := by decide +kernel
theorem dX7_areInSight_41 : decode cX7_areInSight 41 = .ok (.aload_n 0, 1) := by decide +kernel
theorem dX7_areInSight_42 : decode cX7_areInSight 42 = .ok (.getfield 7, 3) := by decide +kernel
theorem dX7_areInSight_45 : decode cX7_areInSight 45 = .ok (.iload 6, 2) := by decide +kernel
theorem dX7_areInSight_47 : decode cX7_areInSight 47 = .ok (.baload, 1) := by decide +kernel
theorem dX7_areInSight_48 : decode cX7_areInSight 48 = .ok (.ifCond .eq 24, 3) := by decide +kernel
theorem dX7_areInSight_51 : decode cX7_areInSight 51 = .ok (.iload_n 1, 1) := by decide +kernel
theorem dX7_areInSight_52 : decode cX7_areInSight 52 = .ok (.iload_n 2, 1) := by decide +kernel
theorem dX7_areInSight_53 : decode cX7_areInSight 53 = .ok (.iload_n 3, 1) := by decide +kernel
theorem dX7_areInSight_54 : decode cX7_areInSight 54 = .ok (.iload 4, 2) := by decide +kernel
theorem dX7_areInSight_56 : decode cX7_areInSight 56 = .ok (.iload 6, 2) := by decide +kernel
theorem dX7_areInSight_58 : decode cX7_areInSight 58 = .ok (.bipush 8, 2) := by decide +kernel
theorem dX7_areInSight_60 : decode cX7_areInSight 60 = .ok (.irem, 1) := by decide +kernel
theorem dX7_areInSight_61 : decode cX7_areInSight 61 = .ok (.iload 6, 2) := by decide +kernel
theorem dX7_areInSight_63 : decode cX7_areInSight 63 = .ok (.bipush 8, 2) := by decide +kernel
theorem dX7_areInSight_65 : decode cX7_areInSight 65 = .ok (.idiv, 1) := by decide +kernel
theorem dX7_areInSight_66 : decode cX7_areInSight 66 = .ok (.invokestatic 124, 3) := by decide +kernel
theorem dX7_areInSight_69 : decode cX7_areInSight 69 = .ok (.ifCond .ne 7, 3) := by decide +kernel
theorem dX7_areInSight_72 : decode cX7_areInSight 72 = .ok (.iconst 1, 1) := by decide +kernel
theorem dX7_areInSight_73 : decode cX7_areInSight 73 = .ok (.goto 4, 3) := by decide +kernel
theorem dX7_areInSight_76 : decode cX7_areInSight 76 = .ok (.iconst 0, 1) := by decide +kernel
theorem dX7_areInSight_77 : decode cX7_areInSight 77 = .ok (.istore 5, 2) := by decide +kernel
theorem dX7_areInSight_79 : decode cX7_areInSight 79 = .ok (.iinc 6 1, 3) := by decide +kernel
theorem dX7_areInSight_82 : decode cX7_areInSight 82 = .ok (.goto (-53), 3) := by decide +kernel
theorem dX7_areInSight_85 : decode cX7_areInSight 85 = .ok (.iload 5, 2) := by decide +kernel
theorem dX7_areInSight_87 : decode cX7_areInSight 87 = .ok (.ireturn, 1) := by decide +kernel
set_option maxRecDepth 20000 in
theorem ggX7_sees_X7_isCell : GoodIn wsX7_sees wsX7_isCell := goodIn_r _ [5, 6, 7, 4, 8] (by decide +kernel) (by decide +kernel)
set_option maxRecDepth 20000 in
theorem gX7_sees_X7_isCell : GoodIn wsX7_sees (va_wsS RX7 67 yX7_isCell wsX7_isCell) := goodIn_app (goodIn_of _ (by decide +kernel)) ggX7_sees_X7_isCell
set_option maxRecDepth 20000 in
theorem ggX7_sees_X7_areInSight : GoodIn wsX7_sees wsX7_areInSight := goodIn_r _ [12, 13, 14, 15, 16, 4, 17, 2, 3, 5, 6, 7, 8, 18, 19, 20, 21, 22, 23, 24, 25, 26, 27, 28, 29, 30, 31, 32, 33, 34, 35, 36, 37, 38, 39, 40, 41, 42, 43, 44, 45, 46, 47, 48, 49] (by decide +kernel) (by decide +kernel)
set_option maxRecDepth 20000 in
theorem gX7_sees_X7_areInSight : GoodIn wsX7_sees (wsV RX7 128 RX7 yX7_areInSight wsX7_areInSight) := goodIn_app (goodIn_of _ (by decide +kernel)) ggX7_sees_X7_areInSight
theorem dX7_sees_0 : decode cX7_sees 0 = .ok (.aload_n 0, 1) := by decide +kernel
theorem dX7_sees_1 : decode cX7_sees 1 = .ok (.iload_n 1, 1) := by decide +kernel
theorem dX7_sees_2 : decode cX7_sees 2 = .ok (.iload_n 2, 1) := by decide +kernel
theorem dX7_sees_3 : decode cX7_sees 3 = .ok (.invokestatic 67, 3) := by decide +kernel
theorem dX7_sees_6 : decode cX7_sees 6 = .ok (.ifCond .eq 16, 3) := by decide +kernel
theorem dX7_sees_9 : decode cX7_sees 9 = .ok (.iload_n 3, 1) := by decide +kernel
theorem dX7_sees_10 : decode cX7_sees 10 = .ok (.iload 4, 2) := by decide +kernel
theorem dX7_sees_12 : decode cX7_sees 12 = .ok (.invokestatic 67, 3) := by decide +kernel
theorem dX7_sees_15 : decode cX7_sees 15 = .ok (.ifCond .eq 7, 3) := by decide +kernel
theorem dX7_sees_18 : decode cX7_sees 18 = .ok (.iconst 0, 1) := by decide +kernel
theorem dX7_sees_19 : decode cX7_sees 19 = .ok (.goto 4, 3) := by decide +kernel
theorem dX7_sees_22 : decode cX7_sees 22 = .ok (.iconst 1, 1) := by decide +kernel
theorem dX7_sees_23 : decode cX7_sees 23 = .ok (.putfield 60, 3) := by decide +kernel
theorem dX7_sees_26 : decode cX7_sees 26 = .ok (.aload_n 0, 1) := by decide +kernel
theorem dX7_sees_27 : decode cX7_sees 27 = .ok (.getfield 60, 3) := by decide +kernel
theorem dX7_sees_30 : decode cX7_sees 30 = .ok (.ifCond .ne 19, 3) := by decide +kernel
theorem dX7_sees_33 : decode cX7_sees 33 = .ok (.aload_n 0, 1) := by decide +kernel
theorem dX7_sees_34 : decode cX7_sees 34 = .ok (.iload_n 1, 1) := by decide +kernel
theorem dX7_sees_35 : decode cX7_sees 35 = .ok (.iload_n 2, 1) := by decide +kernel
theorem dX7_sees_36 : decode cX7_sees 36 = .ok (.iload_n 3, 1) := by decide +kernel
theorem dX7_sees_37 : decode cX7_sees 37 = .ok (.iload 4, 2) := by decide +kernel
theorem dX7_sees_39 : decode cX7_sees 39 = .ok (.invokevirtual 128, 3) := by decide +kernel
theorem dX7_sees_42 : decode cX7_sees 42 = .ok (.ifCond .eq 7, 3) := by decide +kernel
theorem dX7_sees_45 : decode cX7_sees 45 = .ok (.iconst 1, 1) := by decide +kernel
theorem dX7_sees_46 : decode cX7_sees 46 = .ok (.goto 4, 3) := by decide +kernel
theorem dX7_sees_49 : decode cX7_sees 49 = .ok (.iconst 0, 1) := by decide +kernel
theorem dX7_sees_50 : decode cX7_sees 50 = .ok (.ireturn, 1) := by decide +kernel
set_option maxRecDepth 20000 in
theorem ggX7_seesAnew_X7_sees : GoodIn wsX7_seesAnew wsX7_sees := goodIn_r _ [5, 6, 7, 8, 4, 9, 10, 11, 12, 13, 14, 15, 16, 17, 18, 19, 20, 21, 22, 23, 24, 25, 26, 27, 28, 29, 30, 31, 32, 33, 34, 35, 36, 37, 38, 39, 40, 41, 42, 43, 44, 45, 46, 47, 48, 49, 50, 51, 52, 53] (by decide +kernel) (by decide +kernel)
set_option maxRecDepth 20000 in
theorem gX7_seesAnew_X7_sees : GoodIn wsX7_seesAnew (wsV RX7 132 RX7 yX7_sees wsX7_sees) := goodIn_app (goodIn_of _ (by decide +kernel)) ggX7_seesAnew_X7_sees
theorem dX7_seesAnew_0 : decode cX7_seesAnew 0 = .ok (.aload_n 0, 1) := by decide +kernel
theorem dX7_seesAnew_1 : decode cX7_seesAnew 1 = .ok (.iload_n 1, 1) := by decide +kernel
theorem dX7_seesAnew_2 : decode cX7_seesAnew 2 = .ok (.iload_n 2, 1) := by decide +kernel
theorem dX7_seesAnew_3 : decode cX7_seesAnew 3 = .ok (.iload_n 3, 1) := by decide +kernel
theorem dX7_seesAnew_4 : decode cX7_seesAnew 4 = .ok (.iload 4, 2) := by decide +kernel
theorem dX7_seesAnew_6 : decode cX7_seesAnew 6 = .ok (.invokevirtual 132, 3) := by decide +kernel
theorem dX7_seesAnew_9 : decode cX7_seesAnew 9 = .ok (.ireturn, 1) := by decide +kernel
set_option maxRecDepth 20000 in
theorem ggX7_lit_X7_areInSight : GoodIn wsX7_lit wsX7_areInSight := goodIn_r _ [9, 10, 11, 12, 13, 8, 14, 15, 16, 17, 18, 19, 20, 21, 22, 23, 24, 25, 26, 27, 28, 29, 30, 31, 32, 33, 34, 35, 36, 37, 38, 39, 40, 41, 42, 43, 44, 45, 46, 47, 48, 49, 50, 51, 52] (by decide +kernel) (by decide +kernel)
set_option maxRecDepth 20000 in
theorem gX7_lit_X7_areInSight : GoodIn wsX7_lit (wsV RX7 128 RX7 yX7_areInSight wsX7_areInSight) := goodIn_app (goodIn_of _ (by decide +kernel)) ggX7_lit_X7_areInSight
theorem dX7_lit_0 : decode cX7_lit 0 = .ok (.aload_n 0, 1) := by decide +kernel
theorem dX7_lit_1 : decode cX7_lit 1 = .ok (.iconst 0, 1) := by decide +kernel
theorem dX7_lit_2 : decode cX7_lit 2 = .ok (.putfield 60, 3) := by decide +kernel
theorem dX7_lit_5 : decode cX7_lit 5 = .ok (.iconst 0, 1) := by decide +kernel
theorem dX7_lit_6 : decode cX7_lit 6 = .ok (.istore_n 1, 1) := by decide +kernel
theorem dX7_lit_7 : decode cX7_lit 7 = .ok (.iconst 0, 1) := by decide +kernel
theorem dX7_lit_8 : decode cX7_lit 8 = .ok (.istore_n 2, 1) := by decide +kernel
theorem dX7_lit_9 : decode cX7_lit 9 = .ok (.iload_n 2, 1) := by decide +kernel
theorem dX7_lit_10 : decode cX7_lit 10 = .ok (.bipush 64, 2) := by decide +kernel
theorem dX7_lit_12 : decode cX7_lit 12 = .ok (.if_icmp .ge 80, 3) := by decide +kernel
theorem dX7_lit_15 : decode cX7_lit 15 = .ok (.iconst 0, 1) := by decide +kernel
theorem dX7_lit_16 : decode cX7_lit 16 = .ok (.istore_n 3, 1) := by decide +kernel
theorem dX7_lit_17 : decode cX7_lit 17 = .ok (.iconst 0, 1) := by decide +kernel
theorem dX7_lit_18 : decode cX7_lit 18 = .ok (.istore 4, 2) := by decide +kernel
theorem dX7_lit_20 : decode cX7_lit 20 = .ok (.iload 4, 2) := by decide +kernel
theorem dX7_lit_22 : decode cX7_lit 22 = .ok (.aload_n 0, 1) := by decide +kernel
theorem dX7_lit_23 : decode cX7_lit 23 = .ok (.getfield 110, 3) := by decide +kernel
theorem dX7_lit_26 : decode cX7_lit 26 = .ok (.if_icmp .ge 48, 3) := by decide +kernel
theorem dX7_lit_29 : decode cX7_lit 29 = .ok (.iload_n 3, 1) := by decide +kernel
theorem dX7_lit_30 : decode cX7_lit 30 = .ok (.ifCond .ne 32, 3) := by decide +kernel
theorem dX7_lit_33 : decode cX7_lit 33 = .ok (.aload_n 0, 1) := by decide +kernel
theorem dX7_lit_34 : decode cX7_lit 34 = .ok (.iload_n 2, 1) := by decide +kernel
theorem dX7_lit_35 : decode cX7_lit 35 = .ok (.bipush 8, 2) := by decide +kernel
theorem dX7_lit_37 : decode cX7_lit 37 = .ok (.irem, 1) := by decide +kernel
theorem dX7_lit_38 : decode cX7_lit 38 = .ok (.iload_n 2, 1) := by decide +kernel
theorem dX7_lit_39 : decode cX7_lit 39 = .ok (.bipush 8, 2) := by decide +kernel
theorem dX7_lit_41 : decode cX7_lit 41 = .ok (.idiv, 1) := by decide +kernel
theorem dX7_lit_42 : decode cX7_lit 42 = .ok (.aload_n 0, 1) := by decide +kernel
theorem dX7_lit_43 : decode cX7_lit 43 = .ok (.getfield 16, 3) := by decide +kernel
theorem dX7_lit_46 : decode cX7_lit 46 = .ok (.iload 4, 2) := by decide +kernel
theorem dX7_lit_48 : decode cX7_lit 48 = .ok (.iaload, 1) := by decide +kernel
theorem dX7_lit_49 : decode cX7_lit 49 = .ok (.aload_n 0, 1) := by decide +kernel
theorem dX7_lit_50 : decode cX7_lit 50 = .ok (.getfield 20, 3) := by decide +kernel
theorem dX7_lit_53 : decode cX7_lit 53 = .ok (.iload 4, 2) := by decide +kernel
theorem dX7_lit_55 : decode cX7_lit 55 = .ok (.iaload, 1) := by decide +kernel
theorem dX7_lit_56 : decode cX7_lit 56 = .ok (.invokevirtual 128, 3) := by decide +kernel
theorem dX7_lit_59 : decode cX7_lit 59 = .ok (.ifCond .eq 7, 3) := by decide +kernel
theorem dX7_lit_62 : decode cX7_lit 62 = .ok (.iconst 1, 1) := by decide +kernel
theorem dX7_lit_63 : decode cX7_lit 63 = .ok (.goto 4, 3) := by decide +kernel
theorem dX7_lit_66 : decode cX7_lit 66 = .ok (.iconst 0, 1) := by decide +kernel
theorem dX7_lit_67 : decode cX7_lit 67 = .ok (.istore_n 3, 1) := by decide +kernel
theorem dX7_lit_68 : decode cX7_lit 68 = .ok (.iinc 4 1, 3) := by decide +kernel
theorem dX7_lit_71 : decode cX7_lit 71 = .ok (.goto (-51), 3) := by decide +kernel
theorem dX7_lit_74 : decode cX7_lit 74 = .ok (.iload_n 1, 1) := by decide +kernel
theorem dX7_lit_75 : decode cX7_lit 75 = .ok (.iload_n 3, 1) := by decide +kernel
theorem dX7_lit_76 : decode cX7_lit 76 = .ok (.ifCond .eq 7, 3) := by decide +kernel
theorem dX7_lit_79 : decode cX7_lit 79 = .ok (.iconst 1, 1) := by decide +kernel
theorem dX7_lit_80 : decode cX7_lit 80 = .ok (.goto 4, 3) := by decide +kernel
theorem dX7_lit_83 : decode cX7_lit 83 = .ok (.iconst 0, 1) := by decide +kernel
theorem dX7_lit_84 : decode cX7_lit 84 = .ok (.iadd, 1) := by decide +kernel
theorem dX7_lit_85 : decode cX7_lit 85 = .ok (.istore_n 1, 1) := by decide +kernel
theorem dX7_lit_86 : decode cX7_lit 86 = .ok (.iinc 2 1, 3) := by decide +kernel
theorem dX7_lit_89 : decode cX7_lit 89 = .ok (.goto (-80), 3) := by decide +kernel
theorem dX7_lit_92 : decode cX7_lit 92 = .ok (.iload_n 1, 1) := by decide +kernel
theorem dX7_lit_93 : decode cX7_lit 93 = .ok (.ireturn, 1) := by decide +kernel
set_option maxRecDepth 20000 in
theorem ggX7_share_X7_lit : GoodIn wsX7_share wsX7_lit := goodIn_r _ [5, 6, 7, 8, 9, 10, 11, 12, 4, 13, 14, 15, 16, 17, 18, 19, 20, 21, 22, 23, 24, 25, 26, 27, 28, 29, 30, 31, 32, 33, 34, 35, 36, 41, 42, 43, 44, 45, 46, 47, 48, 49, 50, 51, 52, 53, 54, 55, 56, 57, 58, 59, 60] (by decide +kernel) (by decide +kernel)
set_option maxRecDepth 20000 in
theorem gX7_share_X7_lit : GoodIn wsX7_share (wsV RX7 135 RX7 yX7_lit wsX7_lit) := goodIn_app (goodIn_of _ (by decide +kernel)) ggX7_share_X7_lit
set_option maxRecDepth 20000 in
theorem ggX7_share_X7_floors : GoodIn wsX7_share wsX7_floors := goodIn_r _ [40, 14, 41, 42, 43, 44, 45, 46, 47, 48, 49, 50, 51, 52, 53, 54, 55, 56, 57, 58, 59, 60] (by decide +kernel) (by decide +kernel)
set_option maxRecDepth 20000 in
theorem gX7_share_X7_floors : GoodIn wsX7_share (wsV RX7 107 RX7 yX7_floors wsX7_floors) := goodIn_app (goodIn_of _ (by decide +kernel)) ggX7_share_X7_floors
theorem dX7_share_0 : decode cX7_share 0 = .ok (.aload_n 0, 1) := by decide +kernel
theorem dX7_share_1 : decode cX7_share 1 = .ok (.invokevirtual 135, 3) := by decide +kernel
theorem dX7_share_4 : decode cX7_share 4 = .ok (.istore_n 1, 1) := by decide +kernel
theorem dX7_share_5 : decode cX7_share 5 = .ok (.aload_n 0, 1) := by decide +kernel
theorem dX7_share_6 : decode cX7_share 6 = .ok (.invokevirtual 107, 3) := by decide +kernel
theorem dX7_share_9 : decode cX7_share 9 = .ok (.ifCond .ne 7, 3) := by decide +kernel
theorem dX7_share_12 : decode cX7_share 12 = .ok (.fconst 0, 1) := by decide +kernel
theorem dX7_share_13 : decode cX7_share 13 = .ok (.goto 11, 3) := by decide +kernel
theorem dX7_share_16 : decode cX7_share 16 = .ok (.iload_n 1, 1) := by decide +kernel
theorem dX7_share_17 : decode cX7_share 17 = .ok (.i2f, 1) := by decide +kernel
theorem dX7_share_18 : decode cX7_share 18 = .ok (.aload_n 0, 1) := by decide +kernel
theorem dX7_share_19 : decode cX7_share 19 = .ok (.invokevirtual 107, 3) := by decide +kernel
theorem dX7_share_22 : decode cX7_share 22 = .ok (.i2f, 1) := by decide +kernel
theorem dX7_share_23 : decode cX7_share 23 = .ok (.fdiv, 1) := by decide +kernel
theorem dX7_share_24 : decode cX7_share 24 = .ok (.freturn, 1) := by decide +kernel
set_option maxRecDepth 20000 in
theorem ggX7_surface_X7_in : GoodIn wsX7_surface wsX7_in := goodIn_r _ [8] (by decide +kernel) (by decide +kernel)
set_option maxRecDepth 20000 in
theorem gX7_surface_X7_in : GoodIn wsX7_surface (va_wsS RX7 63 yX7_in wsX7_in) := goodIn_app (goodIn_of _ (by decide +kernel)) ggX7_surface_X7_in
theorem dX7_surface_0 : decode cX7_surface 0 = .ok (.aload_n 0, 1) := by decide +kernel
theorem dX7_surface_1 : decode cX7_surface 1 = .ok (.iload_n 1, 1) := by decide +kernel
theorem dX7_surface_2 : decode cX7_surface 2 = .ok (.iconst 1, 1) := by decide +kernel
theorem dX7_surface_3 : decode cX7_surface 3 = .ok (.iconst 5, 1) := by decide +kernel
theorem dX7_surface_4 : decode cX7_surface 4 = .ok (.invokestatic 63, 3) := by decide +kernel
theorem dX7_surface_7 : decode cX7_surface 7 = .ok (.ifCond .eq 7, 3) := by decide +kernel
theorem dX7_surface_10 : decode cX7_surface 10 = .ok (.iconst 0, 1) := by decide +kernel
theorem dX7_surface_11 : decode cX7_surface 11 = .ok (.goto 4, 3) := by decide +kernel
theorem dX7_surface_14 : decode cX7_surface 14 = .ok (.iconst 1, 1) := by decide +kernel
theorem dX7_surface_15 : decode cX7_surface 15 = .ok (.putfield 60, 3) := by decide +kernel
theorem dX7_surface_18 : decode cX7_surface 18 = .ok (.aload_n 0, 1) := by decide +kernel
theorem dX7_surface_19 : decode cX7_surface 19 = .ok (.getfield 60, 3) := by decide +kernel
theorem dX7_surface_22 : decode cX7_surface 22 = .ok (.ifCond .le 5, 3) := by decide +kernel
theorem dX7_surface_25 : decode cX7_surface 25 = .ok (.iconst 0, 1) := by decide +kernel
theorem dX7_surface_26 : decode cX7_surface 26 = .ok (.ireturn, 1) := by decide +kernel
theorem dX7_surface_27 : decode cX7_surface 27 = .ok (.aload_n 0, 1) := by decide +kernel
theorem dX7_surface_28 : decode cX7_surface 28 = .ok (.getfield 23, 3) := by decide +kernel
theorem dX7_surface_31 : decode cX7_surface 31 = .ok (.istore_n 2, 1) := by decide +kernel
theorem dX7_surface_32 : decode cX7_surface 32 = .ok (.aload_n 0, 1) := by decide +kernel
theorem dX7_surface_33 : decode cX7_surface 33 = .ok (.iload_n 1, 1) := by decide +kernel
theorem dX7_surface_34 : decode cX7_surface 34 = .ok (.putfield 23, 3) := by decide +kernel
theorem dX7_surface_37 : decode cX7_surface 37 = .ok (.iconst 0, 1) := by decide +kernel
theorem dX7_surface_38 : decode cX7_surface 38 = .ok (.istore_n 3, 1) := by decide +kernel
theorem dX7_surface_39 : decode cX7_surface 39 = .ok (.iload_n 3, 1) := by decide +kernel
theorem dX7_surface_40 : decode cX7_surface 40 = .ok (.iload_n 1, 1) := by decide +kernel
theorem dX7_surface_41 : decode cX7_surface 41 = .ok (.if_icmp .ge 23, 3) := by decide +kernel
theorem dX7_surface_44 : decode cX7_surface 44 = .ok (.aload_n 0, 1) := by decide +kernel
theorem dX7_surface_45 : decode cX7_surface 45 = .ok (.getfield 27, 3) := by decide +kernel
theorem dX7_surface_48 : decode cX7_surface 48 = .ok (.iload_n 3, 1) := by decide +kernel
theorem dX7_surface_49 : decode cX7_surface 49 = .ok (.iload_n 3, 1) := by decide +kernel
theorem dX7_surface_50 : decode cX7_surface 50 = .ok (.iastore, 1) := by decide +kernel
theorem dX7_surface_51 : decode cX7_surface 51 = .ok (.aload_n 0, 1) := by decide +kernel
theorem dX7_surface_52 : decode cX7_surface 52 = .ok (.getfield 30, 3) := by decide +kernel
theorem dX7_surface_55 : decode cX7_surface 55 = .ok (.iload_n 3, 1) := by decide +kernel
theorem dX7_surface_56 : decode cX7_surface 56 = .ok (.iload_n 3, 1) := by decide +kernel
theorem dX7_surface_57 : decode cX7_surface 57 = .ok (.iastore, 1) := by decide +kernel
theorem dX7_surface_58 : decode cX7_surface 58 = .ok (.iinc 3 1, 3) := by decide +kernel
theorem dX7_surface_61 : decode cX7_surface 61 = .ok (.goto (-22), 3) := by decide +kernel
theorem dX7_surface_64 : decode cX7_surface 64 = .ok (.iload_n 2, 1) := by decide +kernel
theorem dX7_surface_65 : decode cX7_surface 65 = .ok (.ireturn, 1) := by decide +kernel
set_option maxRecDepth 20000 in
theorem ggX7_isSquare_X7_in : GoodIn wsX7_isSquare wsX7_in := goodIn_r _ [5] (by decide +kernel) (by decide +kernel)
set_option maxRecDepth 20000 in
theorem gX7_isSquare_X7_in : GoodIn wsX7_isSquare (va_wsS RX7 63 yX7_in wsX7_in) := goodIn_app (goodIn_of _ (by decide +kernel)) ggX7_isSquare_X7_in
theorem dX7_isSquare_0 : decode cX7_isSquare 0 = .ok (.iload_n 1, 1) := by decide +kernel
theorem dX7_isSquare_1 : decode cX7_isSquare 1 = .ok (.iconst 0, 1) := by decide +kernel
theorem dX7_isSquare_2 : decode cX7_isSquare 2 = .ok (.aload_n 0, 1) := by decide +kernel
theorem dX7_isSquare_3 : decode cX7_isSquare 3 = .ok (.getfield 23, 3) := by decide +kernel
theorem dX7_isSquare_6 : decode cX7_isSquare 6 = .ok (.iconst 1, 1) := by decide +kernel
theorem dX7_isSquare_7 : decode cX7_isSquare 7 = .ok (.isub, 1) := by decide +kernel
theorem dX7_isSquare_8 : decode cX7_isSquare 8 = .ok (.invokestatic 63, 3) := by decide +kernel
theorem dX7_isSquare_11 : decode cX7_isSquare 11 = .ok (.ireturn, 1) := by decide +kernel
set_option maxRecDepth 20000 in
theorem ggX7_glue_X7_isSquare : GoodIn wsX7_glue wsX7_isSquare := goodIn_r _ [8, 9, 10, 11, 7, 12, 13, 14, 15, 16, 17, 18, 19, 20, 21, 22, 23, 24, 25, 26, 27, 28, 29, 30, 31, 32] (by decide +kernel) (by decide +kernel)
set_option maxRecDepth 20000 in
theorem gX7_glue_X7_isSquare : GoodIn wsX7_glue (wsV RX7 138 RX7 yX7_isSquare wsX7_isSquare) := goodIn_app (goodIn_of _ (by decide +kernel)) ggX7_glue_X7_isSquare
theorem dX7_glue_0 : decode cX7_glue 0 = .ok (.aload_n 0, 1) := by decide +kernel
theorem dX7_glue_1 : decode cX7_glue 1 = .ok (.aload_n 0, 1) := by decide +kernel
theorem dX7_glue_2 : decode cX7_glue 2 = .ok (.iload_n 1, 1) := by decide +kernel
theorem dX7_glue_3 : decode cX7_glue 3 = .ok (.invokevirtual 138, 3) := by decide +kernel
theorem dX7_glue_6 : decode cX7_glue 6 = .ok (.ifCond .eq 15, 3) := by decide +kernel
theorem dX7_glue_9 : decode cX7_glue 9 = .ok (.aload_n 0, 1) := by decide +kernel
theorem dX7_glue_10 : decode cX7_glue 10 = .ok (.iload_n 2, 1) := by decide +kernel
theorem dX7_glue_11 : decode cX7_glue 11 = .ok (.invokevirtual 138, 3) := by decide +kernel
theorem dX7_glue_14 : decode cX7_glue 14 = .ok (.ifCond .eq 7, 3) := by decide +kernel
theorem dX7_glue_17 : decode cX7_glue 17 = .ok (.iconst 0, 1) := by decide +kernel
theorem dX7_glue_18 : decode cX7_glue 18 = .ok (.goto 4, 3) := by decide +kernel
theorem dX7_glue_21 : decode cX7_glue 21 = .ok (.iconst 1, 1) := by decide +kernel
theorem dX7_glue_22 : decode cX7_glue 22 = .ok (.putfield 60, 3) := by decide +kernel
theorem dX7_glue_25 : decode cX7_glue 25 = .ok (.aload_n 0, 1) := by decide +kernel
theorem dX7_glue_26 : decode cX7_glue 26 = .ok (.getfield 60, 3) := by decide +kernel
theorem dX7_glue_29 : decode cX7_glue 29 = .ok (.ifCond .le 5, 3) := by decide +kernel
theorem dX7_glue_32 : decode cX7_glue 32 = .ok (.iconst 0, 1) := by decide +kernel
theorem dX7_glue_33 : decode cX7_glue 33 = .ok (.ireturn, 1) := by decide +kernel
theorem dX7_glue_34 : decode cX7_glue 34 = .ok (.iload_n 3, 1) := by decide +kernel
theorem dX7_glue_35 : decode cX7_glue 35 = .ok (.ifCond .eq 38, 3) := by decide +kernel
theorem dX7_glue_38 : decode cX7_glue 38 = .ok (.aload_n 0, 1) := by decide +kernel
theorem dX7_glue_39 : decode cX7_glue 39 = .ok (.getfield 30, 3) := by decide +kernel
theorem dX7_glue_42 : decode cX7_glue 42 = .ok (.iload_n 1, 1) := by decide +kernel
theorem dX7_glue_43 : decode cX7_glue 43 = .ok (.iaload, 1) := by decide +kernel
theorem dX7_glue_44 : decode cX7_glue 44 = .ok (.istore 4, 2) := by decide +kernel
theorem dX7_glue_46 : decode cX7_glue 46 = .ok (.aload_n 0, 1) := by decide +kernel
theorem dX7_glue_47 : decode cX7_glue 47 = .ok (.getfield 30, 3) := by decide +kernel
theorem dX7_glue_50 : decode cX7_glue 50 = .ok (.iload_n 1, 1) := by decide +kernel
theorem dX7_glue_51 : decode cX7_glue 51 = .ok (.aload_n 0, 1) := by decide +kernel
theorem dX7_glue_52 : decode cX7_glue 52 = .ok (.getfield 30, 3) := by decide +kernel
theorem dX7_glue_55 : decode cX7_glue 55 = .ok (.iload_n 2, 1) := by decide +kernel
theorem dX7_glue_56 : decode cX7_glue 56 = .ok (.iaload, 1) := by decide +kernel
theorem dX7_glue_57 : decode cX7_glue 57 = .ok (.iastore, 1) := by decide +kernel
theorem dX7_glue_58 : decode cX7_glue 58 = .ok (.aload_n 0, 1) := by decide +kernel
theorem dX7_glue_59 : decode cX7_glue 59 = .ok (.getfield 30, 3) := by decide +kernel
theorem dX7_glue_62 : decode cX7_glue 62 = .ok (.iload_n 2, 1) := by decide +kernel
theorem dX7_glue_63 : decode cX7_glue 63 = .ok (.iload 4, 2) := by decide +kernel
theorem dX7_glue_65 : decode cX7_glue 65 = .ok (.iastore, 1) := by decide +kernel
theorem dX7_glue_66 : decode cX7_glue 66 = .ok (.aload_n 0, 1) := by decide +kernel
theorem dX7_glue_67 : decode cX7_glue 67 = .ok (.getfield 30, 3) := by decide +kernel
theorem dX7_glue_70 : decode cX7_glue 70 = .ok (.iload_n 1, 1) := by decide +kernel
theorem dX7_glue_71 : decode cX7_glue 71 = .ok (.iaload, 1) := by decide +kernel
theorem dX7_glue_72 : decode cX7_glue 72 = .ok (.ireturn, 1) := by decide +kernel
theorem dX7_glue_73 : decode cX7_glue 73 = .ok (.aload_n 0, 1) := by decide +kernel
theorem dX7_glue_74 : decode cX7_glue 74 = .ok (.getfield 27, 3) := by decide +kernel
theorem dX7_glue_77 : decode cX7_glue 77 = .ok (.iload_n 1, 1) := by decide +kernel
theorem dX7_glue_78 : decode cX7_glue 78 = .ok (.iaload, 1) := by decide +kernel
theorem dX7_glue_79 : decode cX7_glue 79 = .ok (.istore 4, 2) := by decide +kernel
theorem dX7_glue_81 : decode cX7_glue 81 = .ok (.aload_n 0, 1) := by decide +kernel
theorem dX7_glue_82 : decode cX7_glue 82 = .ok (.getfield 27, 3) := by decide +kernel
theorem dX7_glue_85 : decode cX7_glue 85 = .ok (.iload_n 1, 1) := by decide +kernel
theorem dX7_glue_86 : decode cX7_glue 86 = .ok (.aload_n 0, 1) := by decide +kernel
theorem dX7_glue_87 : decode cX7_glue 87 = .ok (.getfield 27, 3) := by decide +kernel
theorem dX7_glue_90 : decode cX7_glue 90 = .ok (.iload_n 2, 1) := by decide +kernel
theorem dX7_glue_91 : decode cX7_glue 91 = .ok (.iaload, 1) := by decide +kernel
theorem dX7_glue_92 : decode cX7_glue 92 = .ok (.iastore, 1) := by decide +kernel
theorem dX7_glue_93 : decode cX7_glue 93 = .ok (.aload_n 0, 1) := by decide +kernel
theorem dX7_glue_94 : decode cX7_glue 94 = .ok (.getfield 27, 3) := by decide +kernel
theorem dX7_glue_97 : decode cX7_glue 97 = .ok (.iload_n 2, 1) := by decide +kernel
theorem dX7_glue_98 : decode cX7_glue 98 = .ok (.iload 4, 2) := by decide +kernel
theorem dX7_glue_100 : decode cX7_glue 100 = .ok (.iastore, 1) := by decide +kernel
theorem dX7_glue_101 : decode cX7_glue 101 = .ok (.aload_n 0, 1) := by decide +kernel
theorem dX7_glue_102 : decode cX7_glue 102 = .ok (.getfield 27, 3) := by decide +kernel
theorem dX7_glue_105 : decode cX7_glue 105 = .ok (.iload_n 1, 1) := by decide +kernel
theorem dX7_glue_106 : decode cX7_glue 106 = .ok (.iaload, 1) := by decide +kernel
theorem dX7_glue_107 : decode cX7_glue 107 = .ok (.ireturn, 1) := by decide +kernel
theorem dX7_leftOf_0 : decode cX7_leftOf 0 = .ok (.iconst 0, 1) := by decide +kernel
theorem dX7_leftOf_1 : decode cX7_leftOf 1 = .ok (.istore_n 2, 1) := by decide +kernel
theorem dX7_leftOf_2 : decode cX7_leftOf 2 = .ok (.iconst 0, 1) := by decide +kernel
theorem dX7_leftOf_3 : decode cX7_leftOf 3 = .ok (.istore_n 3, 1) := by decide +kernel
theorem dX7_leftOf_4 : decode cX7_leftOf 4 = .ok (.iload_n 3, 1) := by decide +kernel
theorem dX7_leftOf_5 : decode cX7_leftOf 5 = .ok (.aload_n 0, 1) := by decide +kernel
theorem dX7_leftOf_6 : decode cX7_leftOf 6 = .ok (.getfield 23, 3) := by decide +kernel
theorem dX7_leftOf_9 : decode cX7_leftOf 9 = .ok (.if_icmp .ge 25, 3) := by decide +kernel
theorem dX7_leftOf_12 : decode cX7_leftOf 12 = .ok (.aload_n 0, 1) := by decide +kernel
theorem dX7_leftOf_13 : decode cX7_leftOf 13 = .ok (.getfield 27, 3) := by decide +kernel
theorem dX7_leftOf_16 : decode cX7_leftOf 16 = .ok (.iload_n 3, 1) := by decide +kernel
theorem dX7_leftOf_17 : decode cX7_leftOf 17 = .ok (.iaload, 1) := by decide +kernel
theorem dX7_leftOf_18 : decode cX7_leftOf 18 = .ok (.iload_n 1, 1) := by decide +kernel
theorem dX7_leftOf_19 : decode cX7_leftOf 19 = .ok (.if_icmp .ne 7, 3) := by decide +kernel
theorem dX7_leftOf_22 : decode cX7_leftOf 22 = .ok (.iload_n 3, 1) := by decide +kernel
theorem dX7_leftOf_23 : decode cX7_leftOf 23 = .ok (.goto 4, 3) := by decide +kernel
theorem dX7_leftOf_26 : decode cX7_leftOf 26 = .ok (.iload_n 2, 1) := by decide +kernel
theorem dX7_leftOf_27 : decode cX7_leftOf 27 = .ok (.istore_n 2, 1) := by decide +kernel
theorem dX7_leftOf_28 : decode cX7_leftOf 28 = .ok (.iinc 3 1, 3) := by decide +kernel
theorem dX7_leftOf_31 : decode cX7_leftOf 31 = .ok (.goto (-27), 3) := by decide +kernel
theorem dX7_leftOf_34 : decode cX7_leftOf 34 = .ok (.iload_n 2, 1) := by decide +kernel
theorem dX7_leftOf_35 : decode cX7_leftOf 35 = .ok (.ireturn, 1) := by decide +kernel
theorem dX7_downOf_0 : decode cX7_downOf 0 = .ok (.iconst 0, 1) := by decide +kernel
theorem dX7_downOf_1 : decode cX7_downOf 1 = .ok (.istore_n 2, 1) := by decide +kernel
theorem dX7_downOf_2 : decode cX7_downOf 2 = .ok (.iconst 0, 1) := by decide +kernel
theorem dX7_downOf_3 : decode cX7_downOf 3 = .ok (.istore_n 3, 1) := by decide +kernel
theorem dX7_downOf_4 : decode cX7_downOf 4 = .ok (.iload_n 3, 1) := by decide +kernel
theorem dX7_downOf_5 : decode cX7_downOf 5 = .ok (.aload_n 0, 1) := by decide +kernel
theorem dX7_downOf_6 : decode cX7_downOf 6 = .ok (.getfield 23, 3) := by decide +kernel
theorem dX7_downOf_9 : decode cX7_downOf 9 = .ok (.if_icmp .ge 25, 3) := by decide +kernel
theorem dX7_downOf_12 : decode cX7_downOf 12 = .ok (.aload_n 0, 1) := by decide +kernel
theorem dX7_downOf_13 : decode cX7_downOf 13 = .ok (.getfield 30, 3) := by decide +kernel
theorem dX7_downOf_16 : decode cX7_downOf 16 = .ok (.iload_n 3, 1) := by decide +kernel
theorem dX7_downOf_17 : decode cX7_downOf 17 = .ok (.iaload, 1) := by decide +kernel
theorem dX7_downOf_18 : decode cX7_downOf 18 = .ok (.iload_n 1, 1) := by decide +kernel
theorem dX7_downOf_19 : decode cX7_downOf 19 = .ok (.if_icmp .ne 7, 3) := by decide +kernel
theorem dX7_downOf_22 : decode cX7_downOf 22 = .ok (.iload_n 3, 1) := by decide +kernel
theorem dX7_downOf_23 : decode cX7_downOf 23 = .ok (.goto 4, 3) := by decide +kernel
theorem dX7_downOf_26 : decode cX7_downOf 26 = .ok (.iload_n 2, 1) := by decide +kernel
theorem dX7_downOf_27 : decode cX7_downOf 27 = .ok (.istore_n 2, 1) := by decide +kernel
theorem dX7_downOf_28 : decode cX7_downOf 28 = .ok (.iinc 3 1, 3) := by decide +kernel
theorem dX7_downOf_31 : decode cX7_downOf 31 = .ok (.goto (-27), 3) := by decide +kernel
theorem dX7_downOf_34 : decode cX7_downOf 34 = .ok (.iload_n 2, 1) := by decide +kernel
theorem dX7_downOf_35 : decode cX7_downOf 35 = .ok (.ireturn, 1) := by decide +kernel
set_option maxRecDepth 20000 in
theorem ggX7_round_X7_leftOf : GoodIn wsX7_round wsX7_leftOf := goodIn_r _ [7, 8, 2, 13, 14, 15, 16, 17, 18, 19, 20, 21, 22, 23, 24, 25, 26, 27, 28, 29, 30, 31, 32] (by decide +kernel) (by decide +kernel)
set_option maxRecDepth 20000 in
theorem gX7_round_X7_leftOf : GoodIn wsX7_round (wsV RX7 142 RX7 yX7_leftOf wsX7_leftOf) := goodIn_app (goodIn_of _ (by decide +kernel)) ggX7_round_X7_leftOf
set_option maxRecDepth 20000 in
theorem ggX7_round_X7_downOf : GoodIn wsX7_round wsX7_downOf := goodIn_r _ [12, 8, 1, 13, 14, 15, 16, 17, 18, 19, 20, 21, 22, 23, 24, 25, 26, 27, 28, 29, 30, 31, 32] (by decide +kernel) (by decide +kernel)
set_option maxRecDepth 20000 in
theorem gX7_round_X7_downOf : GoodIn wsX7_round (wsV RX7 145 RX7 yX7_downOf wsX7_downOf) := goodIn_app (goodIn_of _ (by decide +kernel)) ggX7_round_X7_downOf
theorem dX7_round_0 : decode cX7_round 0 = .ok (.aload_n 0, 1) := by decide +kernel
theorem dX7_round_1 : decode cX7_round 1 = .ok (.aload_n 0, 1) := by decide +kernel
theorem dX7_round_2 : decode cX7_round 2 = .ok (.aload_n 0, 1) := by decide +kernel
theorem dX7_round_3 : decode cX7_round 3 = .ok (.getfield 30, 3) := by decide +kernel
theorem dX7_round_6 : decode cX7_round 6 = .ok (.aload_n 0, 1) := by decide +kernel
theorem dX7_round_7 : decode cX7_round 7 = .ok (.getfield 27, 3) := by decide +kernel
theorem dX7_round_10 : decode cX7_round 10 = .ok (.iload_n 1, 1) := by decide +kernel
theorem dX7_round_11 : decode cX7_round 11 = .ok (.iaload, 1) := by decide +kernel
theorem dX7_round_12 : decode cX7_round 12 = .ok (.iaload, 1) := by decide +kernel
theorem dX7_round_13 : decode cX7_round 13 = .ok (.invokevirtual 142, 3) := by decide +kernel
theorem dX7_round_16 : decode cX7_round 16 = .ok (.invokevirtual 145, 3) := by decide +kernel
theorem dX7_round_19 : decode cX7_round 19 = .ok (.ireturn, 1) := by decide +kernel
set_option maxRecDepth 20000 in
theorem ggX7_angle_X7_round : GoodIn wsX7_angle wsX7_round := goodIn_r _ [5, 6, 7, 8, 9, 10, 4, 11, 12, 13, 14, 15, 16, 17, 18, 19, 20, 21, 22, 23, 24, 25, 26, 27, 28, 29, 30, 31, 32, 33, 34, 35, 36] (by decide +kernel) (by decide +kernel)
set_option maxRecDepth 20000 in
theorem gX7_angle_X7_round : GoodIn wsX7_angle (wsV RX7 148 RX7 yX7_round wsX7_round) := goodIn_app (goodIn_of _ (by decide +kernel)) ggX7_angle_X7_round
theorem dX7_angle_0 : decode cX7_angle 0 = .ok (.iconst 1, 1) := by decide +kernel
theorem dX7_angle_1 : decode cX7_angle 1 = .ok (.istore_n 2, 1) := by decide +kernel
theorem dX7_angle_2 : decode cX7_angle 2 = .ok (.aload_n 0, 1) := by decide +kernel
theorem dX7_angle_3 : decode cX7_angle 3 = .ok (.iload_n 1, 1) := by decide +kernel
theorem dX7_angle_4 : decode cX7_angle 4 = .ok (.invokevirtual 148, 3) := by decide +kernel
theorem dX7_angle_7 : decode cX7_angle 7 = .ok (.istore_n 3, 1) := by decide +kernel
theorem dX7_angle_8 : decode cX7_angle 8 = .ok (.iload_n 3, 1) := by decide +kernel
theorem dX7_angle_9 : decode cX7_angle 9 = .ok (.iload_n 1, 1) := by decide +kernel
theorem dX7_angle_10 : decode cX7_angle 10 = .ok (.if_icmp .eq 15, 3) := by decide +kernel
theorem dX7_angle_13 : decode cX7_angle 13 = .ok (.aload_n 0, 1) := by decide +kernel
theorem dX7_angle_14 : decode cX7_angle 14 = .ok (.iload_n 3, 1) := by decide +kernel
theorem dX7_angle_15 : decode cX7_angle 15 = .ok (.invokevirtual 148, 3) := by decide +kernel
theorem dX7_angle_18 : decode cX7_angle 18 = .ok (.istore_n 3, 1) := by decide +kernel
theorem dX7_angle_19 : decode cX7_angle 19 = .ok (.iinc 2 1, 3) := by decide +kernel
theorem dX7_angle_22 : decode cX7_angle 22 = .ok (.goto (-14), 3) := by decide +kernel
theorem dX7_angle_25 : decode cX7_angle 25 = .ok (.iload_n 2, 1) := by decide +kernel
theorem dX7_angle_26 : decode cX7_angle 26 = .ok (.ireturn, 1) := by decide +kernel
theorem dX7_rowSize_0 : decode cX7_rowSize 0 = .ok (.iconst 1, 1) := by decide +kernel
theorem dX7_rowSize_1 : decode cX7_rowSize 1 = .ok (.istore_n 2, 1) := by decide +kernel
theorem dX7_rowSize_2 : decode cX7_rowSize 2 = .ok (.aload_n 0, 1) := by decide +kernel
theorem dX7_rowSize_3 : decode cX7_rowSize 3 = .ok (.getfield 27, 3) := by decide +kernel
theorem dX7_rowSize_6 : decode cX7_rowSize 6 = .ok (.iload_n 1, 1) := by decide +kernel
theorem dX7_rowSize_7 : decode cX7_rowSize 7 = .ok (.iaload, 1) := by decide +kernel
theorem dX7_rowSize_8 : decode cX7_rowSize 8 = .ok (.istore_n 3, 1) := by decide +kernel
theorem dX7_rowSize_9 : decode cX7_rowSize 9 = .ok (.iload_n 3, 1) := by decide +kernel
theorem dX7_rowSize_10 : decode cX7_rowSize 10 = .ok (.iload_n 1, 1) := by decide +kernel
theorem dX7_rowSize_11 : decode cX7_rowSize 11 = .ok (.if_icmp .eq 16, 3) := by decide +kernel
theorem dX7_rowSize_14 : decode cX7_rowSize 14 = .ok (.aload_n 0, 1) := by decide +kernel
theorem dX7_rowSize_15 : decode cX7_rowSize 15 = .ok (.getfield 27, 3) := by decide +kernel
theorem dX7_rowSize_18 : decode cX7_rowSize 18 = .ok (.iload_n 3, 1) := by decide +kernel
theorem dX7_rowSize_19 : decode cX7_rowSize 19 = .ok (.iaload, 1) := by decide +kernel
theorem dX7_rowSize_20 : decode cX7_rowSize 20 = .ok (.istore_n 3, 1) := by decide +kernel
theorem dX7_rowSize_21 : decode cX7_rowSize 21 = .ok (.iinc 2 1, 3) := by decide +kernel
theorem dX7_rowSize_24 : decode cX7_rowSize 24 = .ok (.goto (-15), 3) := by decide +kernel
theorem dX7_rowSize_27 : decode cX7_rowSize 27 = .ok (.iload_n 2, 1) := by decide +kernel
theorem dX7_rowSize_28 : decode cX7_rowSize 28 = .ok (.ireturn, 1) := by decide +kernel
theorem dX7_parts_0 : decode cX7_parts 0 = .ok (.iconst 0, 1) := by decide +kernel
theorem dX7_parts_1 : decode cX7_parts 1 = .ok (.istore_n 1, 1) := by decide +kernel
theorem dX7_parts_2 : decode cX7_parts 2 = .ok (.iload_n 1, 1) := by decide +kernel
theorem dX7_parts_3 : decode cX7_parts 3 = .ok (.aload_n 0, 1) := by decide +kernel
theorem dX7_parts_4 : decode cX7_parts 4 = .ok (.getfield 23, 3) := by decide +kernel
theorem dX7_parts_7 : decode cX7_parts 7 = .ok (.if_icmp .ge 16, 3) := by decide +kernel
theorem dX7_parts_10 : decode cX7_parts 10 = .ok (.aload_n 0, 1) := by decide +kernel
theorem dX7_parts_11 : decode cX7_parts 11 = .ok (.getfield 42, 3) := by decide +kernel
theorem dX7_parts_14 : decode cX7_parts 14 = .ok (.iload_n 1, 1) := by decide +kernel
theorem dX7_parts_15 : decode cX7_parts 15 = .ok (.iload_n 1, 1) := by decide +kernel
theorem dX7_parts_16 : decode cX7_parts 16 = .ok (.iastore, 1) := by decide +kernel
theorem dX7_parts_17 : decode cX7_parts 17 = .ok (.iinc 1 1, 3) := by decide +kernel
theorem dX7_parts_20 : decode cX7_parts 20 = .ok (.goto (-18), 3) := by decide +kernel
theorem dX7_parts_23 : decode cX7_parts 23 = .ok (.return_, 1) := by decide +kernel
theorem dX7_joins_0 : decode cX7_joins 0 = .ok (.aload_n 0, 1) := by decide +kernel
theorem dX7_joins_1 : decode cX7_joins 1 = .ok (.getfield 42, 3) := by decide +kernel
theorem dX7_joins_4 : decode cX7_joins 4 = .ok (.iload_n 1, 1) := by decide +kernel
theorem dX7_joins_5 : decode cX7_joins 5 = .ok (.iaload, 1) := by decide +kernel
theorem dX7_joins_6 : decode cX7_joins 6 = .ok (.istore_n 3, 1) := by decide +kernel
theorem dX7_joins_7 : decode cX7_joins 7 = .ok (.aload_n 0, 1) := by decide +kernel
theorem dX7_joins_8 : decode cX7_joins 8 = .ok (.getfield 42, 3) := by decide +kernel
theorem dX7_joins_11 : decode cX7_joins 11 = .ok (.iload_n 2, 1) := by decide +kernel
theorem dX7_joins_12 : decode cX7_joins 12 = .ok (.iaload, 1) := by decide +kernel
theorem dX7_joins_13 : decode cX7_joins 13 = .ok (.istore 4, 2) := by decide +kernel
theorem dX7_joins_15 : decode cX7_joins 15 = .ok (.iconst 0, 1) := by decide +kernel
theorem dX7_joins_16 : decode cX7_joins 16 = .ok (.istore 5, 2) := by decide +kernel
theorem dX7_joins_18 : decode cX7_joins 18 = .ok (.iload 5, 2) := by decide +kernel
theorem dX7_joins_20 : decode cX7_joins 20 = .ok (.aload_n 0, 1) := by decide +kernel
theorem dX7_joins_21 : decode cX7_joins 21 = .ok (.getfield 23, 3) := by decide +kernel
theorem dX7_joins_24 : decode cX7_joins 24 = .ok (.if_icmp .ge 39, 3) := by decide +kernel
theorem dX7_joins_27 : decode cX7_joins 27 = .ok (.aload_n 0, 1) := by decide +kernel
theorem dX7_joins_28 : decode cX7_joins 28 = .ok (.getfield 42, 3) := by decide +kernel
theorem dX7_joins_31 : decode cX7_joins 31 = .ok (.iload 5, 2) := by decide +kernel
theorem dX7_joins_33 : decode cX7_joins 33 = .ok (.aload_n 0, 1) := by decide +kernel
theorem dX7_joins_34 : decode cX7_joins 34 = .ok (.getfield 42, 3) := by decide +kernel
theorem dX7_joins_37 : decode cX7_joins 37 = .ok (.iload 5, 2) := by decide +kernel
theorem dX7_joins_39 : decode cX7_joins 39 = .ok (.iaload, 1) := by decide +kernel
theorem dX7_joins_40 : decode cX7_joins 40 = .ok (.iload_n 3, 1) := by decide +kernel
theorem dX7_joins_41 : decode cX7_joins 41 = .ok (.if_icmp .ne 8, 3) := by decide +kernel
theorem dX7_joins_44 : decode cX7_joins 44 = .ok (.iload 4, 2) := by decide +kernel
theorem dX7_joins_46 : decode cX7_joins 46 = .ok (.goto 10, 3) := by decide +kernel
theorem dX7_joins_49 : decode cX7_joins 49 = .ok (.aload_n 0, 1) := by decide +kernel
theorem dX7_joins_50 : decode cX7_joins 50 = .ok (.getfield 42, 3) := by decide +kernel
theorem dX7_joins_53 : decode cX7_joins 53 = .ok (.iload 5, 2) := by decide +kernel
theorem dX7_joins_55 : decode cX7_joins 55 = .ok (.iaload, 1) := by decide +kernel
theorem dX7_joins_56 : decode cX7_joins 56 = .ok (.iastore, 1) := by decide +kernel
theorem dX7_joins_57 : decode cX7_joins 57 = .ok (.iinc 5 1, 3) := by decide +kernel
theorem dX7_joins_60 : decode cX7_joins 60 = .ok (.goto (-42), 3) := by decide +kernel
theorem dX7_joins_63 : decode cX7_joins 63 = .ok (.return_, 1) := by decide +kernel
set_option maxRecDepth 20000 in
theorem ggX7_findsPieces_X7_parts : GoodIn wsX7_findsPieces wsX7_parts := goodIn_r _ [8, 1, 9, 14, 15, 16, 17, 18, 19, 20, 21, 22, 23, 24, 25, 26, 27, 28, 29, 30, 31, 32, 33] (by decide +kernel) (by decide +kernel)
set_option maxRecDepth 20000 in
theorem gX7_findsPieces_X7_parts : GoodIn wsX7_findsPieces (wsV RX7 151 RX7 yX7_parts wsX7_parts) := goodIn_app (goodIn_of _ (by decide +kernel)) ggX7_findsPieces_X7_parts
set_option maxRecDepth 20000 in
theorem ggX7_findsPieces_X7_joins : GoodIn wsX7_findsPieces wsX7_joins := goodIn_r _ [13, 9, 1, 14, 15, 16, 17, 18, 19, 20, 21, 22, 23, 24, 25, 26, 27, 28, 29, 30, 31, 32, 33] (by decide +kernel) (by decide +kernel)
set_option maxRecDepth 20000 in
theorem gX7_findsPieces_X7_joins : GoodIn wsX7_findsPieces (wsV RX7 154 RX7 yX7_joins wsX7_joins) := goodIn_app (goodIn_of _ (by decide +kernel)) ggX7_findsPieces_X7_joins
theorem dX7_findsPieces_0 : decode cX7_findsPieces 0 = .ok (.aload_n 0, 1) := by decide +kernel
theorem dX7_findsPieces_1 : decode cX7_findsPieces 1 = .ok (.invokevirtual 151, 3) := by decide +kernel
theorem dX7_findsPieces_4 : decode cX7_findsPieces 4 = .ok (.iconst 0, 1) := by decide +kernel
theorem dX7_findsPieces_5 : decode cX7_findsPieces 5 = .ok (.istore_n 1, 1) := by decide +kernel
theorem dX7_findsPieces_6 : decode cX7_findsPieces 6 = .ok (.iload_n 1, 1) := by decide +kernel
theorem dX7_findsPieces_7 : decode cX7_findsPieces 7 = .ok (.aload_n 0, 1) := by decide +kernel
theorem dX7_findsPieces_8 : decode cX7_findsPieces 8 = .ok (.getfield 23, 3) := by decide +kernel
theorem dX7_findsPieces_11 : decode cX7_findsPieces 11 = .ok (.if_icmp .ge 31, 3) := by decide +kernel
theorem dX7_findsPieces_14 : decode cX7_findsPieces 14 = .ok (.aload_n 0, 1) := by decide +kernel
theorem dX7_findsPieces_15 : decode cX7_findsPieces 15 = .ok (.iload_n 1, 1) := by decide +kernel
theorem dX7_findsPieces_16 : decode cX7_findsPieces 16 = .ok (.aload_n 0, 1) := by decide +kernel
theorem dX7_findsPieces_17 : decode cX7_findsPieces 17 = .ok (.getfield 27, 3) := by decide +kernel
theorem dX7_findsPieces_20 : decode cX7_findsPieces 20 = .ok (.iload_n 1, 1) := by decide +kernel
theorem dX7_findsPieces_21 : decode cX7_findsPieces 21 = .ok (.iaload, 1) := by decide +kernel
theorem dX7_findsPieces_22 : decode cX7_findsPieces 22 = .ok (.invokevirtual 154, 3) := by decide +kernel
theorem dX7_findsPieces_25 : decode cX7_findsPieces 25 = .ok (.aload_n 0, 1) := by decide +kernel
theorem dX7_findsPieces_26 : decode cX7_findsPieces 26 = .ok (.iload_n 1, 1) := by decide +kernel
theorem dX7_findsPieces_27 : decode cX7_findsPieces 27 = .ok (.aload_n 0, 1) := by decide +kernel
theorem dX7_findsPieces_28 : decode cX7_findsPieces 28 = .ok (.getfield 30, 3) := by decide +kernel
theorem dX7_findsPieces_31 : decode cX7_findsPieces 31 = .ok (.iload_n 1, 1) := by decide +kernel
theorem dX7_findsPieces_32 : decode cX7_findsPieces 32 = .ok (.iaload, 1) := by decide +kernel
theorem dX7_findsPieces_33 : decode cX7_findsPieces 33 = .ok (.invokevirtual 154, 3) := by decide +kernel
theorem dX7_findsPieces_36 : decode cX7_findsPieces 36 = .ok (.iinc 1 1, 3) := by decide +kernel
theorem dX7_findsPieces_39 : decode cX7_findsPieces 39 = .ok (.goto (-33), 3) := by decide +kernel
theorem dX7_findsPieces_42 : decode cX7_findsPieces 42 = .ok (.return_, 1) := by decide +kernel
set_option maxRecDepth 20000 in
theorem ggX7_findsRows_X7_parts : GoodIn wsX7_findsRows wsX7_parts := goodIn_r _ [7, 1, 8, 13, 14, 15, 16, 17, 18, 19, 20, 21, 22, 23, 24, 25, 26, 27, 28, 29, 30, 31, 32] (by decide +kernel) (by decide +kernel)
set_option maxRecDepth 20000 in
theorem gX7_findsRows_X7_parts : GoodIn wsX7_findsRows (wsV RX7 151 RX7 yX7_parts wsX7_parts) := goodIn_app (goodIn_of _ (by decide +kernel)) ggX7_findsRows_X7_parts
set_option maxRecDepth 20000 in
theorem ggX7_findsRows_X7_joins : GoodIn wsX7_findsRows wsX7_joins := goodIn_r _ [12, 8, 1, 13, 14, 15, 16, 17, 18, 19, 20, 21, 22, 23, 24, 25, 26, 27, 28, 29, 30, 31, 32] (by decide +kernel) (by decide +kernel)
set_option maxRecDepth 20000 in
theorem gX7_findsRows_X7_joins : GoodIn wsX7_findsRows (wsV RX7 154 RX7 yX7_joins wsX7_joins) := goodIn_app (goodIn_of _ (by decide +kernel)) ggX7_findsRows_X7_joins
theorem dX7_findsRows_0 : decode cX7_findsRows 0 = .ok (.aload_n 0, 1) := by decide +kernel
theorem dX7_findsRows_1 : decode cX7_findsRows 1 = .ok (.invokevirtual 151, 3) := by decide +kernel
theorem dX7_findsRows_4 : decode cX7_findsRows 4 = .ok (.iconst 0, 1) := by decide +kernel
theorem dX7_findsRows_5 : decode cX7_findsRows 5 = .ok (.istore_n 1, 1) := by decide +kernel
theorem dX7_findsRows_6 : decode cX7_findsRows 6 = .ok (.iload_n 1, 1) := by decide +kernel
theorem dX7_findsRows_7 : decode cX7_findsRows 7 = .ok (.aload_n 0, 1) := by decide +kernel
theorem dX7_findsRows_8 : decode cX7_findsRows 8 = .ok (.getfield 23, 3) := by decide +kernel
theorem dX7_findsRows_11 : decode cX7_findsRows 11 = .ok (.if_icmp .ge 20, 3) := by decide +kernel
theorem dX7_findsRows_14 : decode cX7_findsRows 14 = .ok (.aload_n 0, 1) := by decide +kernel
theorem dX7_findsRows_15 : decode cX7_findsRows 15 = .ok (.iload_n 1, 1) := by decide +kernel
theorem dX7_findsRows_16 : decode cX7_findsRows 16 = .ok (.aload_n 0, 1) := by decide +kernel
theorem dX7_findsRows_17 : decode cX7_findsRows 17 = .ok (.getfield 27, 3) := by decide +kernel
theorem dX7_findsRows_20 : decode cX7_findsRows 20 = .ok (.iload_n 1, 1) := by decide +kernel
theorem dX7_findsRows_21 : decode cX7_findsRows 21 = .ok (.iaload, 1) := by decide +kernel
theorem dX7_findsRows_22 : decode cX7_findsRows 22 = .ok (.invokevirtual 154, 3) := by decide +kernel
theorem dX7_findsRows_25 : decode cX7_findsRows 25 = .ok (.iinc 1 1, 3) := by decide +kernel
theorem dX7_findsRows_28 : decode cX7_findsRows 28 = .ok (.goto (-22), 3) := by decide +kernel
theorem dX7_findsRows_31 : decode cX7_findsRows 31 = .ok (.return_, 1) := by decide +kernel
set_option maxRecDepth 20000 in
theorem ggX7_isFlat_X7_angle : GoodIn wsX7_isFlat wsX7_angle := goodIn_r _ [6, 7, 8, 9, 5, 10, 11, 1, 12, 13, 14, 15, 16, 17, 18, 19, 20, 21, 22, 23, 24, 25, 26, 27, 28, 29, 30, 31, 32, 33, 34, 35, 36, 37, 38, 39, 40] (by decide +kernel) (by decide +kernel)
set_option maxRecDepth 20000 in
theorem gX7_isFlat_X7_angle : GoodIn wsX7_isFlat (wsV RX7 158 RX7 yX7_angle wsX7_angle) := goodIn_app (goodIn_of _ (by decide +kernel)) ggX7_isFlat_X7_angle
theorem dX7_isFlat_0 : decode cX7_isFlat 0 = .ok (.aload_n 0, 1) := by decide +kernel
theorem dX7_isFlat_1 : decode cX7_isFlat 1 = .ok (.iload_n 1, 1) := by decide +kernel
theorem dX7_isFlat_2 : decode cX7_isFlat 2 = .ok (.invokevirtual 158, 3) := by decide +kernel
theorem dX7_isFlat_5 : decode cX7_isFlat 5 = .ok (.iconst 1, 1) := by decide +kernel
theorem dX7_isFlat_6 : decode cX7_isFlat 6 = .ok (.if_icmp .ne 7, 3) := by decide +kernel
theorem dX7_isFlat_9 : decode cX7_isFlat 9 = .ok (.iconst 1, 1) := by decide +kernel
theorem dX7_isFlat_10 : decode cX7_isFlat 10 = .ok (.goto 4, 3) := by decide +kernel
theorem dX7_isFlat_13 : decode cX7_isFlat 13 = .ok (.iconst 0, 1) := by decide +kernel
theorem dX7_isFlat_14 : decode cX7_isFlat 14 = .ok (.istore_n 2, 1) := by decide +kernel
theorem dX7_isFlat_15 : decode cX7_isFlat 15 = .ok (.aload_n 0, 1) := by decide +kernel
theorem dX7_isFlat_16 : decode cX7_isFlat 16 = .ok (.getfield 27, 3) := by decide +kernel
theorem dX7_isFlat_19 : decode cX7_isFlat 19 = .ok (.iload_n 1, 1) := by decide +kernel
theorem dX7_isFlat_20 : decode cX7_isFlat 20 = .ok (.iaload, 1) := by decide +kernel
theorem dX7_isFlat_21 : decode cX7_isFlat 21 = .ok (.istore_n 3, 1) := by decide +kernel
theorem dX7_isFlat_22 : decode cX7_isFlat 22 = .ok (.iload_n 3, 1) := by decide +kernel
theorem dX7_isFlat_23 : decode cX7_isFlat 23 = .ok (.iload_n 1, 1) := by decide +kernel
theorem dX7_isFlat_24 : decode cX7_isFlat 24 = .ok (.if_icmp .eq 32, 3) := by decide +kernel
theorem dX7_isFlat_27 : decode cX7_isFlat 27 = .ok (.iload_n 2, 1) := by decide +kernel
theorem dX7_isFlat_28 : decode cX7_isFlat 28 = .ok (.ifCond .eq 16, 3) := by decide +kernel
theorem dX7_isFlat_31 : decode cX7_isFlat 31 = .ok (.aload_n 0, 1) := by decide +kernel
theorem dX7_isFlat_32 : decode cX7_isFlat 32 = .ok (.iload_n 3, 1) := by decide +kernel
theorem dX7_isFlat_33 : decode cX7_isFlat 33 = .ok (.invokevirtual 158, 3) := by decide +kernel
theorem dX7_isFlat_36 : decode cX7_isFlat 36 = .ok (.iconst 1, 1) := by decide +kernel
theorem dX7_isFlat_37 : decode cX7_isFlat 37 = .ok (.if_icmp .ne 7, 3) := by decide +kernel
theorem dX7_isFlat_40 : decode cX7_isFlat 40 = .ok (.iconst 1, 1) := by decide +kernel
theorem dX7_isFlat_41 : decode cX7_isFlat 41 = .ok (.goto 4, 3) := by decide +kernel
theorem dX7_isFlat_44 : decode cX7_isFlat 44 = .ok (.iconst 0, 1) := by decide +kernel
theorem dX7_isFlat_45 : decode cX7_isFlat 45 = .ok (.istore_n 2, 1) := by decide +kernel
theorem dX7_isFlat_46 : decode cX7_isFlat 46 = .ok (.aload_n 0, 1) := by decide +kernel
theorem dX7_isFlat_47 : decode cX7_isFlat 47 = .ok (.getfield 27, 3) := by decide +kernel
theorem dX7_isFlat_50 : decode cX7_isFlat 50 = .ok (.iload_n 3, 1) := by decide +kernel
theorem dX7_isFlat_51 : decode cX7_isFlat 51 = .ok (.iaload, 1) := by decide +kernel
theorem dX7_isFlat_52 : decode cX7_isFlat 52 = .ok (.istore_n 3, 1) := by decide +kernel
theorem dX7_isFlat_53 : decode cX7_isFlat 53 = .ok (.goto (-31), 3) := by decide +kernel
theorem dX7_isFlat_56 : decode cX7_isFlat 56 = .ok (.iload_n 2, 1) := by decide +kernel
theorem dX7_isFlat_57 : decode cX7_isFlat 57 = .ok (.ireturn, 1) := by decide +kernel
set_option maxRecDepth 20000 in
theorem ggX7_findsCylinders_X7_findsRows : GoodIn wsX7_findsCylinders wsX7_findsRows := goodIn_r _ [7, 1, 8, 9, 10, 11, 6, 12, 13, 14, 15, 16, 17, 38, 39, 40, 41, 42, 43, 44, 45, 46, 47, 48, 49, 50, 51, 52, 53, 54, 55, 56, 57] (by decide +kernel) (by decide +kernel)
set_option maxRecDepth 20000 in
theorem gX7_findsCylinders_X7_findsRows : GoodIn wsX7_findsCylinders (wsV RX7 161 RX7 yX7_findsRows wsX7_findsRows) := goodIn_app (goodIn_of _ (by decide +kernel)) ggX7_findsCylinders_X7_findsRows
set_option maxRecDepth 20000 in
theorem ggX7_findsCylinders_X7_isFlat : GoodIn wsX7_findsCylinders wsX7_isFlat := goodIn_r _ [21, 8, 22, 23, 24, 6, 25, 26, 27, 28, 29, 2, 30, 31, 32, 33, 1, 34, 35, 36, 37, 38, 39, 40, 41, 42, 43, 44, 45, 46, 47, 48, 49, 50, 51, 52, 53, 54, 55, 56, 57] (by decide +kernel) (by decide +kernel)
set_option maxRecDepth 20000 in
theorem gX7_findsCylinders_X7_isFlat : GoodIn wsX7_findsCylinders (wsV RX7 164 RX7 yX7_isFlat wsX7_isFlat) := goodIn_app (goodIn_of _ (by decide +kernel)) ggX7_findsCylinders_X7_isFlat
set_option maxRecDepth 20000 in
theorem ggX7_findsCylinders_X7_joins : GoodIn wsX7_findsCylinders wsX7_joins := goodIn_r _ [17, 13, 1, 38, 39, 40, 41, 42, 43, 44, 45, 46, 47, 48, 49, 50, 51, 52, 53, 54, 55, 56, 57] (by decide +kernel) (by decide +kernel)
set_option maxRecDepth 20000 in
theorem gX7_findsCylinders_X7_joins : GoodIn wsX7_findsCylinders (wsV RX7 154 RX7 yX7_joins wsX7_joins) := goodIn_app (goodIn_of _ (by decide +kernel)) ggX7_findsCylinders_X7_joins
theorem dX7_findsCylinders_0 : decode cX7_findsCylinders 0 = .ok (.aload_n 0, 1) := by decide +kernel
theorem dX7_findsCylinders_1 : decode cX7_findsCylinders 1 = .ok (.invokevirtual 161, 3) := by decide +kernel
theorem dX7_findsCylinders_4 : decode cX7_findsCylinders 4 = .ok (.iconst 0, 1) := by decide +kernel
theorem dX7_findsCylinders_5 : decode cX7_findsCylinders 5 = .ok (.istore_n 1, 1) := by decide +kernel
theorem dX7_findsCylinders_6 : decode cX7_findsCylinders 6 = .ok (.iload_n 1, 1) := by decide +kernel
theorem dX7_findsCylinders_7 : decode cX7_findsCylinders 7 = .ok (.aload_n 0, 1) := by decide +kernel
theorem dX7_findsCylinders_8 : decode cX7_findsCylinders 8 = .ok (.getfield 23, 3) := by decide +kernel
theorem dX7_findsCylinders_11 : decode cX7_findsCylinders 11 = .ok (.if_icmp .ge 28, 3) := by decide +kernel
theorem dX7_findsCylinders_14 : decode cX7_findsCylinders 14 = .ok (.aload_n 0, 1) := by decide +kernel
theorem dX7_findsCylinders_15 : decode cX7_findsCylinders 15 = .ok (.iload_n 1, 1) := by decide +kernel
theorem dX7_findsCylinders_16 : decode cX7_findsCylinders 16 = .ok (.invokevirtual 164, 3) := by decide +kernel
theorem dX7_findsCylinders_19 : decode cX7_findsCylinders 19 = .ok (.ifCond .eq 14, 3) := by decide +kernel
theorem dX7_findsCylinders_22 : decode cX7_findsCylinders 22 = .ok (.aload_n 0, 1) := by decide +kernel
theorem dX7_findsCylinders_23 : decode cX7_findsCylinders 23 = .ok (.iload_n 1, 1) := by decide +kernel
theorem dX7_findsCylinders_24 : decode cX7_findsCylinders 24 = .ok (.aload_n 0, 1) := by decide +kernel
theorem dX7_findsCylinders_25 : decode cX7_findsCylinders 25 = .ok (.getfield 30, 3) := by decide +kernel
theorem dX7_findsCylinders_28 : decode cX7_findsCylinders 28 = .ok (.iload_n 1, 1) := by decide +kernel
theorem dX7_findsCylinders_29 : decode cX7_findsCylinders 29 = .ok (.iaload, 1) := by decide +kernel
theorem dX7_findsCylinders_30 : decode cX7_findsCylinders 30 = .ok (.invokevirtual 154, 3) := by decide +kernel
theorem dX7_findsCylinders_33 : decode cX7_findsCylinders 33 = .ok (.iinc 1 1, 3) := by decide +kernel
theorem dX7_findsCylinders_36 : decode cX7_findsCylinders 36 = .ok (.goto (-30), 3) := by decide +kernel
theorem dX7_findsCylinders_39 : decode cX7_findsCylinders 39 = .ok (.return_, 1) := by decide +kernel
theorem dX7_manyParts_0 : decode cX7_manyParts 0 = .ok (.iconst 0, 1) := by decide +kernel
theorem dX7_manyParts_1 : decode cX7_manyParts 1 = .ok (.istore_n 1, 1) := by decide +kernel
theorem dX7_manyParts_2 : decode cX7_manyParts 2 = .ok (.iconst 0, 1) := by decide +kernel
theorem dX7_manyParts_3 : decode cX7_manyParts 3 = .ok (.istore_n 2, 1) := by decide +kernel
theorem dX7_manyParts_4 : decode cX7_manyParts 4 = .ok (.iload_n 2, 1) := by decide +kernel
theorem dX7_manyParts_5 : decode cX7_manyParts 5 = .ok (.aload_n 0, 1) := by decide +kernel
theorem dX7_manyParts_6 : decode cX7_manyParts 6 = .ok (.getfield 23, 3) := by decide +kernel
theorem dX7_manyParts_9 : decode cX7_manyParts 9 = .ok (.if_icmp .ge 64, 3) := by decide +kernel
theorem dX7_manyParts_12 : decode cX7_manyParts 12 = .ok (.iconst 1, 1) := by decide +kernel
theorem dX7_manyParts_13 : decode cX7_manyParts 13 = .ok (.istore_n 3, 1) := by decide +kernel
theorem dX7_manyParts_14 : decode cX7_manyParts 14 = .ok (.iconst 0, 1) := by decide +kernel
theorem dX7_manyParts_15 : decode cX7_manyParts 15 = .ok (.istore 4, 2) := by decide +kernel
theorem dX7_manyParts_17 : decode cX7_manyParts 17 = .ok (.iload 4, 2) := by decide +kernel
theorem dX7_manyParts_19 : decode cX7_manyParts 19 = .ok (.iload_n 2, 1) := by decide +kernel
theorem dX7_manyParts_20 : decode cX7_manyParts 20 = .ok (.if_icmp .ge 35, 3) := by decide +kernel
theorem dX7_manyParts_23 : decode cX7_manyParts 23 = .ok (.iload_n 3, 1) := by decide +kernel
theorem dX7_manyParts_24 : decode cX7_manyParts 24 = .ok (.ifCond .eq 23, 3) := by decide +kernel
theorem dX7_manyParts_27 : decode cX7_manyParts 27 = .ok (.aload_n 0, 1) := by decide +kernel
theorem dX7_manyParts_28 : decode cX7_manyParts 28 = .ok (.getfield 42, 3) := by decide +kernel
theorem dX7_manyParts_31 : decode cX7_manyParts 31 = .ok (.iload 4, 2) := by decide +kernel
theorem dX7_manyParts_33 : decode cX7_manyParts 33 = .ok (.iaload, 1) := by decide +kernel
theorem dX7_manyParts_34 : decode cX7_manyParts 34 = .ok (.aload_n 0, 1) := by decide +kernel
theorem dX7_manyParts_35 : decode cX7_manyParts 35 = .ok (.getfield 42, 3) := by decide +kernel
theorem dX7_manyParts_38 : decode cX7_manyParts 38 = .ok (.iload_n 2, 1) := by decide +kernel
theorem dX7_manyParts_39 : decode cX7_manyParts 39 = .ok (.iaload, 1) := by decide +kernel
theorem dX7_manyParts_40 : decode cX7_manyParts 40 = .ok (.if_icmp .eq 7, 3) := by decide +kernel
theorem dX7_manyParts_43 : decode cX7_manyParts 43 = .ok (.iconst 1, 1) := by decide +kernel
theorem dX7_manyParts_44 : decode cX7_manyParts 44 = .ok (.goto 4, 3) := by decide +kernel
theorem dX7_manyParts_47 : decode cX7_manyParts 47 = .ok (.iconst 0, 1) := by decide +kernel
theorem dX7_manyParts_48 : decode cX7_manyParts 48 = .ok (.istore_n 3, 1) := by decide +kernel
theorem dX7_manyParts_49 : decode cX7_manyParts 49 = .ok (.iinc 4 1, 3) := by decide +kernel
theorem dX7_manyParts_52 : decode cX7_manyParts 52 = .ok (.goto (-35), 3) := by decide +kernel
theorem dX7_manyParts_55 : decode cX7_manyParts 55 = .ok (.iload_n 1, 1) := by decide +kernel
theorem dX7_manyParts_56 : decode cX7_manyParts 56 = .ok (.iload_n 3, 1) := by decide +kernel
theorem dX7_manyParts_57 : decode cX7_manyParts 57 = .ok (.ifCond .eq 7, 3) := by decide +kernel
theorem dX7_manyParts_60 : decode cX7_manyParts 60 = .ok (.iconst 1, 1) := by decide +kernel
theorem dX7_manyParts_61 : decode cX7_manyParts 61 = .ok (.goto 4, 3) := by decide +kernel
theorem dX7_manyParts_64 : decode cX7_manyParts 64 = .ok (.iconst 0, 1) := by decide +kernel
theorem dX7_manyParts_65 : decode cX7_manyParts 65 = .ok (.iadd, 1) := by decide +kernel
theorem dX7_manyParts_66 : decode cX7_manyParts 66 = .ok (.istore_n 1, 1) := by decide +kernel
theorem dX7_manyParts_67 : decode cX7_manyParts 67 = .ok (.iinc 2 1, 3) := by decide +kernel
theorem dX7_manyParts_70 : decode cX7_manyParts 70 = .ok (.goto (-66), 3) := by decide +kernel
theorem dX7_manyParts_73 : decode cX7_manyParts 73 = .ok (.iload_n 1, 1) := by decide +kernel
theorem dX7_manyParts_74 : decode cX7_manyParts 74 = .ok (.ireturn, 1) := by decide +kernel
theorem dX7_sizeOf_0 : decode cX7_sizeOf 0 = .ok (.iconst 0, 1) := by decide +kernel
theorem dX7_sizeOf_1 : decode cX7_sizeOf 1 = .ok (.istore_n 2, 1) := by decide +kernel
theorem dX7_sizeOf_2 : decode cX7_sizeOf 2 = .ok (.iconst 0, 1) := by decide +kernel
theorem dX7_sizeOf_3 : decode cX7_sizeOf 3 = .ok (.istore_n 3, 1) := by decide +kernel
theorem dX7_sizeOf_4 : decode cX7_sizeOf 4 = .ok (.iload_n 3, 1) := by decide +kernel
theorem dX7_sizeOf_5 : decode cX7_sizeOf 5 = .ok (.aload_n 0, 1) := by decide +kernel
theorem dX7_sizeOf_6 : decode cX7_sizeOf 6 = .ok (.getfield 23, 3) := by decide +kernel
theorem dX7_sizeOf_9 : decode cX7_sizeOf 9 = .ok (.if_icmp .ge 32, 3) := by decide +kernel
theorem dX7_sizeOf_12 : decode cX7_sizeOf 12 = .ok (.iload_n 2, 1) := by decide +kernel
theorem dX7_sizeOf_13 : decode cX7_sizeOf 13 = .ok (.aload_n 0, 1) := by decide +kernel
theorem dX7_sizeOf_14 : decode cX7_sizeOf 14 = .ok (.getfield 42, 3) := by decide +kernel
theorem dX7_sizeOf_17 : decode cX7_sizeOf 17 = .ok (.iload_n 3, 1) := by decide +kernel
theorem dX7_sizeOf_18 : decode cX7_sizeOf 18 = .ok (.iaload, 1) := by decide +kernel
theorem dX7_sizeOf_19 : decode cX7_sizeOf 19 = .ok (.aload_n 0, 1) := by decide +kernel
theorem dX7_sizeOf_20 : decode cX7_sizeOf 20 = .ok (.getfield 42, 3) := by decide +kernel
theorem dX7_sizeOf_23 : decode cX7_sizeOf 23 = .ok (.iload_n 1, 1) := by decide +kernel
theorem dX7_sizeOf_24 : decode cX7_sizeOf 24 = .ok (.iaload, 1) := by decide +kernel
theorem dX7_sizeOf_25 : decode cX7_sizeOf 25 = .ok (.if_icmp .ne 7, 3) := by decide +kernel
theorem dX7_sizeOf_28 : decode cX7_sizeOf 28 = .ok (.iconst 1, 1) := by decide +kernel
theorem dX7_sizeOf_29 : decode cX7_sizeOf 29 = .ok (.goto 4, 3) := by decide +kernel
theorem dX7_sizeOf_32 : decode cX7_sizeOf 32 = .ok (.iconst 0, 1) := by decide +kernel
theorem dX7_sizeOf_33 : decode cX7_sizeOf 33 = .ok (.iadd, 1) := by decide +kernel
theorem dX7_sizeOf_34 : decode cX7_sizeOf 34 = .ok (.istore_n 2, 1) := by decide +kernel
theorem dX7_sizeOf_35 : decode cX7_sizeOf 35 = .ok (.iinc 3 1, 3) := by decide +kernel
theorem dX7_sizeOf_38 : decode cX7_sizeOf 38 = .ok (.goto (-34), 3) := by decide +kernel
theorem dX7_sizeOf_41 : decode cX7_sizeOf 41 = .ok (.iload_n 2, 1) := by decide +kernel
theorem dX7_sizeOf_42 : decode cX7_sizeOf 42 = .ok (.ireturn, 1) := by decide +kernel
set_option maxRecDepth 20000 in
theorem ggX7_cones_X7_parts : GoodIn wsX7_cones wsX7_parts := goodIn_r _ [6, 1, 7, 30, 31, 32, 33, 34, 35, 36, 37, 38, 39, 40, 41, 42, 43, 44, 45, 46, 47, 48, 49] (by decide +kernel) (by decide +kernel)
set_option maxRecDepth 20000 in
theorem gX7_cones_X7_parts : GoodIn wsX7_cones (wsV RX7 151 RX7 yX7_parts wsX7_parts) := goodIn_app (goodIn_of _ (by decide +kernel)) ggX7_cones_X7_parts
set_option maxRecDepth 20000 in
theorem ggX7_cones_X7_round : GoodIn wsX7_cones wsX7_round := goodIn_r _ [11, 12, 13, 14, 15, 16, 5, 17, 1, 18, 19, 20, 21, 30, 31, 32, 33, 34, 35, 36, 37, 38, 39, 40, 41, 42, 43, 44, 45, 46, 47, 48, 49] (by decide +kernel) (by decide +kernel)
set_option maxRecDepth 20000 in
theorem gX7_cones_X7_round : GoodIn wsX7_cones (wsV RX7 148 RX7 yX7_round wsX7_round) := goodIn_app (goodIn_of _ (by decide +kernel)) ggX7_cones_X7_round
set_option maxRecDepth 20000 in
theorem ggX7_cones_X7_joins : GoodIn wsX7_cones wsX7_joins := goodIn_r _ [25, 7, 1, 30, 31, 32, 33, 34, 35, 36, 37, 38, 39, 40, 41, 42, 43, 44, 45, 46, 47, 48, 49] (by decide +kernel) (by decide +kernel)
set_option maxRecDepth 20000 in
theorem gX7_cones_X7_joins : GoodIn wsX7_cones (wsV RX7 154 RX7 yX7_joins wsX7_joins) := goodIn_app (goodIn_of _ (by decide +kernel)) ggX7_cones_X7_joins
set_option maxRecDepth 20000 in
theorem ggX7_cones_X7_manyParts : GoodIn wsX7_cones wsX7_manyParts := goodIn_r _ [29, 1, 7, 30, 31, 32, 33, 34, 35, 36, 37, 38, 39, 40, 41, 42, 43, 44, 45, 46, 47, 48, 49] (by decide +kernel) (by decide +kernel)
set_option maxRecDepth 20000 in
theorem gX7_cones_X7_manyParts : GoodIn wsX7_cones (wsV RX7 167 RX7 yX7_manyParts wsX7_manyParts) := goodIn_app (goodIn_of _ (by decide +kernel)) ggX7_cones_X7_manyParts
theorem dX7_cones_0 : decode cX7_cones 0 = .ok (.aload_n 0, 1) := by decide +kernel
theorem dX7_cones_1 : decode cX7_cones 1 = .ok (.invokevirtual 151, 3) := by decide +kernel
theorem dX7_cones_4 : decode cX7_cones 4 = .ok (.iconst 0, 1) := by decide +kernel
theorem dX7_cones_5 : decode cX7_cones 5 = .ok (.istore_n 1, 1) := by decide +kernel
theorem dX7_cones_6 : decode cX7_cones 6 = .ok (.iload_n 1, 1) := by decide +kernel
theorem dX7_cones_7 : decode cX7_cones 7 = .ok (.aload_n 0, 1) := by decide +kernel
theorem dX7_cones_8 : decode cX7_cones 8 = .ok (.getfield 23, 3) := by decide +kernel
theorem dX7_cones_11 : decode cX7_cones 11 = .ok (.if_icmp .ge 19, 3) := by decide +kernel
theorem dX7_cones_14 : decode cX7_cones 14 = .ok (.aload_n 0, 1) := by decide +kernel
theorem dX7_cones_15 : decode cX7_cones 15 = .ok (.iload_n 1, 1) := by decide +kernel
theorem dX7_cones_16 : decode cX7_cones 16 = .ok (.aload_n 0, 1) := by decide +kernel
theorem dX7_cones_17 : decode cX7_cones 17 = .ok (.iload_n 1, 1) := by decide +kernel
theorem dX7_cones_18 : decode cX7_cones 18 = .ok (.invokevirtual 148, 3) := by decide +kernel
theorem dX7_cones_21 : decode cX7_cones 21 = .ok (.invokevirtual 154, 3) := by decide +kernel
theorem dX7_cones_24 : decode cX7_cones 24 = .ok (.iinc 1 1, 3) := by decide +kernel
theorem dX7_cones_27 : decode cX7_cones 27 = .ok (.goto (-21), 3) := by decide +kernel
theorem dX7_cones_30 : decode cX7_cones 30 = .ok (.aload_n 0, 1) := by decide +kernel
theorem dX7_cones_31 : decode cX7_cones 31 = .ok (.invokevirtual 167, 3) := by decide +kernel
theorem dX7_cones_34 : decode cX7_cones 34 = .ok (.ireturn, 1) := by decide +kernel
set_option maxRecDepth 20000 in
theorem ggX7_pieces_X7_findsPieces : GoodIn wsX7_pieces wsX7_findsPieces := goodIn_r _ [5, 6, 7, 8, 9, 10, 11, 4, 12, 13, 14, 15, 16, 17, 22, 23, 24, 25, 26, 27, 28, 29, 30, 31, 32, 33, 34, 35, 36, 37, 38, 39, 40, 41] (by decide +kernel) (by decide +kernel)
set_option maxRecDepth 20000 in
theorem gX7_pieces_X7_findsPieces : GoodIn wsX7_pieces (wsV RX7 170 RX7 yX7_findsPieces wsX7_findsPieces) := goodIn_app (goodIn_of _ (by decide +kernel)) ggX7_pieces_X7_findsPieces
set_option maxRecDepth 20000 in
theorem ggX7_pieces_X7_manyParts : GoodIn wsX7_pieces wsX7_manyParts := goodIn_r _ [21, 6, 13, 22, 23, 24, 25, 26, 27, 28, 29, 30, 31, 32, 33, 34, 35, 36, 37, 38, 39, 40, 41] (by decide +kernel) (by decide +kernel)
set_option maxRecDepth 20000 in
theorem gX7_pieces_X7_manyParts : GoodIn wsX7_pieces (wsV RX7 167 RX7 yX7_manyParts wsX7_manyParts) := goodIn_app (goodIn_of _ (by decide +kernel)) ggX7_pieces_X7_manyParts
theorem dX7_pieces_0 : decode cX7_pieces 0 = .ok (.aload_n 0, 1) := by decide +kernel
theorem dX7_pieces_1 : decode cX7_pieces 1 = .ok (.invokevirtual 170, 3) := by decide +kernel
theorem dX7_pieces_4 : decode cX7_pieces 4 = .ok (.aload_n 0, 1) := by decide +kernel
theorem dX7_pieces_5 : decode cX7_pieces 5 = .ok (.invokevirtual 167, 3) := by decide +kernel
theorem dX7_pieces_8 : decode cX7_pieces 8 = .ok (.ireturn, 1) := by decide +kernel
theorem dX7_shears_0 : decode cX7_shears 0 = .ok (.iconst 0, 1) := by decide +kernel
theorem dX7_shears_1 : decode cX7_shears 1 = .ok (.istore_n 1, 1) := by decide +kernel
theorem dX7_shears_2 : decode cX7_shears 2 = .ok (.iload_n 1, 1) := by decide +kernel
theorem dX7_shears_3 : decode cX7_shears 3 = .ok (.aload_n 0, 1) := by decide +kernel
theorem dX7_shears_4 : decode cX7_shears 4 = .ok (.getfield 23, 3) := by decide +kernel
theorem dX7_shears_7 : decode cX7_shears 7 = .ok (.if_icmp .ge 26, 3) := by decide +kernel
theorem dX7_shears_10 : decode cX7_shears 10 = .ok (.aload_n 0, 1) := by decide +kernel
theorem dX7_shears_11 : decode cX7_shears 11 = .ok (.getfield 42, 3) := by decide +kernel
theorem dX7_shears_14 : decode cX7_shears 14 = .ok (.iload_n 1, 1) := by decide +kernel
theorem dX7_shears_15 : decode cX7_shears 15 = .ok (.aload_n 0, 1) := by decide +kernel
theorem dX7_shears_16 : decode cX7_shears 16 = .ok (.getfield 30, 3) := by decide +kernel
theorem dX7_shears_19 : decode cX7_shears 19 = .ok (.aload_n 0, 1) := by decide +kernel
theorem dX7_shears_20 : decode cX7_shears 20 = .ok (.getfield 27, 3) := by decide +kernel
theorem dX7_shears_23 : decode cX7_shears 23 = .ok (.iload_n 1, 1) := by decide +kernel
theorem dX7_shears_24 : decode cX7_shears 24 = .ok (.iaload, 1) := by decide +kernel
theorem dX7_shears_25 : decode cX7_shears 25 = .ok (.iaload, 1) := by decide +kernel
theorem dX7_shears_26 : decode cX7_shears 26 = .ok (.iastore, 1) := by decide +kernel
theorem dX7_shears_27 : decode cX7_shears 27 = .ok (.iinc 1 1, 3) := by decide +kernel
theorem dX7_shears_30 : decode cX7_shears 30 = .ok (.goto (-28), 3) := by decide +kernel
theorem dX7_shears_33 : decode cX7_shears 33 = .ok (.iconst 0, 1) := by decide +kernel
theorem dX7_shears_34 : decode cX7_shears 34 = .ok (.istore_n 1, 1) := by decide +kernel
theorem dX7_shears_35 : decode cX7_shears 35 = .ok (.iload_n 1, 1) := by decide +kernel
theorem dX7_shears_36 : decode cX7_shears 36 = .ok (.aload_n 0, 1) := by decide +kernel
theorem dX7_shears_37 : decode cX7_shears 37 = .ok (.getfield 23, 3) := by decide +kernel
theorem dX7_shears_40 : decode cX7_shears 40 = .ok (.if_icmp .ge 21, 3) := by decide +kernel
theorem dX7_shears_43 : decode cX7_shears 43 = .ok (.aload_n 0, 1) := by decide +kernel
theorem dX7_shears_44 : decode cX7_shears 44 = .ok (.getfield 30, 3) := by decide +kernel
theorem dX7_shears_47 : decode cX7_shears 47 = .ok (.iload_n 1, 1) := by decide +kernel
theorem dX7_shears_48 : decode cX7_shears 48 = .ok (.aload_n 0, 1) := by decide +kernel
theorem dX7_shears_49 : decode cX7_shears 49 = .ok (.getfield 42, 3) := by decide +kernel
theorem dX7_shears_52 : decode cX7_shears 52 = .ok (.iload_n 1, 1) := by decide +kernel
theorem dX7_shears_53 : decode cX7_shears 53 = .ok (.iaload, 1) := by decide +kernel
theorem dX7_shears_54 : decode cX7_shears 54 = .ok (.iastore, 1) := by decide +kernel
theorem dX7_shears_55 : decode cX7_shears 55 = .ok (.iinc 1 1, 3) := by decide +kernel
theorem dX7_shears_58 : decode cX7_shears 58 = .ok (.goto (-23), 3) := by decide +kernel
theorem dX7_shears_61 : decode cX7_shears 61 = .ok (.return_, 1) := by decide +kernel
set_option maxRecDepth 20000 in
theorem ggX7_turns_X7_leftOf : GoodIn wsX7_turns wsX7_leftOf := goodIn_r _ [9, 1, 3, 10, 11, 12, 13, 14, 15, 16, 17, 18, 19, 20, 21, 22, 23, 24, 25, 26, 27, 28, 29] (by decide +kernel) (by decide +kernel)
set_option maxRecDepth 20000 in
theorem gX7_turns_X7_leftOf : GoodIn wsX7_turns (wsV RX7 142 RX7 yX7_leftOf wsX7_leftOf) := goodIn_app (goodIn_of _ (by decide +kernel)) ggX7_turns_X7_leftOf
theorem dX7_turns_0 : decode cX7_turns 0 = .ok (.iconst 0, 1) := by decide +kernel
theorem dX7_turns_1 : decode cX7_turns 1 = .ok (.istore_n 1, 1) := by decide +kernel
theorem dX7_turns_2 : decode cX7_turns 2 = .ok (.iload_n 1, 1) := by decide +kernel
theorem dX7_turns_3 : decode cX7_turns 3 = .ok (.aload_n 0, 1) := by decide +kernel
theorem dX7_turns_4 : decode cX7_turns 4 = .ok (.getfield 23, 3) := by decide +kernel
theorem dX7_turns_7 : decode cX7_turns 7 = .ok (.if_icmp .ge 20, 3) := by decide +kernel
theorem dX7_turns_10 : decode cX7_turns 10 = .ok (.aload_n 0, 1) := by decide +kernel
theorem dX7_turns_11 : decode cX7_turns 11 = .ok (.getfield 42, 3) := by decide +kernel
theorem dX7_turns_14 : decode cX7_turns 14 = .ok (.iload_n 1, 1) := by decide +kernel
theorem dX7_turns_15 : decode cX7_turns 15 = .ok (.aload_n 0, 1) := by decide +kernel
theorem dX7_turns_16 : decode cX7_turns 16 = .ok (.iload_n 1, 1) := by decide +kernel
theorem dX7_turns_17 : decode cX7_turns 17 = .ok (.invokevirtual 142, 3) := by decide +kernel
theorem dX7_turns_20 : decode cX7_turns 20 = .ok (.iastore, 1) := by decide +kernel
theorem dX7_turns_21 : decode cX7_turns 21 = .ok (.iinc 1 1, 3) := by decide +kernel
theorem dX7_turns_24 : decode cX7_turns 24 = .ok (.goto (-22), 3) := by decide +kernel
theorem dX7_turns_27 : decode cX7_turns 27 = .ok (.iconst 0, 1) := by decide +kernel
theorem dX7_turns_28 : decode cX7_turns 28 = .ok (.istore_n 1, 1) := by decide +kernel
theorem dX7_turns_29 : decode cX7_turns 29 = .ok (.iload_n 1, 1) := by decide +kernel
theorem dX7_turns_30 : decode cX7_turns 30 = .ok (.aload_n 0, 1) := by decide +kernel
theorem dX7_turns_31 : decode cX7_turns 31 = .ok (.getfield 23, 3) := by decide +kernel
theorem dX7_turns_34 : decode cX7_turns 34 = .ok (.if_icmp .ge 21, 3) := by decide +kernel
theorem dX7_turns_37 : decode cX7_turns 37 = .ok (.aload_n 0, 1) := by decide +kernel
theorem dX7_turns_38 : decode cX7_turns 38 = .ok (.getfield 27, 3) := by decide +kernel
theorem dX7_turns_41 : decode cX7_turns 41 = .ok (.iload_n 1, 1) := by decide +kernel
theorem dX7_turns_42 : decode cX7_turns 42 = .ok (.aload_n 0, 1) := by decide +kernel
theorem dX7_turns_43 : decode cX7_turns 43 = .ok (.getfield 30, 3) := by decide +kernel
theorem dX7_turns_46 : decode cX7_turns 46 = .ok (.iload_n 1, 1) := by decide +kernel
theorem dX7_turns_47 : decode cX7_turns 47 = .ok (.iaload, 1) := by decide +kernel
theorem dX7_turns_48 : decode cX7_turns 48 = .ok (.iastore, 1) := by decide +kernel
theorem dX7_turns_49 : decode cX7_turns 49 = .ok (.iinc 1 1, 3) := by decide +kernel
theorem dX7_turns_52 : decode cX7_turns 52 = .ok (.goto (-23), 3) := by decide +kernel
theorem dX7_turns_55 : decode cX7_turns 55 = .ok (.iconst 0, 1) := by decide +kernel
theorem dX7_turns_56 : decode cX7_turns 56 = .ok (.istore_n 1, 1) := by decide +kernel
theorem dX7_turns_57 : decode cX7_turns 57 = .ok (.iload_n 1, 1) := by decide +kernel
theorem dX7_turns_58 : decode cX7_turns 58 = .ok (.aload_n 0, 1) := by decide +kernel
theorem dX7_turns_59 : decode cX7_turns 59 = .ok (.getfield 23, 3) := by decide +kernel
theorem dX7_turns_62 : decode cX7_turns 62 = .ok (.if_icmp .ge 21, 3) := by decide +kernel
theorem dX7_turns_65 : decode cX7_turns 65 = .ok (.aload_n 0, 1) := by decide +kernel
theorem dX7_turns_66 : decode cX7_turns 66 = .ok (.getfield 30, 3) := by decide +kernel
theorem dX7_turns_69 : decode cX7_turns 69 = .ok (.iload_n 1, 1) := by decide +kernel
theorem dX7_turns_70 : decode cX7_turns 70 = .ok (.aload_n 0, 1) := by decide +kernel
theorem dX7_turns_71 : decode cX7_turns 71 = .ok (.getfield 42, 3) := by decide +kernel
theorem dX7_turns_74 : decode cX7_turns 74 = .ok (.iload_n 1, 1) := by decide +kernel
theorem dX7_turns_75 : decode cX7_turns 75 = .ok (.iaload, 1) := by decide +kernel
theorem dX7_turns_76 : decode cX7_turns 76 = .ok (.iastore, 1) := by decide +kernel
theorem dX7_turns_77 : decode cX7_turns 77 = .ok (.iinc 1 1, 3) := by decide +kernel
theorem dX7_turns_80 : decode cX7_turns 80 = .ok (.goto (-23), 3) := by decide +kernel
theorem dX7_turns_83 : decode cX7_turns 83 = .ok (.return_, 1) := by decide +kernel
set_option maxRecDepth 20000 in
theorem ggX7_shear_X7_shears : GoodIn wsX7_shear wsX7_shears := goodIn_r _ [6, 7, 8, 9, 10, 28, 29, 30, 31, 32, 33, 34, 35, 36, 37, 38, 39, 40, 41, 42, 43, 44, 45, 46, 47] (by decide +kernel) (by decide +kernel)
set_option maxRecDepth 20000 in
theorem gX7_shear_X7_shears : GoodIn wsX7_shear (wsV RX7 173 RX7 yX7_shears wsX7_shears) := goodIn_app (goodIn_of _ (by decide +kernel)) ggX7_shear_X7_shears
set_option maxRecDepth 20000 in
theorem ggX7_shear_X7_codeNow : GoodIn wsX7_shear wsX7_codeNow := goodIn_r _ [14, 7, 15, 16, 17, 18, 5, 19, 20, 21, 22, 23, 24, 10, 9, 25, 26, 27, 28, 29, 30, 31, 32, 33, 34, 35, 36, 37, 38, 39, 40, 41, 42, 43, 44, 45, 46, 47] (by decide +kernel) (by decide +kernel)
set_option maxRecDepth 20000 in
theorem gX7_shear_X7_codeNow : GoodIn wsX7_shear (wsV RX7 176 RX7 yX7_codeNow wsX7_codeNow) := goodIn_app (goodIn_of _ (by decide +kernel)) ggX7_shear_X7_codeNow
theorem dX7_shear_0 : decode cX7_shear 0 = .ok (.aload_n 0, 1) := by decide +kernel
theorem dX7_shear_1 : decode cX7_shear 1 = .ok (.iconst 0, 1) := by decide +kernel
theorem dX7_shear_2 : decode cX7_shear 2 = .ok (.putfield 60, 3) := by decide +kernel
theorem dX7_shear_5 : decode cX7_shear 5 = .ok (.aload_n 0, 1) := by decide +kernel
theorem dX7_shear_6 : decode cX7_shear 6 = .ok (.invokevirtual 173, 3) := by decide +kernel
theorem dX7_shear_9 : decode cX7_shear 9 = .ok (.aload_n 0, 1) := by decide +kernel
theorem dX7_shear_10 : decode cX7_shear 10 = .ok (.invokevirtual 176, 3) := by decide +kernel
theorem dX7_shear_13 : decode cX7_shear 13 = .ok (.ireturn, 1) := by decide +kernel
set_option maxRecDepth 20000 in
theorem ggX7_turn_X7_turns : GoodIn wsX7_turn wsX7_turns := goodIn_r _ [6, 7, 8, 9, 10, 11, 12, 13, 5, 14, 32, 33, 34, 35, 36, 37, 38, 39, 40, 41, 42, 43, 44, 45, 46, 47, 48, 49, 50, 51] (by decide +kernel) (by decide +kernel)
set_option maxRecDepth 20000 in
theorem gX7_turn_X7_turns : GoodIn wsX7_turn (wsV RX7 179 RX7 yX7_turns wsX7_turns) := goodIn_app (goodIn_of _ (by decide +kernel)) ggX7_turn_X7_turns
set_option maxRecDepth 20000 in
theorem ggX7_turn_X7_codeNow : GoodIn wsX7_turn wsX7_codeNow := goodIn_r _ [18, 7, 19, 20, 21, 22, 5, 23, 24, 25, 26, 27, 28, 9, 10, 29, 30, 31, 32, 33, 34, 35, 36, 37, 38, 39, 40, 41, 42, 43, 44, 45, 46, 47, 48, 49, 50, 51] (by decide +kernel) (by decide +kernel)
set_option maxRecDepth 20000 in
theorem gX7_turn_X7_codeNow : GoodIn wsX7_turn (wsV RX7 176 RX7 yX7_codeNow wsX7_codeNow) := goodIn_app (goodIn_of _ (by decide +kernel)) ggX7_turn_X7_codeNow
theorem dX7_turn_0 : decode cX7_turn 0 = .ok (.aload_n 0, 1) := by decide +kernel
theorem dX7_turn_1 : decode cX7_turn 1 = .ok (.iconst 0, 1) := by decide +kernel
theorem dX7_turn_2 : decode cX7_turn 2 = .ok (.putfield 60, 3) := by decide +kernel
theorem dX7_turn_5 : decode cX7_turn 5 = .ok (.aload_n 0, 1) := by decide +kernel
theorem dX7_turn_6 : decode cX7_turn 6 = .ok (.invokevirtual 179, 3) := by decide +kernel
theorem dX7_turn_9 : decode cX7_turn 9 = .ok (.aload_n 0, 1) := by decide +kernel
theorem dX7_turn_10 : decode cX7_turn 10 = .ok (.invokevirtual 176, 3) := by decide +kernel
theorem dX7_turn_13 : decode cX7_turn 13 = .ok (.ireturn, 1) := by decide +kernel
theorem dX7_names_0 : decode cX7_names 0 = .ok (.iload_n 1, 1) := by decide +kernel
theorem dX7_names_1 : decode cX7_names 1 = .ok (.istore_n 2, 1) := by decide +kernel
theorem dX7_names_2 : decode cX7_names 2 = .ok (.iconst 1, 1) := by decide +kernel
theorem dX7_names_3 : decode cX7_names 3 = .ok (.istore_n 3, 1) := by decide +kernel
theorem dX7_names_4 : decode cX7_names 4 = .ok (.iconst 0, 1) := by decide +kernel
theorem dX7_names_5 : decode cX7_names 5 = .ok (.istore 4, 2) := by decide +kernel
theorem dX7_names_7 : decode cX7_names 7 = .ok (.iload 4, 2) := by decide +kernel
theorem dX7_names_9 : decode cX7_names 9 = .ok (.aload_n 0, 1) := by decide +kernel
theorem dX7_names_10 : decode cX7_names 10 = .ok (.getfield 23, 3) := by decide +kernel
theorem dX7_names_13 : decode cX7_names 13 = .ok (.if_icmp .ge 72, 3) := by decide +kernel
theorem dX7_names_16 : decode cX7_names 16 = .ok (.aload_n 0, 1) := by decide +kernel
theorem dX7_names_17 : decode cX7_names 17 = .ok (.getfield 39, 3) := by decide +kernel
theorem dX7_names_20 : decode cX7_names 20 = .ok (.iload 4, 2) := by decide +kernel
theorem dX7_names_22 : decode cX7_names 22 = .ok (.iload_n 2, 1) := by decide +kernel
theorem dX7_names_23 : decode cX7_names 23 = .ok (.aload_n 0, 1) := by decide +kernel
theorem dX7_names_24 : decode cX7_names 24 = .ok (.getfield 23, 3) := by decide +kernel
theorem dX7_names_27 : decode cX7_names 27 = .ok (.irem, 1) := by decide +kernel
theorem dX7_names_28 : decode cX7_names 28 = .ok (.iastore, 1) := by decide +kernel
theorem dX7_names_29 : decode cX7_names 29 = .ok (.iload_n 2, 1) := by decide +kernel
theorem dX7_names_30 : decode cX7_names 30 = .ok (.aload_n 0, 1) := by decide +kernel
theorem dX7_names_31 : decode cX7_names 31 = .ok (.getfield 23, 3) := by decide +kernel
theorem dX7_names_34 : decode cX7_names 34 = .ok (.idiv, 1) := by decide +kernel
theorem dX7_names_35 : decode cX7_names 35 = .ok (.istore_n 2, 1) := by decide +kernel
theorem dX7_names_36 : decode cX7_names 36 = .ok (.iconst 0, 1) := by decide +kernel
theorem dX7_names_37 : decode cX7_names 37 = .ok (.istore 5, 2) := by decide +kernel
theorem dX7_names_39 : decode cX7_names 39 = .ok (.iload 5, 2) := by decide +kernel
theorem dX7_names_41 : decode cX7_names 41 = .ok (.iload 4, 2) := by decide +kernel
theorem dX7_names_43 : decode cX7_names 43 = .ok (.if_icmp .ge 36, 3) := by decide +kernel
theorem dX7_names_46 : decode cX7_names 46 = .ok (.iload_n 3, 1) := by decide +kernel
theorem dX7_names_47 : decode cX7_names 47 = .ok (.ifCond .eq 24, 3) := by decide +kernel
theorem dX7_names_50 : decode cX7_names 50 = .ok (.aload_n 0, 1) := by decide +kernel
theorem dX7_names_51 : decode cX7_names 51 = .ok (.getfield 39, 3) := by decide +kernel
theorem dX7_names_54 : decode cX7_names 54 = .ok (.iload 5, 2) := by decide +kernel
theorem dX7_names_56 : decode cX7_names 56 = .ok (.iaload, 1) := by decide +kernel
theorem dX7_names_57 : decode cX7_names 57 = .ok (.aload_n 0, 1) := by decide +kernel
theorem dX7_names_58 : decode cX7_names 58 = .ok (.getfield 39, 3) := by decide +kernel
theorem dX7_names_61 : decode cX7_names 61 = .ok (.iload 4, 2) := by decide +kernel
theorem dX7_names_63 : decode cX7_names 63 = .ok (.iaload, 1) := by decide +kernel
theorem dX7_names_64 : decode cX7_names 64 = .ok (.if_icmp .eq 7, 3) := by decide +kernel
theorem dX7_names_67 : decode cX7_names 67 = .ok (.iconst 1, 1) := by decide +kernel
theorem dX7_names_68 : decode cX7_names 68 = .ok (.goto 4, 3) := by decide +kernel
theorem dX7_names_71 : decode cX7_names 71 = .ok (.iconst 0, 1) := by decide +kernel
theorem dX7_names_72 : decode cX7_names 72 = .ok (.istore_n 3, 1) := by decide +kernel
theorem dX7_names_73 : decode cX7_names 73 = .ok (.iinc 5 1, 3) := by decide +kernel
theorem dX7_names_76 : decode cX7_names 76 = .ok (.goto (-37), 3) := by decide +kernel
theorem dX7_names_79 : decode cX7_names 79 = .ok (.iinc 4 1, 3) := by decide +kernel
theorem dX7_names_82 : decode cX7_names 82 = .ok (.goto (-75), 3) := by decide +kernel
theorem dX7_names_85 : decode cX7_names 85 = .ok (.iload_n 3, 1) := by decide +kernel
theorem dX7_names_86 : decode cX7_names 86 = .ok (.ireturn, 1) := by decide +kernel
theorem dX7_number_0 : decode cX7_number 0 = .ok (.iconst 0, 1) := by decide +kernel
theorem dX7_number_1 : decode cX7_number 1 = .ok (.istore_n 1, 1) := by decide +kernel
theorem dX7_number_2 : decode cX7_number 2 = .ok (.iconst 0, 1) := by decide +kernel
theorem dX7_number_3 : decode cX7_number 3 = .ok (.istore_n 2, 1) := by decide +kernel
theorem dX7_number_4 : decode cX7_number 4 = .ok (.iload_n 2, 1) := by decide +kernel
theorem dX7_number_5 : decode cX7_number 5 = .ok (.aload_n 0, 1) := by decide +kernel
theorem dX7_number_6 : decode cX7_number 6 = .ok (.getfield 23, 3) := by decide +kernel
theorem dX7_number_9 : decode cX7_number 9 = .ok (.if_icmp .ge 58, 3) := by decide +kernel
theorem dX7_number_12 : decode cX7_number 12 = .ok (.iconst 0, 1) := by decide +kernel
theorem dX7_number_13 : decode cX7_number 13 = .ok (.istore_n 3, 1) := by decide +kernel
theorem dX7_number_14 : decode cX7_number 14 = .ok (.aload_n 0, 1) := by decide +kernel
theorem dX7_number_15 : decode cX7_number 15 = .ok (.getfield 39, 3) := by decide +kernel
theorem dX7_number_18 : decode cX7_number 18 = .ok (.iload_n 3, 1) := by decide +kernel
theorem dX7_number_19 : decode cX7_number 19 = .ok (.iaload, 1) := by decide +kernel
theorem dX7_number_20 : decode cX7_number 20 = .ok (.iload_n 2, 1) := by decide +kernel
theorem dX7_number_21 : decode cX7_number 21 = .ok (.if_icmp .eq 9, 3) := by decide +kernel
theorem dX7_number_24 : decode cX7_number 24 = .ok (.iinc 3 1, 3) := by decide +kernel
theorem dX7_number_27 : decode cX7_number 27 = .ok (.goto (-13), 3) := by decide +kernel
theorem dX7_number_30 : decode cX7_number 30 = .ok (.bipush 25, 2) := by decide +kernel
theorem dX7_number_32 : decode cX7_number 32 = .ok (.iload_n 1, 1) := by decide +kernel
theorem dX7_number_33 : decode cX7_number 33 = .ok (.imul, 1) := by decide +kernel
theorem dX7_number_34 : decode cX7_number 34 = .ok (.iconst 5, 1) := by decide +kernel
theorem dX7_number_35 : decode cX7_number 35 = .ok (.aload_n 0, 1) := by decide +kernel
theorem dX7_number_36 : decode cX7_number 36 = .ok (.getfield 39, 3) := by decide +kernel
theorem dX7_number_39 : decode cX7_number 39 = .ok (.aload_n 0, 1) := by decide +kernel
theorem dX7_number_40 : decode cX7_number 40 = .ok (.getfield 27, 3) := by decide +kernel
theorem dX7_number_43 : decode cX7_number 43 = .ok (.iload_n 3, 1) := by decide +kernel
theorem dX7_number_44 : decode cX7_number 44 = .ok (.iaload, 1) := by decide +kernel
theorem dX7_number_45 : decode cX7_number 45 = .ok (.iaload, 1) := by decide +kernel
theorem dX7_number_46 : decode cX7_number 46 = .ok (.imul, 1) := by decide +kernel
theorem dX7_number_47 : decode cX7_number 47 = .ok (.iadd, 1) := by decide +kernel
theorem dX7_number_48 : decode cX7_number 48 = .ok (.aload_n 0, 1) := by decide +kernel
theorem dX7_number_49 : decode cX7_number 49 = .ok (.getfield 39, 3) := by decide +kernel
theorem dX7_number_52 : decode cX7_number 52 = .ok (.aload_n 0, 1) := by decide +kernel
theorem dX7_number_53 : decode cX7_number 53 = .ok (.getfield 30, 3) := by decide +kernel
theorem dX7_number_56 : decode cX7_number 56 = .ok (.iload_n 3, 1) := by decide +kernel
theorem dX7_number_57 : decode cX7_number 57 = .ok (.iaload, 1) := by decide +kernel
theorem dX7_number_58 : decode cX7_number 58 = .ok (.iaload, 1) := by decide +kernel
theorem dX7_number_59 : decode cX7_number 59 = .ok (.iadd, 1) := by decide +kernel
theorem dX7_number_60 : decode cX7_number 60 = .ok (.istore_n 1, 1) := by decide +kernel
theorem dX7_number_61 : decode cX7_number 61 = .ok (.iinc 2 1, 3) := by decide +kernel
theorem dX7_number_64 : decode cX7_number 64 = .ok (.goto (-60), 3) := by decide +kernel
theorem dX7_number_67 : decode cX7_number 67 = .ok (.iload_n 1, 1) := by decide +kernel
theorem dX7_number_68 : decode cX7_number 68 = .ok (.ireturn, 1) := by decide +kernel
set_option maxRecDepth 20000 in
theorem ggX7_codeNow_X7_names : GoodIn wsX7_codeNow wsX7_names := goodIn_r _ [7, 1, 8, 18, 19, 20, 21, 22, 23, 24, 25, 26, 27, 28, 29, 30, 31, 32, 33, 34, 35, 36, 37] (by decide +kernel) (by decide +kernel)
set_option maxRecDepth 20000 in
theorem gX7_codeNow_X7_names : GoodIn wsX7_codeNow (wsV RX7 185 RX7 yX7_names wsX7_names) := goodIn_app (goodIn_of _ (by decide +kernel)) ggX7_codeNow_X7_names
set_option maxRecDepth 20000 in
theorem ggX7_codeNow_X7_number : GoodIn wsX7_codeNow wsX7_number := goodIn_r _ [12, 1, 8, 13, 14, 18, 19, 20, 21, 22, 23, 24, 25, 26, 27, 28, 29, 30, 31, 32, 33, 34, 35, 36, 37] (by decide +kernel) (by decide +kernel)
set_option maxRecDepth 20000 in
theorem gX7_codeNow_X7_number : GoodIn wsX7_codeNow (wsV RX7 188 RX7 yX7_number wsX7_number) := goodIn_app (goodIn_of _ (by decide +kernel)) ggX7_codeNow_X7_number
set_option maxRecDepth 20000 in
theorem ggX7_codeNow_X7_least : GoodIn wsX7_codeNow wsX7_least := goodIn_r _ [17] (by decide +kernel) (by decide +kernel)
set_option maxRecDepth 20000 in
theorem gX7_codeNow_X7_least : GoodIn wsX7_codeNow (va_wsS RX7 113 yX7_least wsX7_least) := goodIn_app (goodIn_of _ (by decide +kernel)) ggX7_codeNow_X7_least
theorem dX7_codeNow_0 : decode cX7_codeNow 0 = .ok (.iconst 1, 1) := by decide +kernel
theorem dX7_codeNow_1 : decode cX7_codeNow 1 = .ok (.istore_n 1, 1) := by decide +kernel
theorem dX7_codeNow_2 : decode cX7_codeNow 2 = .ok (.iconst 0, 1) := by decide +kernel
theorem dX7_codeNow_3 : decode cX7_codeNow 3 = .ok (.istore_n 2, 1) := by decide +kernel
theorem dX7_codeNow_4 : decode cX7_codeNow 4 = .ok (.iload_n 2, 1) := by decide +kernel
theorem dX7_codeNow_5 : decode cX7_codeNow 5 = .ok (.aload_n 0, 1) := by decide +kernel
theorem dX7_codeNow_6 : decode cX7_codeNow 6 = .ok (.getfield 23, 3) := by decide +kernel
theorem dX7_codeNow_9 : decode cX7_codeNow 9 = .ok (.if_icmp .ge 16, 3) := by decide +kernel
theorem dX7_codeNow_12 : decode cX7_codeNow 12 = .ok (.iload_n 1, 1) := by decide +kernel
theorem dX7_codeNow_13 : decode cX7_codeNow 13 = .ok (.aload_n 0, 1) := by decide +kernel
theorem dX7_codeNow_14 : decode cX7_codeNow 14 = .ok (.getfield 23, 3) := by decide +kernel
theorem dX7_codeNow_17 : decode cX7_codeNow 17 = .ok (.imul, 1) := by decide +kernel
theorem dX7_codeNow_18 : decode cX7_codeNow 18 = .ok (.istore_n 1, 1) := by decide +kernel
theorem dX7_codeNow_19 : decode cX7_codeNow 19 = .ok (.iinc 2 1, 3) := by decide +kernel
theorem dX7_codeNow_22 : decode cX7_codeNow 22 = .ok (.goto (-18), 3) := by decide +kernel
theorem dX7_codeNow_25 : decode cX7_codeNow 25 = .ok (.ldc 184, 2) := by decide +kernel
theorem dX7_codeNow_27 : decode cX7_codeNow 27 = .ok (.istore_n 2, 1) := by decide +kernel
theorem dX7_codeNow_28 : decode cX7_codeNow 28 = .ok (.iconst 0, 1) := by decide +kernel
theorem dX7_codeNow_29 : decode cX7_codeNow 29 = .ok (.istore_n 3, 1) := by decide +kernel
theorem dX7_codeNow_30 : decode cX7_codeNow 30 = .ok (.iload_n 3, 1) := by decide +kernel
theorem dX7_codeNow_31 : decode cX7_codeNow 31 = .ok (.iload_n 1, 1) := by decide +kernel
theorem dX7_codeNow_32 : decode cX7_codeNow 32 = .ok (.if_icmp .ge 30, 3) := by decide +kernel
theorem dX7_codeNow_35 : decode cX7_codeNow 35 = .ok (.aload_n 0, 1) := by decide +kernel
theorem dX7_codeNow_36 : decode cX7_codeNow 36 = .ok (.iload_n 3, 1) := by decide +kernel
theorem dX7_codeNow_37 : decode cX7_codeNow 37 = .ok (.invokevirtual 185, 3) := by decide +kernel
theorem dX7_codeNow_40 : decode cX7_codeNow 40 = .ok (.ifCond .eq 14, 3) := by decide +kernel
theorem dX7_codeNow_43 : decode cX7_codeNow 43 = .ok (.iload_n 2, 1) := by decide +kernel
theorem dX7_codeNow_44 : decode cX7_codeNow 44 = .ok (.aload_n 0, 1) := by decide +kernel
theorem dX7_codeNow_45 : decode cX7_codeNow 45 = .ok (.invokevirtual 188, 3) := by decide +kernel
theorem dX7_codeNow_48 : decode cX7_codeNow 48 = .ok (.invokestatic 113, 3) := by decide +kernel
theorem dX7_codeNow_51 : decode cX7_codeNow 51 = .ok (.goto 4, 3) := by decide +kernel
theorem dX7_codeNow_54 : decode cX7_codeNow 54 = .ok (.iload_n 2, 1) := by decide +kernel
theorem dX7_codeNow_55 : decode cX7_codeNow 55 = .ok (.istore_n 2, 1) := by decide +kernel
theorem dX7_codeNow_56 : decode cX7_codeNow 56 = .ok (.iinc 3 1, 3) := by decide +kernel
theorem dX7_codeNow_59 : decode cX7_codeNow 59 = .ok (.goto (-29), 3) := by decide +kernel
theorem dX7_codeNow_62 : decode cX7_codeNow 62 = .ok (.iload_n 2, 1) := by decide +kernel
theorem dX7_codeNow_63 : decode cX7_codeNow 63 = .ok (.ireturn, 1) := by decide +kernel
set_option maxRecDepth 20000 in
theorem ggX7_code_X7_codeNow : GoodIn wsX7_code wsX7_codeNow := goodIn_r _ [6, 7, 8, 9, 10, 11, 5, 12, 13, 14, 15, 16, 17, 18, 19, 20, 21, 22, 23, 24, 25, 26, 27, 28, 29, 30, 31, 32, 33, 34, 35, 36, 37, 38, 39, 40, 41, 42] (by decide +kernel) (by decide +kernel)
set_option maxRecDepth 20000 in
theorem gX7_code_X7_codeNow : GoodIn wsX7_code (wsV RX7 176 RX7 yX7_codeNow wsX7_codeNow) := goodIn_app (goodIn_of _ (by decide +kernel)) ggX7_code_X7_codeNow
theorem dX7_code_0 : decode cX7_code 0 = .ok (.aload_n 0, 1) := by decide +kernel
theorem dX7_code_1 : decode cX7_code 1 = .ok (.iconst 0, 1) := by decide +kernel
theorem dX7_code_2 : decode cX7_code 2 = .ok (.putfield 60, 3) := by decide +kernel
theorem dX7_code_5 : decode cX7_code 5 = .ok (.aload_n 0, 1) := by decide +kernel
theorem dX7_code_6 : decode cX7_code 6 = .ok (.invokevirtual 176, 3) := by decide +kernel
theorem dX7_code_9 : decode cX7_code 9 = .ok (.ireturn, 1) := by decide +kernel
theorem dX7_lays_0 : decode cX7_lays 0 = .ok (.iload_n 1, 1) := by decide +kernel
theorem dX7_lays_1 : decode cX7_lays 1 = .ok (.istore_n 2, 1) := by decide +kernel
theorem dX7_lays_2 : decode cX7_lays 2 = .ok (.aload_n 0, 1) := by decide +kernel
theorem dX7_lays_3 : decode cX7_lays 3 = .ok (.getfield 23, 3) := by decide +kernel
theorem dX7_lays_6 : decode cX7_lays 6 = .ok (.iconst 1, 1) := by decide +kernel
theorem dX7_lays_7 : decode cX7_lays 7 = .ok (.isub, 1) := by decide +kernel
theorem dX7_lays_8 : decode cX7_lays 8 = .ok (.istore_n 3, 1) := by decide +kernel
theorem dX7_lays_9 : decode cX7_lays 9 = .ok (.iload_n 3, 1) := by decide +kernel
theorem dX7_lays_10 : decode cX7_lays 10 = .ok (.ifCond .lt 34, 3) := by decide +kernel
theorem dX7_lays_13 : decode cX7_lays 13 = .ok (.aload_n 0, 1) := by decide +kernel
theorem dX7_lays_14 : decode cX7_lays 14 = .ok (.getfield 30, 3) := by decide +kernel
theorem dX7_lays_17 : decode cX7_lays 17 = .ok (.iload_n 3, 1) := by decide +kernel
theorem dX7_lays_18 : decode cX7_lays 18 = .ok (.iload_n 2, 1) := by decide +kernel
theorem dX7_lays_19 : decode cX7_lays 19 = .ok (.iconst 5, 1) := by decide +kernel
theorem dX7_lays_20 : decode cX7_lays 20 = .ok (.irem, 1) := by decide +kernel
theorem dX7_lays_21 : decode cX7_lays 21 = .ok (.iastore, 1) := by decide +kernel
theorem dX7_lays_22 : decode cX7_lays 22 = .ok (.aload_n 0, 1) := by decide +kernel
theorem dX7_lays_23 : decode cX7_lays 23 = .ok (.getfield 27, 3) := by decide +kernel
theorem dX7_lays_26 : decode cX7_lays 26 = .ok (.iload_n 3, 1) := by decide +kernel
theorem dX7_lays_27 : decode cX7_lays 27 = .ok (.iload_n 2, 1) := by decide +kernel
theorem dX7_lays_28 : decode cX7_lays 28 = .ok (.iconst 5, 1) := by decide +kernel
theorem dX7_lays_29 : decode cX7_lays 29 = .ok (.idiv, 1) := by decide +kernel
theorem dX7_lays_30 : decode cX7_lays 30 = .ok (.iconst 5, 1) := by decide +kernel
theorem dX7_lays_31 : decode cX7_lays 31 = .ok (.irem, 1) := by decide +kernel
theorem dX7_lays_32 : decode cX7_lays 32 = .ok (.iastore, 1) := by decide +kernel
theorem dX7_lays_33 : decode cX7_lays 33 = .ok (.iload_n 2, 1) := by decide +kernel
theorem dX7_lays_34 : decode cX7_lays 34 = .ok (.bipush 25, 2) := by decide +kernel
theorem dX7_lays_36 : decode cX7_lays 36 = .ok (.idiv, 1) := by decide +kernel
theorem dX7_lays_37 : decode cX7_lays 37 = .ok (.istore_n 2, 1) := by decide +kernel
theorem dX7_lays_38 : decode cX7_lays 38 = .ok (.iinc 3 (-1), 3) := by decide +kernel
theorem dX7_lays_41 : decode cX7_lays 41 = .ok (.goto (-32), 3) := by decide +kernel
theorem dX7_lays_44 : decode cX7_lays 44 = .ok (.return_, 1) := by decide +kernel
theorem dX7_withCode_0 : decode cX7_withCode 0 = .ok (.iconst 0, 1) := by decide +kernel
theorem dX7_withCode_1 : decode cX7_withCode 1 = .ok (.istore_n 3, 1) := by decide +kernel
theorem dX7_withCode_2 : decode cX7_withCode 2 = .ok (.iload_n 3, 1) := by decide +kernel
theorem dX7_withCode_3 : decode cX7_withCode 3 = .ok (.iload_n 1, 1) := by decide +kernel
theorem dX7_withCode_4 : decode cX7_withCode 4 = .ok (.if_icmp .ge 18, 3) := by decide +kernel
theorem dX7_withCode_7 : decode cX7_withCode 7 = .ok (.aload_n 0, 1) := by decide +kernel
theorem dX7_withCode_8 : decode cX7_withCode 8 = .ok (.iload_n 3, 1) := by decide +kernel
theorem dX7_withCode_9 : decode cX7_withCode 9 = .ok (.iaload, 1) := by decide +kernel
theorem dX7_withCode_10 : decode cX7_withCode 10 = .ok (.iload_n 2, 1) := by decide +kernel
theorem dX7_withCode_11 : decode cX7_withCode 11 = .ok (.if_icmp .ne 5, 3) := by decide +kernel
theorem dX7_withCode_14 : decode cX7_withCode 14 = .ok (.iload_n 1, 1) := by decide +kernel
theorem dX7_withCode_15 : decode cX7_withCode 15 = .ok (.ireturn, 1) := by decide +kernel
theorem dX7_withCode_16 : decode cX7_withCode 16 = .ok (.iinc 3 1, 3) := by decide +kernel
theorem dX7_withCode_19 : decode cX7_withCode 19 = .ok (.goto (-17), 3) := by decide +kernel
theorem dX7_withCode_22 : decode cX7_withCode 22 = .ok (.aload_n 0, 1) := by decide +kernel
theorem dX7_withCode_23 : decode cX7_withCode 23 = .ok (.iload_n 1, 1) := by decide +kernel
theorem dX7_withCode_24 : decode cX7_withCode 24 = .ok (.iload_n 2, 1) := by decide +kernel
theorem dX7_withCode_25 : decode cX7_withCode 25 = .ok (.iastore, 1) := by decide +kernel
theorem dX7_withCode_26 : decode cX7_withCode 26 = .ok (.iload_n 1, 1) := by decide +kernel
theorem dX7_withCode_27 : decode cX7_withCode 27 = .ok (.iconst 1, 1) := by decide +kernel
theorem dX7_withCode_28 : decode cX7_withCode 28 = .ok (.iadd, 1) := by decide +kernel
theorem dX7_withCode_29 : decode cX7_withCode 29 = .ok (.ireturn, 1) := by decide +kernel
set_option maxRecDepth 20000 in
theorem ggX7_kin_X7_codeNow : GoodIn wsX7_kin wsX7_codeNow := goodIn_r _ [12, 2, 13, 14, 15, 16, 11, 17, 18, 19, 20, 21, 22, 4, 6, 23, 24, 25, 46, 47, 48, 49, 50, 51, 52, 53, 54, 55, 56, 57, 58, 59, 60, 61, 62, 63, 64, 65] (by decide +kernel) (by decide +kernel)
set_option maxRecDepth 20000 in
theorem gX7_kin_X7_codeNow : GoodIn wsX7_kin (wsV RX7 176 RX7 yX7_codeNow wsX7_codeNow) := goodIn_app (goodIn_of _ (by decide +kernel)) ggX7_kin_X7_codeNow
set_option maxRecDepth 20000 in
theorem ggX7_kin_X7_withCode : GoodIn wsX7_kin wsX7_withCode := goodIn_r _ [28] (by decide +kernel) (by decide +kernel)
set_option maxRecDepth 20000 in
theorem gX7_kin_X7_withCode : GoodIn wsX7_kin (va_wsS RX7 191 yX7_withCode wsX7_withCode) := goodIn_app (goodIn_of _ (by decide +kernel)) ggX7_kin_X7_withCode
set_option maxRecDepth 20000 in
theorem ggX7_kin_X7_lays : GoodIn wsX7_kin wsX7_lays := goodIn_r _ [32, 2, 6, 4, 46, 47, 48, 49, 50, 51, 52, 53, 54, 55, 56, 57, 58, 59, 60, 61, 62, 63, 64, 65] (by decide +kernel) (by decide +kernel)
set_option maxRecDepth 20000 in
theorem gX7_kin_X7_lays : GoodIn wsX7_kin (wsV RX7 195 RX7 yX7_lays wsX7_lays) := goodIn_app (goodIn_of _ (by decide +kernel)) ggX7_kin_X7_lays
set_option maxRecDepth 20000 in
theorem ggX7_kin_X7_shears : GoodIn wsX7_kin wsX7_shears := goodIn_r _ [36, 2, 37, 6, 4, 46, 47, 48, 49, 50, 51, 52, 53, 54, 55, 56, 57, 58, 59, 60, 61, 62, 63, 64, 65] (by decide +kernel) (by decide +kernel)
set_option maxRecDepth 20000 in
theorem gX7_kin_X7_shears : GoodIn wsX7_kin (wsV RX7 173 RX7 yX7_shears wsX7_shears) := goodIn_app (goodIn_of _ (by decide +kernel)) ggX7_kin_X7_shears
set_option maxRecDepth 20000 in
theorem ggX7_kin_X7_turns : GoodIn wsX7_kin wsX7_turns := goodIn_r _ [41, 2, 37, 4, 6, 42, 43, 44, 11, 45, 46, 47, 48, 49, 50, 51, 52, 53, 54, 55, 56, 57, 58, 59, 60, 61, 62, 63, 64, 65] (by decide +kernel) (by decide +kernel)
set_option maxRecDepth 20000 in
theorem gX7_kin_X7_turns : GoodIn wsX7_kin (wsV RX7 179 RX7 yX7_turns wsX7_turns) := goodIn_app (goodIn_of _ (by decide +kernel)) ggX7_kin_X7_turns
theorem dX7_kin_0 : decode cX7_kin 0 = .ok (.aload_n 0, 1) := by decide +kernel
theorem dX7_kin_1 : decode cX7_kin 1 = .ok (.iconst 0, 1) := by decide +kernel
theorem dX7_kin_2 : decode cX7_kin 2 = .ok (.putfield 60, 3) := by decide +kernel
theorem dX7_kin_5 : decode cX7_kin 5 = .ok (.iconst 0, 1) := by decide +kernel
theorem dX7_kin_6 : decode cX7_kin 6 = .ok (.istore_n 1, 1) := by decide +kernel
theorem dX7_kin_7 : decode cX7_kin 7 = .ok (.iload_n 1, 1) := by decide +kernel
theorem dX7_kin_8 : decode cX7_kin 8 = .ok (.aload_n 0, 1) := by decide +kernel
theorem dX7_kin_9 : decode cX7_kin 9 = .ok (.getfield 23, 3) := by decide +kernel
theorem dX7_kin_12 : decode cX7_kin 12 = .ok (.if_icmp .ge 33, 3) := by decide +kernel
theorem dX7_kin_15 : decode cX7_kin 15 = .ok (.aload_n 0, 1) := by decide +kernel
theorem dX7_kin_16 : decode cX7_kin 16 = .ok (.getfield 33, 3) := by decide +kernel
theorem dX7_kin_19 : decode cX7_kin 19 = .ok (.iload_n 1, 1) := by decide +kernel
theorem dX7_kin_20 : decode cX7_kin 20 = .ok (.aload_n 0, 1) := by decide +kernel
theorem dX7_kin_21 : decode cX7_kin 21 = .ok (.getfield 27, 3) := by decide +kernel
theorem dX7_kin_24 : decode cX7_kin 24 = .ok (.iload_n 1, 1) := by decide +kernel
theorem dX7_kin_25 : decode cX7_kin 25 = .ok (.iaload, 1) := by decide +kernel
theorem dX7_kin_26 : decode cX7_kin 26 = .ok (.iastore, 1) := by decide +kernel
theorem dX7_kin_27 : decode cX7_kin 27 = .ok (.aload_n 0, 1) := by decide +kernel
theorem dX7_kin_28 : decode cX7_kin 28 = .ok (.getfield 36, 3) := by decide +kernel
theorem dX7_kin_31 : decode cX7_kin 31 = .ok (.iload_n 1, 1) := by decide +kernel
theorem dX7_kin_32 : decode cX7_kin 32 = .ok (.aload_n 0, 1) := by decide +kernel
theorem dX7_kin_33 : decode cX7_kin 33 = .ok (.getfield 30, 3) := by decide +kernel
theorem dX7_kin_36 : decode cX7_kin 36 = .ok (.iload_n 1, 1) := by decide +kernel
theorem dX7_kin_37 : decode cX7_kin 37 = .ok (.iaload, 1) := by decide +kernel
theorem dX7_kin_38 : decode cX7_kin 38 = .ok (.iastore, 1) := by decide +kernel
theorem dX7_kin_39 : decode cX7_kin 39 = .ok (.iinc 1 1, 3) := by decide +kernel
theorem dX7_kin_42 : decode cX7_kin 42 = .ok (.goto (-35), 3) := by decide +kernel
theorem dX7_kin_45 : decode cX7_kin 45 = .ok (.aload_n 0, 1) := by decide +kernel
theorem dX7_kin_46 : decode cX7_kin 46 = .ok (.getfield 45, 3) := by decide +kernel
theorem dX7_kin_49 : decode cX7_kin 49 = .ok (.iconst 0, 1) := by decide +kernel
theorem dX7_kin_50 : decode cX7_kin 50 = .ok (.aload_n 0, 1) := by decide +kernel
theorem dX7_kin_51 : decode cX7_kin 51 = .ok (.invokevirtual 176, 3) := by decide +kernel
theorem dX7_kin_54 : decode cX7_kin 54 = .ok (.invokestatic 191, 3) := by decide +kernel
theorem dX7_kin_57 : decode cX7_kin 57 = .ok (.istore_n 1, 1) := by decide +kernel
theorem dX7_kin_58 : decode cX7_kin 58 = .ok (.iconst 0, 1) := by decide +kernel
theorem dX7_kin_59 : decode cX7_kin 59 = .ok (.istore_n 2, 1) := by decide +kernel
theorem dX7_kin_60 : decode cX7_kin 60 = .ok (.iload_n 2, 1) := by decide +kernel
theorem dX7_kin_61 : decode cX7_kin 61 = .ok (.iload_n 1, 1) := by decide +kernel
theorem dX7_kin_62 : decode cX7_kin 62 = .ok (.if_icmp .ge 63, 3) := by decide +kernel
theorem dX7_kin_65 : decode cX7_kin 65 = .ok (.aload_n 0, 1) := by decide +kernel
theorem dX7_kin_66 : decode cX7_kin 66 = .ok (.aload_n 0, 1) := by decide +kernel
theorem dX7_kin_67 : decode cX7_kin 67 = .ok (.getfield 45, 3) := by decide +kernel
theorem dX7_kin_70 : decode cX7_kin 70 = .ok (.iload_n 2, 1) := by decide +kernel
theorem dX7_kin_71 : decode cX7_kin 71 = .ok (.iaload, 1) := by decide +kernel
theorem dX7_kin_72 : decode cX7_kin 72 = .ok (.invokevirtual 195, 3) := by decide +kernel
theorem dX7_kin_75 : decode cX7_kin 75 = .ok (.aload_n 0, 1) := by decide +kernel
theorem dX7_kin_76 : decode cX7_kin 76 = .ok (.invokevirtual 173, 3) := by decide +kernel
theorem dX7_kin_79 : decode cX7_kin 79 = .ok (.aload_n 0, 1) := by decide +kernel
theorem dX7_kin_80 : decode cX7_kin 80 = .ok (.getfield 45, 3) := by decide +kernel
theorem dX7_kin_83 : decode cX7_kin 83 = .ok (.iload_n 1, 1) := by decide +kernel
theorem dX7_kin_84 : decode cX7_kin 84 = .ok (.aload_n 0, 1) := by decide +kernel
theorem dX7_kin_85 : decode cX7_kin 85 = .ok (.invokevirtual 176, 3) := by decide +kernel
theorem dX7_kin_88 : decode cX7_kin 88 = .ok (.invokestatic 191, 3) := by decide +kernel
theorem dX7_kin_91 : decode cX7_kin 91 = .ok (.istore_n 1, 1) := by decide +kernel
theorem dX7_kin_92 : decode cX7_kin 92 = .ok (.aload_n 0, 1) := by decide +kernel
theorem dX7_kin_93 : decode cX7_kin 93 = .ok (.aload_n 0, 1) := by decide +kernel
theorem dX7_kin_94 : decode cX7_kin 94 = .ok (.getfield 45, 3) := by decide +kernel
theorem dX7_kin_97 : decode cX7_kin 97 = .ok (.iload_n 2, 1) := by decide +kernel
theorem dX7_kin_98 : decode cX7_kin 98 = .ok (.iaload, 1) := by decide +kernel
theorem dX7_kin_99 : decode cX7_kin 99 = .ok (.invokevirtual 195, 3) := by decide +kernel
theorem dX7_kin_102 : decode cX7_kin 102 = .ok (.aload_n 0, 1) := by decide +kernel
theorem dX7_kin_103 : decode cX7_kin 103 = .ok (.invokevirtual 179, 3) := by decide +kernel
theorem dX7_kin_106 : decode cX7_kin 106 = .ok (.aload_n 0, 1) := by decide +kernel
theorem dX7_kin_107 : decode cX7_kin 107 = .ok (.getfield 45, 3) := by decide +kernel
theorem dX7_kin_110 : decode cX7_kin 110 = .ok (.iload_n 1, 1) := by decide +kernel
theorem dX7_kin_111 : decode cX7_kin 111 = .ok (.aload_n 0, 1) := by decide +kernel
theorem dX7_kin_112 : decode cX7_kin 112 = .ok (.invokevirtual 176, 3) := by decide +kernel
theorem dX7_kin_115 : decode cX7_kin 115 = .ok (.invokestatic 191, 3) := by decide +kernel
theorem dX7_kin_118 : decode cX7_kin 118 = .ok (.istore_n 1, 1) := by decide +kernel
theorem dX7_kin_119 : decode cX7_kin 119 = .ok (.iinc 2 1, 3) := by decide +kernel
theorem dX7_kin_122 : decode cX7_kin 122 = .ok (.goto (-62), 3) := by decide +kernel
theorem dX7_kin_125 : decode cX7_kin 125 = .ok (.iconst 0, 1) := by decide +kernel
theorem dX7_kin_126 : decode cX7_kin 126 = .ok (.istore_n 2, 1) := by decide +kernel
theorem dX7_kin_127 : decode cX7_kin 127 = .ok (.iload_n 2, 1) := by decide +kernel
theorem dX7_kin_128 : decode cX7_kin 128 = .ok (.aload_n 0, 1) := by decide +kernel
theorem dX7_kin_129 : decode cX7_kin 129 = .ok (.getfield 23, 3) := by decide +kernel
theorem dX7_kin_132 : decode cX7_kin 132 = .ok (.if_icmp .ge 33, 3) := by decide +kernel
theorem dX7_kin_135 : decode cX7_kin 135 = .ok (.aload_n 0, 1) := by decide +kernel
theorem dX7_kin_136 : decode cX7_kin 136 = .ok (.getfield 27, 3) := by decide +kernel
theorem dX7_kin_139 : decode cX7_kin 139 = .ok (.iload_n 2, 1) := by decide +kernel
theorem dX7_kin_140 : decode cX7_kin 140 = .ok (.aload_n 0, 1) := by decide +kernel
theorem dX7_kin_141 : decode cX7_kin 141 = .ok (.getfield 33, 3) := by decide +kernel
theorem dX7_kin_144 : decode cX7_kin 144 = .ok (.iload_n 2, 1) := by decide +kernel
theorem dX7_kin_145 : decode cX7_kin 145 = .ok (.iaload, 1) := by decide +kernel
theorem dX7_kin_146 : decode cX7_kin 146 = .ok (.iastore, 1) := by decide +kernel
theorem dX7_kin_147 : decode cX7_kin 147 = .ok (.aload_n 0, 1) := by decide +kernel
theorem dX7_kin_148 : decode cX7_kin 148 = .ok (.getfield 30, 3) := by decide +kernel
theorem dX7_kin_151 : decode cX7_kin 151 = .ok (.iload_n 2, 1) := by decide +kernel
theorem dX7_kin_152 : decode cX7_kin 152 = .ok (.aload_n 0, 1) := by decide +kernel
theorem dX7_kin_153 : decode cX7_kin 153 = .ok (.getfield 36, 3) := by decide +kernel
theorem dX7_kin_156 : decode cX7_kin 156 = .ok (.iload_n 2, 1) := by decide +kernel
theorem dX7_kin_157 : decode cX7_kin 157 = .ok (.iaload, 1) := by decide +kernel
theorem dX7_kin_158 : decode cX7_kin 158 = .ok (.iastore, 1) := by decide +kernel
theorem dX7_kin_159 : decode cX7_kin 159 = .ok (.iinc 2 1, 3) := by decide +kernel
theorem dX7_kin_162 : decode cX7_kin 162 = .ok (.goto (-35), 3) := by decide +kernel
theorem dX7_kin_165 : decode cX7_kin 165 = .ok (.iload_n 1, 1) := by decide +kernel
theorem dX7_kin_166 : decode cX7_kin 166 = .ok (.ireturn, 1) := by decide +kernel
set_option maxRecDepth 20000 in
theorem ggX7_square_X7_isSquare : GoodIn wsX7_square wsX7_isSquare := goodIn_r _ [8, 9, 10, 11, 7, 12, 50, 51, 52, 53, 54, 55, 56, 57, 58, 59, 60, 61, 62, 63, 64, 65, 66, 67, 68, 69] (by decide +kernel) (by decide +kernel)
set_option maxRecDepth 20000 in
theorem gX7_square_X7_isSquare : GoodIn wsX7_square (wsV RX7 138 RX7 yX7_isSquare wsX7_isSquare) := goodIn_app (goodIn_of _ (by decide +kernel)) ggX7_square_X7_isSquare
set_option maxRecDepth 20000 in
theorem ggX7_square_X7_in : GoodIn wsX7_square wsX7_in := goodIn_r _ [12] (by decide +kernel) (by decide +kernel)
set_option maxRecDepth 20000 in
theorem gX7_square_X7_in : GoodIn wsX7_square (va_wsS RX7 63 yX7_in wsX7_in) := goodIn_app (goodIn_of _ (by decide +kernel)) ggX7_square_X7_in
set_option maxRecDepth 20000 in
theorem ggX7_square_X7_leftOf : GoodIn wsX7_square wsX7_leftOf := goodIn_r _ [16, 9, 2, 50, 51, 52, 53, 54, 55, 56, 57, 58, 59, 60, 61, 62, 63, 64, 65, 66, 67, 68, 69] (by decide +kernel) (by decide +kernel)
set_option maxRecDepth 20000 in
theorem gX7_square_X7_leftOf : GoodIn wsX7_square (wsV RX7 142 RX7 yX7_leftOf wsX7_leftOf) := goodIn_app (goodIn_of _ (by decide +kernel)) ggX7_square_X7_leftOf
set_option maxRecDepth 20000 in
theorem ggX7_square_X7_downOf : GoodIn wsX7_square wsX7_downOf := goodIn_r _ [20, 9, 3, 50, 51, 52, 53, 54, 55, 56, 57, 58, 59, 60, 61, 62, 63, 64, 65, 66, 67, 68, 69] (by decide +kernel) (by decide +kernel)
set_option maxRecDepth 20000 in
theorem gX7_square_X7_downOf : GoodIn wsX7_square (wsV RX7 145 RX7 yX7_downOf wsX7_downOf) := goodIn_app (goodIn_of _ (by decide +kernel)) ggX7_square_X7_downOf
set_option maxRecDepth 20000 in
theorem ggX7_square_X7_angle : GoodIn wsX7_square wsX7_angle := goodIn_r _ [24, 25, 26, 27, 7, 28, 3, 2, 13, 14, 15, 16, 9, 17, 18, 19, 20, 50, 51, 52, 53, 54, 55, 56, 57, 58, 59, 60, 61, 62, 63, 64, 65, 66, 67, 68, 69] (by decide +kernel) (by decide +kernel)
set_option maxRecDepth 20000 in
theorem gX7_square_X7_angle : GoodIn wsX7_square (wsV RX7 158 RX7 yX7_angle wsX7_angle) := goodIn_app (goodIn_of _ (by decide +kernel)) ggX7_square_X7_angle
set_option maxRecDepth 20000 in
theorem ggX7_square_X7_findsPieces : GoodIn wsX7_square wsX7_findsPieces := goodIn_r _ [32, 9, 2, 3, 33, 34, 35, 7, 36, 37, 38, 39, 40, 41, 50, 51, 52, 53, 54, 55, 56, 57, 58, 59, 60, 61, 62, 63, 64, 65, 66, 67, 68, 69] (by decide +kernel) (by decide +kernel)
set_option maxRecDepth 20000 in
theorem gX7_square_X7_findsPieces : GoodIn wsX7_square (wsV RX7 170 RX7 yX7_findsPieces wsX7_findsPieces) := goodIn_app (goodIn_of _ (by decide +kernel)) ggX7_square_X7_findsPieces
set_option maxRecDepth 20000 in
theorem ggX7_square_X7_sizeOf : GoodIn wsX7_square wsX7_sizeOf := goodIn_r _ [45, 9, 37, 50, 51, 52, 53, 54, 55, 56, 57, 58, 59, 60, 61, 62, 63, 64, 65, 66, 67, 68, 69] (by decide +kernel) (by decide +kernel)
set_option maxRecDepth 20000 in
theorem gX7_square_X7_sizeOf : GoodIn wsX7_square (wsV RX7 199 RX7 yX7_sizeOf wsX7_sizeOf) := goodIn_app (goodIn_of _ (by decide +kernel)) ggX7_square_X7_sizeOf
set_option maxRecDepth 20000 in
theorem ggX7_square_X7_rowSize : GoodIn wsX7_square wsX7_rowSize := goodIn_r _ [49, 2, 50, 51, 52, 53, 54, 55, 56, 57, 58, 59, 60, 61, 62, 63, 64, 65, 66, 67, 68, 69] (by decide +kernel) (by decide +kernel)
set_option maxRecDepth 20000 in
theorem gX7_square_X7_rowSize : GoodIn wsX7_square (wsV RX7 202 RX7 yX7_rowSize wsX7_rowSize) := goodIn_app (goodIn_of _ (by decide +kernel)) ggX7_square_X7_rowSize
theorem dX7_square_0 : decode cX7_square 0 = .ok (.aload_n 0, 1) := by decide +kernel
theorem dX7_square_1 : decode cX7_square 1 = .ok (.aload_n 0, 1) := by decide +kernel
theorem dX7_square_2 : decode cX7_square 2 = .ok (.iload_n 1, 1) := by decide +kernel
theorem dX7_square_3 : decode cX7_square 3 = .ok (.invokevirtual 138, 3) := by decide +kernel
theorem dX7_square_6 : decode cX7_square 6 = .ok (.ifCond .ne 7, 3) := by decide +kernel
theorem dX7_square_9 : decode cX7_square 9 = .ok (.iconst 1, 1) := by decide +kernel
theorem dX7_square_10 : decode cX7_square 10 = .ok (.goto 18, 3) := by decide +kernel
theorem dX7_square_13 : decode cX7_square 13 = .ok (.iload_n 2, 1) := by decide +kernel
theorem dX7_square_14 : decode cX7_square 14 = .ok (.iconst 0, 1) := by decide +kernel
theorem dX7_square_15 : decode cX7_square 15 = .ok (.bipush 6, 2) := by decide +kernel
theorem dX7_square_17 : decode cX7_square 17 = .ok (.invokestatic 63, 3) := by decide +kernel
theorem dX7_square_20 : decode cX7_square 20 = .ok (.ifCond .eq 7, 3) := by decide +kernel
theorem dX7_square_23 : decode cX7_square 23 = .ok (.iconst 0, 1) := by decide +kernel
theorem dX7_square_24 : decode cX7_square 24 = .ok (.goto 4, 3) := by decide +kernel
theorem dX7_square_27 : decode cX7_square 27 = .ok (.iconst 2, 1) := by decide +kernel
theorem dX7_square_28 : decode cX7_square 28 = .ok (.putfield 60, 3) := by decide +kernel
theorem dX7_square_31 : decode cX7_square 31 = .ok (.aload_n 0, 1) := by decide +kernel
theorem dX7_square_32 : decode cX7_square 32 = .ok (.getfield 60, 3) := by decide +kernel
theorem dX7_square_35 : decode cX7_square 35 = .ok (.ifCond .le 5, 3) := by decide +kernel
theorem dX7_square_38 : decode cX7_square 38 = .ok (.iconst 0, 1) := by decide +kernel
theorem dX7_square_39 : decode cX7_square 39 = .ok (.ireturn, 1) := by decide +kernel
theorem dX7_square_40 : decode cX7_square 40 = .ok (.iload_n 2, 1) := by decide +kernel
theorem dX7_square_41 : decode cX7_square 41 = .ok (.tableswitch 81 0 5 #[39, 46, 53, 59, 65, 71], 39) := by decide +kernel
theorem dX7_square_80 : decode cX7_square 80 = .ok (.aload_n 0, 1) := by decide +kernel
theorem dX7_square_81 : decode cX7_square 81 = .ok (.getfield 27, 3) := by decide +kernel
theorem dX7_square_84 : decode cX7_square 84 = .ok (.iload_n 1, 1) := by decide +kernel
theorem dX7_square_85 : decode cX7_square 85 = .ok (.iaload, 1) := by decide +kernel
theorem dX7_square_86 : decode cX7_square 86 = .ok (.ireturn, 1) := by decide +kernel
theorem dX7_square_87 : decode cX7_square 87 = .ok (.aload_n 0, 1) := by decide +kernel
theorem dX7_square_88 : decode cX7_square 88 = .ok (.getfield 30, 3) := by decide +kernel
theorem dX7_square_91 : decode cX7_square 91 = .ok (.iload_n 1, 1) := by decide +kernel
theorem dX7_square_92 : decode cX7_square 92 = .ok (.iaload, 1) := by decide +kernel
theorem dX7_square_93 : decode cX7_square 93 = .ok (.ireturn, 1) := by decide +kernel
theorem dX7_square_94 : decode cX7_square 94 = .ok (.aload_n 0, 1) := by decide +kernel
theorem dX7_square_95 : decode cX7_square 95 = .ok (.iload_n 1, 1) := by decide +kernel
theorem dX7_square_96 : decode cX7_square 96 = .ok (.invokevirtual 142, 3) := by decide +kernel
theorem dX7_square_99 : decode cX7_square 99 = .ok (.ireturn, 1) := by decide +kernel
theorem dX7_square_100 : decode cX7_square 100 = .ok (.aload_n 0, 1) := by decide +kernel
theorem dX7_square_101 : decode cX7_square 101 = .ok (.iload_n 1, 1) := by decide +kernel
theorem dX7_square_102 : decode cX7_square 102 = .ok (.invokevirtual 145, 3) := by decide +kernel
