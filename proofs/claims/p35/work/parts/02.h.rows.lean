theorem dL_isHidden_83 : decode cL_isHidden 83 = .ok (.imul, 1) := by decide +kernel
theorem dL_isHidden_84 : decode cL_isHidden 84 = .ok (.iload 5, 2) := by decide +kernel
theorem dL_isHidden_86 : decode cL_isHidden 86 = .ok (.iadd, 1) := by decide +kernel
theorem dL_isHidden_87 : decode cL_isHidden 87 = .ok (.lshr, 1) := by decide +kernel
theorem dL_isHidden_88 : decode cL_isHidden 88 = .ok (.lconst 1, 1) := by decide +kernel
theorem dL_isHidden_89 : decode cL_isHidden 89 = .ok (.land, 1) := by decide +kernel
theorem dL_isHidden_90 : decode cL_isHidden 90 = .ok (.lconst 1, 1) := by decide +kernel
theorem dL_isHidden_91 : decode cL_isHidden 91 = .ok (.lcmp, 1) := by decide +kernel
theorem dL_isHidden_92 : decode cL_isHidden 92 = .ok (.ifCond .ne 5, 3) := by decide +kernel
theorem dL_isHidden_95 : decode cL_isHidden 95 = .ok (.iconst 1, 1) := by decide +kernel
theorem dL_isHidden_96 : decode cL_isHidden 96 = .ok (.ireturn, 1) := by decide +kernel
theorem dL_isHidden_97 : decode cL_isHidden 97 = .ok (.iinc 6 1, 3) := by decide +kernel
theorem dL_isHidden_100 : decode cL_isHidden 100 = .ok (.goto (-54), 3) := by decide +kernel
theorem dL_isHidden_103 : decode cL_isHidden 103 = .ok (.iinc 5 1, 3) := by decide +kernel
theorem dL_isHidden_106 : decode cL_isHidden 106 = .ok (.goto (-87), 3) := by decide +kernel
theorem dL_isHidden_109 : decode cL_isHidden 109 = .ok (.iconst 0, 1) := by decide +kernel
theorem dL_isHidden_110 : decode cL_isHidden 110 = .ok (.ireturn, 1) := by decide +kernel
set_option maxRecDepth 20000 in
theorem ggL_isSight_L_isFloor : GoodIn wsL_isSight wsL_isFloor := goodIn_r _ [4] (by decide +kernel) (by decide +kernel)
set_option maxRecDepth 20000 in
theorem gL_isSight_L_isFloor : GoodIn wsL_isSight (va_wsS RL 92 yL_isFloor wsL_isFloor) := goodIn_app (goodIn_of _ (by decide +kernel)) ggL_isSight_L_isFloor
set_option maxRecDepth 20000 in
theorem ggL_isSight_L_isHidden : GoodIn wsL_isSight wsL_isHidden := goodIn_r _ [7] (by decide +kernel) (by decide +kernel)
set_option maxRecDepth 20000 in
theorem gL_isSight_L_isHidden : GoodIn wsL_isSight (va_wsS RL 122 yL_isHidden wsL_isHidden) := goodIn_app (goodIn_of _ (by decide +kernel)) ggL_isSight_L_isHidden
theorem dL_isSight_0 : decode cL_isSight 0 = .ok (.iload_n 0, 1) := by decide +kernel
theorem dL_isSight_1 : decode cL_isSight 1 = .ok (.iload_n 1, 1) := by decide +kernel
theorem dL_isSight_2 : decode cL_isSight 2 = .ok (.lload 4, 2) := by decide +kernel
theorem dL_isSight_4 : decode cL_isSight 4 = .ok (.invokestatic 92, 3) := by decide +kernel
theorem dL_isSight_7 : decode cL_isSight 7 = .ok (.ifCond .eq 13, 3) := by decide +kernel
theorem dL_isSight_10 : decode cL_isSight 10 = .ok (.iload_n 2, 1) := by decide +kernel
theorem dL_isSight_11 : decode cL_isSight 11 = .ok (.iload_n 3, 1) := by decide +kernel
theorem dL_isSight_12 : decode cL_isSight 12 = .ok (.lload 4, 2) := by decide +kernel
theorem dL_isSight_14 : decode cL_isSight 14 = .ok (.invokestatic 92, 3) := by decide +kernel
theorem dL_isSight_17 : decode cL_isSight 17 = .ok (.ifCond .ne 5, 3) := by decide +kernel
theorem dL_isSight_20 : decode cL_isSight 20 = .ok (.iconst 0, 1) := by decide +kernel
theorem dL_isSight_21 : decode cL_isSight 21 = .ok (.ireturn, 1) := by decide +kernel
theorem dL_isSight_22 : decode cL_isSight 22 = .ok (.iload_n 2, 1) := by decide +kernel
theorem dL_isSight_23 : decode cL_isSight 23 = .ok (.iload_n 0, 1) := by decide +kernel
theorem dL_isSight_24 : decode cL_isSight 24 = .ok (.isub, 1) := by decide +kernel
theorem dL_isSight_25 : decode cL_isSight 25 = .ok (.istore 6, 2) := by decide +kernel
theorem dL_isSight_27 : decode cL_isSight 27 = .ok (.iload_n 3, 1) := by decide +kernel
theorem dL_isSight_28 : decode cL_isSight 28 = .ok (.iload_n 1, 1) := by decide +kernel
theorem dL_isSight_29 : decode cL_isSight 29 = .ok (.isub, 1) := by decide +kernel
theorem dL_isSight_30 : decode cL_isSight 30 = .ok (.istore 7, 2) := by decide +kernel
theorem dL_isSight_32 : decode cL_isSight 32 = .ok (.iconst 2, 1) := by decide +kernel
theorem dL_isSight_33 : decode cL_isSight 33 = .ok (.iload 6, 2) := by decide +kernel
theorem dL_isSight_35 : decode cL_isSight 35 = .ok (.ifCond .ge 9, 3) := by decide +kernel
theorem dL_isSight_38 : decode cL_isSight 38 = .ok (.iload 6, 2) := by decide +kernel
theorem dL_isSight_40 : decode cL_isSight 40 = .ok (.ineg, 1) := by decide +kernel
theorem dL_isSight_41 : decode cL_isSight 41 = .ok (.goto 5, 3) := by decide +kernel
theorem dL_isSight_44 : decode cL_isSight 44 = .ok (.iload 6, 2) := by decide +kernel
theorem dL_isSight_46 : decode cL_isSight 46 = .ok (.imul, 1) := by decide +kernel
theorem dL_isSight_47 : decode cL_isSight 47 = .ok (.istore 8, 2) := by decide +kernel
theorem dL_isSight_49 : decode cL_isSight 49 = .ok (.iconst 2, 1) := by decide +kernel
theorem dL_isSight_50 : decode cL_isSight 50 = .ok (.iload 7, 2) := by decide +kernel
theorem dL_isSight_52 : decode cL_isSight 52 = .ok (.ifCond .ge 9, 3) := by decide +kernel
theorem dL_isSight_55 : decode cL_isSight 55 = .ok (.iload 7, 2) := by decide +kernel
theorem dL_isSight_57 : decode cL_isSight 57 = .ok (.ineg, 1) := by decide +kernel
theorem dL_isSight_58 : decode cL_isSight 58 = .ok (.goto 5, 3) := by decide +kernel
theorem dL_isSight_61 : decode cL_isSight 61 = .ok (.iload 7, 2) := by decide +kernel
theorem dL_isSight_63 : decode cL_isSight 63 = .ok (.imul, 1) := by decide +kernel
theorem dL_isSight_64 : decode cL_isSight 64 = .ok (.istore 9, 2) := by decide +kernel
theorem dL_isSight_66 : decode cL_isSight 66 = .ok (.iconst 1, 1) := by decide +kernel
theorem dL_isSight_67 : decode cL_isSight 67 = .ok (.istore 10, 2) := by decide +kernel
theorem dL_isSight_69 : decode cL_isSight 69 = .ok (.iload 10, 2) := by decide +kernel
theorem dL_isSight_71 : decode cL_isSight 71 = .ok (.iload 8, 2) := by decide +kernel
theorem dL_isSight_73 : decode cL_isSight 73 = .ok (.if_icmp .ge 65, 3) := by decide +kernel
theorem dL_isSight_76 : decode cL_isSight 76 = .ok (.iconst 2, 1) := by decide +kernel
theorem dL_isSight_77 : decode cL_isSight 77 = .ok (.iload_n 1, 1) := by decide +kernel
theorem dL_isSight_78 : decode cL_isSight 78 = .ok (.imul, 1) := by decide +kernel
theorem dL_isSight_79 : decode cL_isSight 79 = .ok (.iconst 1, 1) := by decide +kernel
theorem dL_isSight_80 : decode cL_isSight 80 = .ok (.iadd, 1) := by decide +kernel
theorem dL_isSight_81 : decode cL_isSight 81 = .ok (.iload 8, 2) := by decide +kernel
theorem dL_isSight_83 : decode cL_isSight 83 = .ok (.imul, 1) := by decide +kernel
theorem dL_isSight_84 : decode cL_isSight 84 = .ok (.iconst 2, 1) := by decide +kernel
theorem dL_isSight_85 : decode cL_isSight 85 = .ok (.iload 7, 2) := by decide +kernel
theorem dL_isSight_87 : decode cL_isSight 87 = .ok (.imul, 1) := by decide +kernel
theorem dL_isSight_88 : decode cL_isSight 88 = .ok (.iload 10, 2) := by decide +kernel
theorem dL_isSight_90 : decode cL_isSight 90 = .ok (.imul, 1) := by decide +kernel
theorem dL_isSight_91 : decode cL_isSight 91 = .ok (.iadd, 1) := by decide +kernel
theorem dL_isSight_92 : decode cL_isSight 92 = .ok (.istore 11, 2) := by decide +kernel
theorem dL_isSight_94 : decode cL_isSight 94 = .ok (.iconst 2, 1) := by decide +kernel
theorem dL_isSight_95 : decode cL_isSight 95 = .ok (.iload_n 0, 1) := by decide +kernel
theorem dL_isSight_96 : decode cL_isSight 96 = .ok (.imul, 1) := by decide +kernel
theorem dL_isSight_97 : decode cL_isSight 97 = .ok (.iconst 1, 1) := by decide +kernel
theorem dL_isSight_98 : decode cL_isSight 98 = .ok (.iadd, 1) := by decide +kernel
theorem dL_isSight_99 : decode cL_isSight 99 = .ok (.iload 6, 2) := by decide +kernel
theorem dL_isSight_101 : decode cL_isSight 101 = .ok (.ifCond .ge 9, 3) := by decide +kernel
theorem dL_isSight_104 : decode cL_isSight 104 = .ok (.iload 10, 2) := by decide +kernel
theorem dL_isSight_106 : decode cL_isSight 106 = .ok (.ineg, 1) := by decide +kernel
theorem dL_isSight_107 : decode cL_isSight 107 = .ok (.goto 5, 3) := by decide +kernel
theorem dL_isSight_110 : decode cL_isSight 110 = .ok (.iload 10, 2) := by decide +kernel
theorem dL_isSight_112 : decode cL_isSight 112 = .ok (.iadd, 1) := by decide +kernel
theorem dL_isSight_113 : decode cL_isSight 113 = .ok (.iload 8, 2) := by decide +kernel
theorem dL_isSight_115 : decode cL_isSight 115 = .ok (.imul, 1) := by decide +kernel
theorem dL_isSight_116 : decode cL_isSight 116 = .ok (.iload 11, 2) := by decide +kernel
theorem dL_isSight_118 : decode cL_isSight 118 = .ok (.iconst 2, 1) := by decide +kernel
theorem dL_isSight_119 : decode cL_isSight 119 = .ok (.iload 8, 2) := by decide +kernel
theorem dL_isSight_121 : decode cL_isSight 121 = .ok (.imul, 1) := by decide +kernel
theorem dL_isSight_122 : decode cL_isSight 122 = .ok (.lload 4, 2) := by decide +kernel
theorem dL_isSight_124 : decode cL_isSight 124 = .ok (.invokestatic 122, 3) := by decide +kernel
theorem dL_isSight_127 : decode cL_isSight 127 = .ok (.ifCond .eq 5, 3) := by decide +kernel
theorem dL_isSight_130 : decode cL_isSight 130 = .ok (.iconst 0, 1) := by decide +kernel
theorem dL_isSight_131 : decode cL_isSight 131 = .ok (.ireturn, 1) := by decide +kernel
theorem dL_isSight_132 : decode cL_isSight 132 = .ok (.iinc 10 2, 3) := by decide +kernel
theorem dL_isSight_135 : decode cL_isSight 135 = .ok (.goto (-66), 3) := by decide +kernel
theorem dL_isSight_138 : decode cL_isSight 138 = .ok (.iconst 1, 1) := by decide +kernel
theorem dL_isSight_139 : decode cL_isSight 139 = .ok (.istore 10, 2) := by decide +kernel
theorem dL_isSight_141 : decode cL_isSight 141 = .ok (.iload 10, 2) := by decide +kernel
theorem dL_isSight_143 : decode cL_isSight 143 = .ok (.iload 9, 2) := by decide +kernel
theorem dL_isSight_145 : decode cL_isSight 145 = .ok (.if_icmp .ge 65, 3) := by decide +kernel
theorem dL_isSight_148 : decode cL_isSight 148 = .ok (.iconst 2, 1) := by decide +kernel
theorem dL_isSight_149 : decode cL_isSight 149 = .ok (.iload_n 0, 1) := by decide +kernel
theorem dL_isSight_150 : decode cL_isSight 150 = .ok (.imul, 1) := by decide +kernel
theorem dL_isSight_151 : decode cL_isSight 151 = .ok (.iconst 1, 1) := by decide +kernel
theorem dL_isSight_152 : decode cL_isSight 152 = .ok (.iadd, 1) := by decide +kernel
theorem dL_isSight_153 : decode cL_isSight 153 = .ok (.iload 9, 2) := by decide +kernel
theorem dL_isSight_155 : decode cL_isSight 155 = .ok (.imul, 1) := by decide +kernel
theorem dL_isSight_156 : decode cL_isSight 156 = .ok (.iconst 2, 1) := by decide +kernel
theorem dL_isSight_157 : decode cL_isSight 157 = .ok (.iload 6, 2) := by decide +kernel
theorem dL_isSight_159 : decode cL_isSight 159 = .ok (.imul, 1) := by decide +kernel
theorem dL_isSight_160 : decode cL_isSight 160 = .ok (.iload 10, 2) := by decide +kernel
theorem dL_isSight_162 : decode cL_isSight 162 = .ok (.imul, 1) := by decide +kernel
theorem dL_isSight_163 : decode cL_isSight 163 = .ok (.iadd, 1) := by decide +kernel
theorem dL_isSight_164 : decode cL_isSight 164 = .ok (.istore 11, 2) := by decide +kernel
theorem dL_isSight_166 : decode cL_isSight 166 = .ok (.iload 11, 2) := by decide +kernel
theorem dL_isSight_168 : decode cL_isSight 168 = .ok (.iconst 2, 1) := by decide +kernel
theorem dL_isSight_169 : decode cL_isSight 169 = .ok (.iload_n 1, 1) := by decide +kernel
theorem dL_isSight_170 : decode cL_isSight 170 = .ok (.imul, 1) := by decide +kernel
theorem dL_isSight_171 : decode cL_isSight 171 = .ok (.iconst 1, 1) := by decide +kernel
theorem dL_isSight_172 : decode cL_isSight 172 = .ok (.iadd, 1) := by decide +kernel
theorem dL_isSight_173 : decode cL_isSight 173 = .ok (.iload 7, 2) := by decide +kernel
theorem dL_isSight_175 : decode cL_isSight 175 = .ok (.ifCond .ge 9, 3) := by decide +kernel
theorem dL_isSight_178 : decode cL_isSight 178 = .ok (.iload 10, 2) := by decide +kernel
theorem dL_isSight_180 : decode cL_isSight 180 = .ok (.ineg, 1) := by decide +kernel
theorem dL_isSight_181 : decode cL_isSight 181 = .ok (.goto 5, 3) := by decide +kernel
theorem dL_isSight_184 : decode cL_isSight 184 = .ok (.iload 10, 2) := by decide +kernel
theorem dL_isSight_186 : decode cL_isSight 186 = .ok (.iadd, 1) := by decide +kernel
theorem dL_isSight_187 : decode cL_isSight 187 = .ok (.iload 9, 2) := by decide +kernel
theorem dL_isSight_189 : decode cL_isSight 189 = .ok (.imul, 1) := by decide +kernel
theorem dL_isSight_190 : decode cL_isSight 190 = .ok (.iconst 2, 1) := by decide +kernel
theorem dL_isSight_191 : decode cL_isSight 191 = .ok (.iload 9, 2) := by decide +kernel
theorem dL_isSight_193 : decode cL_isSight 193 = .ok (.imul, 1) := by decide +kernel
theorem dL_isSight_194 : decode cL_isSight 194 = .ok (.lload 4, 2) := by decide +kernel
theorem dL_isSight_196 : decode cL_isSight 196 = .ok (.invokestatic 122, 3) := by decide +kernel
theorem dL_isSight_199 : decode cL_isSight 199 = .ok (.ifCond .eq 5, 3) := by decide +kernel
theorem dL_isSight_202 : decode cL_isSight 202 = .ok (.iconst 0, 1) := by decide +kernel
theorem dL_isSight_203 : decode cL_isSight 203 = .ok (.ireturn, 1) := by decide +kernel
theorem dL_isSight_204 : decode cL_isSight 204 = .ok (.iinc 10 2, 3) := by decide +kernel
theorem dL_isSight_207 : decode cL_isSight 207 = .ok (.goto (-66), 3) := by decide +kernel
theorem dL_isSight_210 : decode cL_isSight 210 = .ok (.iconst 1, 1) := by decide +kernel
theorem dL_isSight_211 : decode cL_isSight 211 = .ok (.ireturn, 1) := by decide +kernel
set_option maxRecDepth 20000 in
theorem ggL_areLit_L_isFloor : GoodIn wsL_areLit wsL_isFloor := goodIn_r _ [4] (by decide +kernel) (by decide +kernel)
set_option maxRecDepth 20000 in
theorem gL_areLit_L_isFloor : GoodIn wsL_areLit (va_wsS RL 92 yL_isFloor wsL_isFloor) := goodIn_app (goodIn_of _ (by decide +kernel)) ggL_areLit_L_isFloor
set_option maxRecDepth 20000 in
theorem ggL_areLit_L_isSight : GoodIn wsL_areLit wsL_isSight := goodIn_r _ [7, 1, 2, 3, 4, 8, 9, 10] (by decide +kernel) (by decide +kernel)
set_option maxRecDepth 20000 in
theorem gL_areLit_L_isSight : GoodIn wsL_areLit (va_wsS RL 126 yL_isSight wsL_isSight) := goodIn_app (goodIn_of _ (by decide +kernel)) ggL_areLit_L_isSight
set_option maxRecDepth 20000 in
theorem ggL_areLit_X6_lit : GoodIn wsL_areLit wsX6_lit := goodIn_r _ [15, 16, 17, 18, 19, 20, 21, 22, 23, 24, 25, 26, 27, 28, 29, 14, 30, 31, 32, 33, 34, 35, 36, 37, 38, 39, 40, 41, 42, 43, 44, 45, 46, 47, 48, 49, 50, 51, 52, 53, 54, 70, 71, 72, 73, 74, 75, 76, 77, 78] (by decide +kernel) (by decide +kernel)
set_option maxRecDepth 20000 in
theorem gL_areLit_X6_lit : GoodIn wsL_areLit (wsV RL 130 RX6 yX6_lit wsX6_lit) := goodIn_app (goodIn_of _ (by decide +kernel)) ggL_areLit_X6_lit
set_option maxRecDepth 20000 in
theorem ggL_areLit_X6_share : GoodIn wsL_areLit wsX6_share := goodIn_r _ [58, 17, 16, 59, 60, 61, 44, 62, 46, 63, 64, 65, 66, 67, 68, 69, 18, 19, 20, 21, 22, 23, 24, 25, 26, 27, 28, 29, 14, 30, 31, 32, 33, 34, 35, 36, 37, 38, 39, 40, 41, 42, 43, 45, 47, 48, 49, 50, 51, 52, 53, 54, 70, 71, 72, 73, 74, 77, 78, 75, 76] (by decide +kernel) (by decide +kernel)
set_option maxRecDepth 20000 in
theorem gL_areLit_X6_share : GoodIn wsL_areLit (wsV RL 133 RX6 yX6_share wsX6_share) := goodIn_app (goodIn_of _ (by decide +kernel)) ggL_areLit_X6_share
theorem dL_areLit_0 : decode cL_areLit 0 = .ok (.iconst 0, 1) := by decide +kernel
theorem dL_areLit_1 : decode cL_areLit 1 = .ok (.istore 5, 2) := by decide +kernel
theorem dL_areLit_3 : decode cL_areLit 3 = .ok (.iconst 0, 1) := by decide +kernel
theorem dL_areLit_4 : decode cL_areLit 4 = .ok (.istore 6, 2) := by decide +kernel
theorem dL_areLit_6 : decode cL_areLit 6 = .ok (.iconst 0, 1) := by decide +kernel
theorem dL_areLit_7 : decode cL_areLit 7 = .ok (.istore 7, 2) := by decide +kernel
theorem dL_areLit_9 : decode cL_areLit 9 = .ok (.iload 7, 2) := by decide +kernel
theorem dL_areLit_11 : decode cL_areLit 11 = .ok (.bipush 64, 2) := by decide +kernel
theorem dL_areLit_13 : decode cL_areLit 13 = .ok (.if_icmp .ge 104, 3) := by decide +kernel
theorem dL_areLit_16 : decode cL_areLit 16 = .ok (.iload 6, 2) := by decide +kernel
theorem dL_areLit_18 : decode cL_areLit 18 = .ok (.iload 7, 2) := by decide +kernel
theorem dL_areLit_20 : decode cL_areLit 20 = .ok (.bipush 8, 2) := by decide +kernel
theorem dL_areLit_22 : decode cL_areLit 22 = .ok (.irem, 1) := by decide +kernel
theorem dL_areLit_23 : decode cL_areLit 23 = .ok (.iload 7, 2) := by decide +kernel
theorem dL_areLit_25 : decode cL_areLit 25 = .ok (.bipush 8, 2) := by decide +kernel
theorem dL_areLit_27 : decode cL_areLit 27 = .ok (.idiv, 1) := by decide +kernel
theorem dL_areLit_28 : decode cL_areLit 28 = .ok (.lload_n 3, 1) := by decide +kernel
theorem dL_areLit_29 : decode cL_areLit 29 = .ok (.invokestatic 92, 3) := by decide +kernel
theorem dL_areLit_32 : decode cL_areLit 32 = .ok (.ifCond .eq 7, 3) := by decide +kernel
theorem dL_areLit_35 : decode cL_areLit 35 = .ok (.iconst 1, 1) := by decide +kernel
theorem dL_areLit_36 : decode cL_areLit 36 = .ok (.goto 4, 3) := by decide +kernel
theorem dL_areLit_39 : decode cL_areLit 39 = .ok (.iconst 0, 1) := by decide +kernel
theorem dL_areLit_40 : decode cL_areLit 40 = .ok (.iadd, 1) := by decide +kernel
theorem dL_areLit_41 : decode cL_areLit 41 = .ok (.istore 6, 2) := by decide +kernel
theorem dL_areLit_43 : decode cL_areLit 43 = .ok (.iconst 0, 1) := by decide +kernel
theorem dL_areLit_44 : decode cL_areLit 44 = .ok (.istore 8, 2) := by decide +kernel
theorem dL_areLit_46 : decode cL_areLit 46 = .ok (.iconst 0, 1) := by decide +kernel
theorem dL_areLit_47 : decode cL_areLit 47 = .ok (.istore 9, 2) := by decide +kernel
theorem dL_areLit_49 : decode cL_areLit 49 = .ok (.iload 9, 2) := by decide +kernel
theorem dL_areLit_51 : decode cL_areLit 51 = .ok (.iload_n 2, 1) := by decide +kernel
theorem dL_areLit_52 : decode cL_areLit 52 = .ok (.if_icmp .ge 44, 3) := by decide +kernel
theorem dL_areLit_55 : decode cL_areLit 55 = .ok (.iload 8, 2) := by decide +kernel
theorem dL_areLit_57 : decode cL_areLit 57 = .ok (.ifCond .ne 39, 3) := by decide +kernel
theorem dL_areLit_60 : decode cL_areLit 60 = .ok (.iload 7, 2) := by decide +kernel
theorem dL_areLit_62 : decode cL_areLit 62 = .ok (.bipush 8, 2) := by decide +kernel
theorem dL_areLit_64 : decode cL_areLit 64 = .ok (.irem, 1) := by decide +kernel
theorem dL_areLit_65 : decode cL_areLit 65 = .ok (.iload 7, 2) := by decide +kernel
theorem dL_areLit_67 : decode cL_areLit 67 = .ok (.bipush 8, 2) := by decide +kernel
theorem dL_areLit_69 : decode cL_areLit 69 = .ok (.idiv, 1) := by decide +kernel
theorem dL_areLit_70 : decode cL_areLit 70 = .ok (.aload_n 1, 1) := by decide +kernel
theorem dL_areLit_71 : decode cL_areLit 71 = .ok (.iload 9, 2) := by decide +kernel
theorem dL_areLit_73 : decode cL_areLit 73 = .ok (.iaload, 1) := by decide +kernel
theorem dL_areLit_74 : decode cL_areLit 74 = .ok (.bipush 8, 2) := by decide +kernel
theorem dL_areLit_76 : decode cL_areLit 76 = .ok (.irem, 1) := by decide +kernel
theorem dL_areLit_77 : decode cL_areLit 77 = .ok (.aload_n 1, 1) := by decide +kernel
theorem dL_areLit_78 : decode cL_areLit 78 = .ok (.iload 9, 2) := by decide +kernel
theorem dL_areLit_80 : decode cL_areLit 80 = .ok (.iaload, 1) := by decide +kernel
theorem dL_areLit_81 : decode cL_areLit 81 = .ok (.bipush 8, 2) := by decide +kernel
theorem dL_areLit_83 : decode cL_areLit 83 = .ok (.idiv, 1) := by decide +kernel
theorem dL_areLit_84 : decode cL_areLit 84 = .ok (.lload_n 3, 1) := by decide +kernel
theorem dL_areLit_85 : decode cL_areLit 85 = .ok (.invokestatic 126, 3) := by decide +kernel
theorem dL_areLit_88 : decode cL_areLit 88 = .ok (.istore 8, 2) := by decide +kernel
theorem dL_areLit_90 : decode cL_areLit 90 = .ok (.iinc 9 1, 3) := by decide +kernel
theorem dL_areLit_93 : decode cL_areLit 93 = .ok (.goto (-44), 3) := by decide +kernel
theorem dL_areLit_96 : decode cL_areLit 96 = .ok (.iload 5, 2) := by decide +kernel
theorem dL_areLit_98 : decode cL_areLit 98 = .ok (.iload 8, 2) := by decide +kernel
theorem dL_areLit_100 : decode cL_areLit 100 = .ok (.ifCond .eq 7, 3) := by decide +kernel
theorem dL_areLit_103 : decode cL_areLit 103 = .ok (.iconst 1, 1) := by decide +kernel
theorem dL_areLit_104 : decode cL_areLit 104 = .ok (.goto 4, 3) := by decide +kernel
theorem dL_areLit_107 : decode cL_areLit 107 = .ok (.iconst 0, 1) := by decide +kernel
theorem dL_areLit_108 : decode cL_areLit 108 = .ok (.iadd, 1) := by decide +kernel
theorem dL_areLit_109 : decode cL_areLit 109 = .ok (.istore 5, 2) := by decide +kernel
theorem dL_areLit_111 : decode cL_areLit 111 = .ok (.iinc 7 1, 3) := by decide +kernel
theorem dL_areLit_114 : decode cL_areLit 114 = .ok (.goto (-105), 3) := by decide +kernel
theorem dL_areLit_117 : decode cL_areLit 117 = .ok (.aload_n 0, 1) := by decide +kernel
theorem dL_areLit_118 : decode cL_areLit 118 = .ok (.invokevirtual 130, 3) := by decide +kernel
theorem dL_areLit_121 : decode cL_areLit 121 = .ok (.iload 5, 2) := by decide +kernel
theorem dL_areLit_123 : decode cL_areLit 123 = .ok (.if_icmp .ne 58, 3) := by decide +kernel
theorem dL_areLit_126 : decode cL_areLit 126 = .ok (.iload 6, 2) := by decide +kernel
theorem dL_areLit_128 : decode cL_areLit 128 = .ok (.ifCond .ne 15, 3) := by decide +kernel
theorem dL_areLit_131 : decode cL_areLit 131 = .ok (.aload_n 0, 1) := by decide +kernel
theorem dL_areLit_132 : decode cL_areLit 132 = .ok (.invokevirtual 133, 3) := by decide +kernel
theorem dL_areLit_135 : decode cL_areLit 135 = .ok (.fconst 0, 1) := by decide +kernel
theorem dL_areLit_136 : decode cL_areLit 136 = .ok (.fcmp .l, 1) := by decide +kernel
theorem dL_areLit_137 : decode cL_areLit 137 = .ok (.ifCond .ne 44, 3) := by decide +kernel
theorem dL_areLit_140 : decode cL_areLit 140 = .ok (.goto 37, 3) := by decide +kernel
theorem dL_areLit_143 : decode cL_areLit 143 = .ok (.aload_n 0, 1) := by decide +kernel
theorem dL_areLit_144 : decode cL_areLit 144 = .ok (.invokevirtual 133, 3) := by decide +kernel
theorem dL_areLit_147 : decode cL_areLit 147 = .ok (.iload 6, 2) := by decide +kernel
theorem dL_areLit_149 : decode cL_areLit 149 = .ok (.i2f, 1) := by decide +kernel
theorem dL_areLit_150 : decode cL_areLit 150 = .ok (.fmul, 1) := by decide +kernel
theorem dL_areLit_151 : decode cL_areLit 151 = .ok (.iload 5, 2) := by decide +kernel
theorem dL_areLit_153 : decode cL_areLit 153 = .ok (.iconst 1, 1) := by decide +kernel
theorem dL_areLit_154 : decode cL_areLit 154 = .ok (.isub, 1) := by decide +kernel
theorem dL_areLit_155 : decode cL_areLit 155 = .ok (.i2f, 1) := by decide +kernel
theorem dL_areLit_156 : decode cL_areLit 156 = .ok (.fcmp .l, 1) := by decide +kernel
theorem dL_areLit_157 : decode cL_areLit 157 = .ok (.ifCond .le 24, 3) := by decide +kernel
theorem dL_areLit_160 : decode cL_areLit 160 = .ok (.aload_n 0, 1) := by decide +kernel
theorem dL_areLit_161 : decode cL_areLit 161 = .ok (.invokevirtual 133, 3) := by decide +kernel
theorem dL_areLit_164 : decode cL_areLit 164 = .ok (.iload 6, 2) := by decide +kernel
theorem dL_areLit_166 : decode cL_areLit 166 = .ok (.i2f, 1) := by decide +kernel
theorem dL_areLit_167 : decode cL_areLit 167 = .ok (.fmul, 1) := by decide +kernel
theorem dL_areLit_168 : decode cL_areLit 168 = .ok (.iload 5, 2) := by decide +kernel
theorem dL_areLit_170 : decode cL_areLit 170 = .ok (.iconst 1, 1) := by decide +kernel
theorem dL_areLit_171 : decode cL_areLit 171 = .ok (.iadd, 1) := by decide +kernel
theorem dL_areLit_172 : decode cL_areLit 172 = .ok (.i2f, 1) := by decide +kernel
theorem dL_areLit_173 : decode cL_areLit 173 = .ok (.fcmp .g, 1) := by decide +kernel
theorem dL_areLit_174 : decode cL_areLit 174 = .ok (.ifCond .ge 7, 3) := by decide +kernel
theorem dL_areLit_177 : decode cL_areLit 177 = .ok (.iconst 1, 1) := by decide +kernel
theorem dL_areLit_178 : decode cL_areLit 178 = .ok (.goto 4, 3) := by decide +kernel
theorem dL_areLit_181 : decode cL_areLit 181 = .ok (.iconst 0, 1) := by decide +kernel
theorem dL_areLit_182 : decode cL_areLit 182 = .ok (.ireturn, 1) := by decide +kernel
theorem dL_before_0 : decode cL_before 0 = .ok (.iconst 0, 1) := by decide +kernel
theorem dL_before_1 : decode cL_before 1 = .ok (.istore_n 2, 1) := by decide +kernel
theorem dL_before_2 : decode cL_before 2 = .ok (.aload_n 1, 1) := by decide +kernel
theorem dL_before_3 : decode cL_before 3 = .ok (.iload_n 2, 1) := by decide +kernel
theorem dL_before_4 : decode cL_before 4 = .ok (.iaload, 1) := by decide +kernel
theorem dL_before_5 : decode cL_before 5 = .ok (.iload_n 0, 1) := by decide +kernel
theorem dL_before_6 : decode cL_before 6 = .ok (.if_icmp .eq 9, 3) := by decide +kernel
theorem dL_before_9 : decode cL_before 9 = .ok (.iinc 2 1, 3) := by decide +kernel
theorem dL_before_12 : decode cL_before 12 = .ok (.goto (-10), 3) := by decide +kernel
theorem dL_before_15 : decode cL_before 15 = .ok (.iload_n 2, 1) := by decide +kernel
theorem dL_before_16 : decode cL_before 16 = .ok (.ireturn, 1) := by decide +kernel
theorem dL_isNext_0 : decode cL_isNext 0 = .ok (.iload_n 1, 1) := by decide +kernel
theorem dL_isNext_1 : decode cL_isNext 1 = .ok (.iconst 2, 1) := by decide +kernel
theorem dL_isNext_2 : decode cL_isNext 2 = .ok (.isub, 1) := by decide +kernel
theorem dL_isNext_3 : decode cL_isNext 3 = .ok (.istore_n 2, 1) := by decide +kernel
theorem dL_isNext_4 : decode cL_isNext 4 = .ok (.iload_n 2, 1) := by decide +kernel
theorem dL_isNext_5 : decode cL_isNext 5 = .ok (.ifCond .lt 20, 3) := by decide +kernel
theorem dL_isNext_8 : decode cL_isNext 8 = .ok (.aload_n 0, 1) := by decide +kernel
theorem dL_isNext_9 : decode cL_isNext 9 = .ok (.iload_n 2, 1) := by decide +kernel
theorem dL_isNext_10 : decode cL_isNext 10 = .ok (.iaload, 1) := by decide +kernel
theorem dL_isNext_11 : decode cL_isNext 11 = .ok (.aload_n 0, 1) := by decide +kernel
theorem dL_isNext_12 : decode cL_isNext 12 = .ok (.iload_n 2, 1) := by decide +kernel
theorem dL_isNext_13 : decode cL_isNext 13 = .ok (.iconst 1, 1) := by decide +kernel
theorem dL_isNext_14 : decode cL_isNext 14 = .ok (.iadd, 1) := by decide +kernel
theorem dL_isNext_15 : decode cL_isNext 15 = .ok (.iaload, 1) := by decide +kernel
theorem dL_isNext_16 : decode cL_isNext 16 = .ok (.if_icmp .le 9, 3) := by decide +kernel
theorem dL_isNext_19 : decode cL_isNext 19 = .ok (.iinc 2 (-1), 3) := by decide +kernel
theorem dL_isNext_22 : decode cL_isNext 22 = .ok (.goto (-18), 3) := by decide +kernel
theorem dL_isNext_25 : decode cL_isNext 25 = .ok (.iload_n 2, 1) := by decide +kernel
theorem dL_isNext_26 : decode cL_isNext 26 = .ok (.ifCond .ge 5, 3) := by decide +kernel
theorem dL_isNext_29 : decode cL_isNext 29 = .ok (.iconst 0, 1) := by decide +kernel
theorem dL_isNext_30 : decode cL_isNext 30 = .ok (.ireturn, 1) := by decide +kernel
theorem dL_isNext_31 : decode cL_isNext 31 = .ok (.iload_n 1, 1) := by decide +kernel
theorem dL_isNext_32 : decode cL_isNext 32 = .ok (.iconst 1, 1) := by decide +kernel
theorem dL_isNext_33 : decode cL_isNext 33 = .ok (.isub, 1) := by decide +kernel
theorem dL_isNext_34 : decode cL_isNext 34 = .ok (.istore_n 3, 1) := by decide +kernel
theorem dL_isNext_35 : decode cL_isNext 35 = .ok (.aload_n 0, 1) := by decide +kernel
theorem dL_isNext_36 : decode cL_isNext 36 = .ok (.iload_n 3, 1) := by decide +kernel
theorem dL_isNext_37 : decode cL_isNext 37 = .ok (.iaload, 1) := by decide +kernel
theorem dL_isNext_38 : decode cL_isNext 38 = .ok (.aload_n 0, 1) := by decide +kernel
theorem dL_isNext_39 : decode cL_isNext 39 = .ok (.iload_n 2, 1) := by decide +kernel
theorem dL_isNext_40 : decode cL_isNext 40 = .ok (.iaload, 1) := by decide +kernel
theorem dL_isNext_41 : decode cL_isNext 41 = .ok (.if_icmp .ge 9, 3) := by decide +kernel
theorem dL_isNext_44 : decode cL_isNext 44 = .ok (.iinc 3 (-1), 3) := by decide +kernel
theorem dL_isNext_47 : decode cL_isNext 47 = .ok (.goto (-12), 3) := by decide +kernel
theorem dL_isNext_50 : decode cL_isNext 50 = .ok (.aload_n 0, 1) := by decide +kernel
theorem dL_isNext_51 : decode cL_isNext 51 = .ok (.iload_n 2, 1) := by decide +kernel
theorem dL_isNext_52 : decode cL_isNext 52 = .ok (.iaload, 1) := by decide +kernel
theorem dL_isNext_53 : decode cL_isNext 53 = .ok (.istore 4, 2) := by decide +kernel
theorem dL_isNext_55 : decode cL_isNext 55 = .ok (.aload_n 0, 1) := by decide +kernel
theorem dL_isNext_56 : decode cL_isNext 56 = .ok (.iload_n 2, 1) := by decide +kernel
theorem dL_isNext_57 : decode cL_isNext 57 = .ok (.aload_n 0, 1) := by decide +kernel
theorem dL_isNext_58 : decode cL_isNext 58 = .ok (.iload_n 3, 1) := by decide +kernel
theorem dL_isNext_59 : decode cL_isNext 59 = .ok (.iaload, 1) := by decide +kernel
theorem dL_isNext_60 : decode cL_isNext 60 = .ok (.iastore, 1) := by decide +kernel
theorem dL_isNext_61 : decode cL_isNext 61 = .ok (.aload_n 0, 1) := by decide +kernel
theorem dL_isNext_62 : decode cL_isNext 62 = .ok (.iload_n 3, 1) := by decide +kernel
theorem dL_isNext_63 : decode cL_isNext 63 = .ok (.iload 4, 2) := by decide +kernel
theorem dL_isNext_65 : decode cL_isNext 65 = .ok (.iastore, 1) := by decide +kernel
theorem dL_isNext_66 : decode cL_isNext 66 = .ok (.iload_n 2, 1) := by decide +kernel
theorem dL_isNext_67 : decode cL_isNext 67 = .ok (.iconst 1, 1) := by decide +kernel
theorem dL_isNext_68 : decode cL_isNext 68 = .ok (.iadd, 1) := by decide +kernel
theorem dL_isNext_69 : decode cL_isNext 69 = .ok (.istore 5, 2) := by decide +kernel
theorem dL_isNext_71 : decode cL_isNext 71 = .ok (.iload_n 1, 1) := by decide +kernel
theorem dL_isNext_72 : decode cL_isNext 72 = .ok (.iconst 1, 1) := by decide +kernel
theorem dL_isNext_73 : decode cL_isNext 73 = .ok (.isub, 1) := by decide +kernel
theorem dL_isNext_74 : decode cL_isNext 74 = .ok (.istore 6, 2) := by decide +kernel
theorem dL_isNext_76 : decode cL_isNext 76 = .ok (.iload 5, 2) := by decide +kernel
theorem dL_isNext_78 : decode cL_isNext 78 = .ok (.iload 6, 2) := by decide +kernel
theorem dL_isNext_80 : decode cL_isNext 80 = .ok (.if_icmp .ge 32, 3) := by decide +kernel
theorem dL_isNext_83 : decode cL_isNext 83 = .ok (.aload_n 0, 1) := by decide +kernel
theorem dL_isNext_84 : decode cL_isNext 84 = .ok (.iload 5, 2) := by decide +kernel
theorem dL_isNext_86 : decode cL_isNext 86 = .ok (.iaload, 1) := by decide +kernel
theorem dL_isNext_87 : decode cL_isNext 87 = .ok (.istore 4, 2) := by decide +kernel
theorem dL_isNext_89 : decode cL_isNext 89 = .ok (.aload_n 0, 1) := by decide +kernel
theorem dL_isNext_90 : decode cL_isNext 90 = .ok (.iload 5, 2) := by decide +kernel
theorem dL_isNext_92 : decode cL_isNext 92 = .ok (.aload_n 0, 1) := by decide +kernel
theorem dL_isNext_93 : decode cL_isNext 93 = .ok (.iload 6, 2) := by decide +kernel
theorem dL_isNext_95 : decode cL_isNext 95 = .ok (.iaload, 1) := by decide +kernel
theorem dL_isNext_96 : decode cL_isNext 96 = .ok (.iastore, 1) := by decide +kernel
theorem dL_isNext_97 : decode cL_isNext 97 = .ok (.aload_n 0, 1) := by decide +kernel
theorem dL_isNext_98 : decode cL_isNext 98 = .ok (.iload 6, 2) := by decide +kernel
theorem dL_isNext_100 : decode cL_isNext 100 = .ok (.iload 4, 2) := by decide +kernel
theorem dL_isNext_102 : decode cL_isNext 102 = .ok (.iastore, 1) := by decide +kernel
theorem dL_isNext_103 : decode cL_isNext 103 = .ok (.iinc 5 1, 3) := by decide +kernel
theorem dL_isNext_106 : decode cL_isNext 106 = .ok (.iinc 6 (-1), 3) := by decide +kernel
theorem dL_isNext_109 : decode cL_isNext 109 = .ok (.goto (-33), 3) := by decide +kernel
theorem dL_isNext_112 : decode cL_isNext 112 = .ok (.iconst 1, 1) := by decide +kernel
theorem dL_isNext_113 : decode cL_isNext 113 = .ok (.ireturn, 1) := by decide +kernel
set_option maxRecDepth 20000 in
theorem ggL_codeOf_L_before : GoodIn wsL_codeOf wsL_before := goodIn_r _ [6] (by decide +kernel) (by decide +kernel)
set_option maxRecDepth 20000 in
theorem gL_codeOf_L_before : GoodIn wsL_codeOf (va_wsS RL 138 yL_before wsL_before) := goodIn_app (goodIn_of _ (by decide +kernel)) ggL_codeOf_L_before
set_option maxRecDepth 20000 in
theorem ggL_codeOf_L_isNext : GoodIn wsL_codeOf wsL_isNext := goodIn_r _ [9] (by decide +kernel) (by decide +kernel)
set_option maxRecDepth 20000 in
theorem gL_codeOf_L_isNext : GoodIn wsL_codeOf (va_wsS RL 142 yL_isNext wsL_isNext) := goodIn_app (goodIn_of _ (by decide +kernel)) ggL_codeOf_L_isNext
theorem dL_codeOf_0 : decode cL_codeOf 0 = .ok (.iconst 5, 1) := by decide +kernel
theorem dL_codeOf_1 : decode cL_codeOf 1 = .ok (.newarray .int, 2) := by decide +kernel
theorem dL_codeOf_3 : decode cL_codeOf 3 = .ok (.astore_n 3, 1) := by decide +kernel
theorem dL_codeOf_4 : decode cL_codeOf 4 = .ok (.ldc 137, 2) := by decide +kernel
theorem dL_codeOf_6 : decode cL_codeOf 6 = .ok (.istore 4, 2) := by decide +kernel
theorem dL_codeOf_8 : decode cL_codeOf 8 = .ok (.iconst 0, 1) := by decide +kernel
theorem dL_codeOf_9 : decode cL_codeOf 9 = .ok (.istore 5, 2) := by decide +kernel
theorem dL_codeOf_11 : decode cL_codeOf 11 = .ok (.iload 5, 2) := by decide +kernel
theorem dL_codeOf_13 : decode cL_codeOf 13 = .ok (.iload_n 0, 1) := by decide +kernel
theorem dL_codeOf_14 : decode cL_codeOf 14 = .ok (.if_icmp .ge 15, 3) := by decide +kernel
theorem dL_codeOf_17 : decode cL_codeOf 17 = .ok (.aload_n 3, 1) := by decide +kernel
theorem dL_codeOf_18 : decode cL_codeOf 18 = .ok (.iload 5, 2) := by decide +kernel
theorem dL_codeOf_20 : decode cL_codeOf 20 = .ok (.iload 5, 2) := by decide +kernel
theorem dL_codeOf_22 : decode cL_codeOf 22 = .ok (.iastore, 1) := by decide +kernel
theorem dL_codeOf_23 : decode cL_codeOf 23 = .ok (.iinc 5 1, 3) := by decide +kernel
theorem dL_codeOf_26 : decode cL_codeOf 26 = .ok (.goto (-15), 3) := by decide +kernel
theorem dL_codeOf_29 : decode cL_codeOf 29 = .ok (.iconst 0, 1) := by decide +kernel
theorem dL_codeOf_30 : decode cL_codeOf 30 = .ok (.istore 5, 2) := by decide +kernel
theorem dL_codeOf_32 : decode cL_codeOf 32 = .ok (.iconst 0, 1) := by decide +kernel
theorem dL_codeOf_33 : decode cL_codeOf 33 = .ok (.istore 6, 2) := by decide +kernel
theorem dL_codeOf_35 : decode cL_codeOf 35 = .ok (.iload 6, 2) := by decide +kernel
theorem dL_codeOf_37 : decode cL_codeOf 37 = .ok (.iload_n 0, 1) := by decide +kernel
theorem dL_codeOf_38 : decode cL_codeOf 38 = .ok (.if_icmp .ge 39, 3) := by decide +kernel
theorem dL_codeOf_41 : decode cL_codeOf 41 = .ok (.iload 5, 2) := by decide +kernel
theorem dL_codeOf_43 : decode cL_codeOf 43 = .ok (.iconst 5, 1) := by decide +kernel
theorem dL_codeOf_44 : decode cL_codeOf 44 = .ok (.imul, 1) := by decide +kernel
theorem dL_codeOf_45 : decode cL_codeOf 45 = .ok (.aload_n 1, 1) := by decide +kernel
theorem dL_codeOf_46 : decode cL_codeOf 46 = .ok (.aload_n 3, 1) := by decide +kernel
theorem dL_codeOf_47 : decode cL_codeOf 47 = .ok (.iload 6, 2) := by decide +kernel
theorem dL_codeOf_49 : decode cL_codeOf 49 = .ok (.iaload, 1) := by decide +kernel
theorem dL_codeOf_50 : decode cL_codeOf 50 = .ok (.iaload, 1) := by decide +kernel
theorem dL_codeOf_51 : decode cL_codeOf 51 = .ok (.aload_n 3, 1) := by decide +kernel
theorem dL_codeOf_52 : decode cL_codeOf 52 = .ok (.invokestatic 138, 3) := by decide +kernel
theorem dL_codeOf_55 : decode cL_codeOf 55 = .ok (.iadd, 1) := by decide +kernel
theorem dL_codeOf_56 : decode cL_codeOf 56 = .ok (.iconst 5, 1) := by decide +kernel
theorem dL_codeOf_57 : decode cL_codeOf 57 = .ok (.imul, 1) := by decide +kernel
theorem dL_codeOf_58 : decode cL_codeOf 58 = .ok (.aload_n 2, 1) := by decide +kernel
theorem dL_codeOf_59 : decode cL_codeOf 59 = .ok (.aload_n 3, 1) := by decide +kernel
theorem dL_codeOf_60 : decode cL_codeOf 60 = .ok (.iload 6, 2) := by decide +kernel
theorem dL_codeOf_62 : decode cL_codeOf 62 = .ok (.iaload, 1) := by decide +kernel
theorem dL_codeOf_63 : decode cL_codeOf 63 = .ok (.iaload, 1) := by decide +kernel
theorem dL_codeOf_64 : decode cL_codeOf 64 = .ok (.aload_n 3, 1) := by decide +kernel
theorem dL_codeOf_65 : decode cL_codeOf 65 = .ok (.invokestatic 138, 3) := by decide +kernel
theorem dL_codeOf_68 : decode cL_codeOf 68 = .ok (.iadd, 1) := by decide +kernel
theorem dL_codeOf_69 : decode cL_codeOf 69 = .ok (.istore 5, 2) := by decide +kernel
theorem dL_codeOf_71 : decode cL_codeOf 71 = .ok (.iinc 6 1, 3) := by decide +kernel
theorem dL_codeOf_74 : decode cL_codeOf 74 = .ok (.goto (-39), 3) := by decide +kernel
theorem dL_codeOf_77 : decode cL_codeOf 77 = .ok (.iload 5, 2) := by decide +kernel
theorem dL_codeOf_79 : decode cL_codeOf 79 = .ok (.iload 4, 2) := by decide +kernel
theorem dL_codeOf_81 : decode cL_codeOf 81 = .ok (.if_icmp .ge 8, 3) := by decide +kernel
theorem dL_codeOf_84 : decode cL_codeOf 84 = .ok (.iload 5, 2) := by decide +kernel
theorem dL_codeOf_86 : decode cL_codeOf 86 = .ok (.goto 5, 3) := by decide +kernel
theorem dL_codeOf_89 : decode cL_codeOf 89 = .ok (.iload 4, 2) := by decide +kernel
theorem dL_codeOf_91 : decode cL_codeOf 91 = .ok (.istore 4, 2) := by decide +kernel
theorem dL_codeOf_93 : decode cL_codeOf 93 = .ok (.aload_n 3, 1) := by decide +kernel
theorem dL_codeOf_94 : decode cL_codeOf 94 = .ok (.iload_n 0, 1) := by decide +kernel
theorem dL_codeOf_95 : decode cL_codeOf 95 = .ok (.invokestatic 142, 3) := by decide +kernel
theorem dL_codeOf_98 : decode cL_codeOf 98 = .ok (.ifCond .ne (-69), 3) := by decide +kernel
theorem dL_codeOf_101 : decode cL_codeOf 101 = .ok (.iload 4, 2) := by decide +kernel
theorem dL_codeOf_103 : decode cL_codeOf 103 = .ok (.ireturn, 1) := by decide +kernel
theorem dL_shears_0 : decode cL_shears 0 = .ok (.iconst 5, 1) := by decide +kernel
theorem dL_shears_1 : decode cL_shears 1 = .ok (.newarray .int, 2) := by decide +kernel
theorem dL_shears_3 : decode cL_shears 3 = .ok (.astore_n 3, 1) := by decide +kernel
theorem dL_shears_4 : decode cL_shears 4 = .ok (.iconst 0, 1) := by decide +kernel
theorem dL_shears_5 : decode cL_shears 5 = .ok (.istore 4, 2) := by decide +kernel
theorem dL_shears_7 : decode cL_shears 7 = .ok (.iload 4, 2) := by decide +kernel
theorem dL_shears_9 : decode cL_shears 9 = .ok (.iload_n 0, 1) := by decide +kernel
theorem dL_shears_10 : decode cL_shears 10 = .ok (.if_icmp .ge 19, 3) := by decide +kernel
theorem dL_shears_13 : decode cL_shears 13 = .ok (.aload_n 3, 1) := by decide +kernel
theorem dL_shears_14 : decode cL_shears 14 = .ok (.iload 4, 2) := by decide +kernel
theorem dL_shears_16 : decode cL_shears 16 = .ok (.aload_n 2, 1) := by decide +kernel
theorem dL_shears_17 : decode cL_shears 17 = .ok (.aload_n 1, 1) := by decide +kernel
theorem dL_shears_18 : decode cL_shears 18 = .ok (.iload 4, 2) := by decide +kernel
theorem dL_shears_20 : decode cL_shears 20 = .ok (.iaload, 1) := by decide +kernel
theorem dL_shears_21 : decode cL_shears 21 = .ok (.iaload, 1) := by decide +kernel
theorem dL_shears_22 : decode cL_shears 22 = .ok (.iastore, 1) := by decide +kernel
theorem dL_shears_23 : decode cL_shears 23 = .ok (.iinc 4 1, 3) := by decide +kernel
theorem dL_shears_26 : decode cL_shears 26 = .ok (.goto (-19), 3) := by decide +kernel
theorem dL_shears_29 : decode cL_shears 29 = .ok (.iconst 0, 1) := by decide +kernel
theorem dL_shears_30 : decode cL_shears 30 = .ok (.istore 4, 2) := by decide +kernel
theorem dL_shears_32 : decode cL_shears 32 = .ok (.iload 4, 2) := by decide +kernel
theorem dL_shears_34 : decode cL_shears 34 = .ok (.iload_n 0, 1) := by decide +kernel
theorem dL_shears_35 : decode cL_shears 35 = .ok (.if_icmp .ge 17, 3) := by decide +kernel
theorem dL_shears_38 : decode cL_shears 38 = .ok (.aload_n 2, 1) := by decide +kernel
theorem dL_shears_39 : decode cL_shears 39 = .ok (.iload 4, 2) := by decide +kernel
theorem dL_shears_41 : decode cL_shears 41 = .ok (.aload_n 3, 1) := by decide +kernel
theorem dL_shears_42 : decode cL_shears 42 = .ok (.iload 4, 2) := by decide +kernel
theorem dL_shears_44 : decode cL_shears 44 = .ok (.iaload, 1) := by decide +kernel
theorem dL_shears_45 : decode cL_shears 45 = .ok (.iastore, 1) := by decide +kernel
theorem dL_shears_46 : decode cL_shears 46 = .ok (.iinc 4 1, 3) := by decide +kernel
theorem dL_shears_49 : decode cL_shears 49 = .ok (.goto (-17), 3) := by decide +kernel
theorem dL_shears_52 : decode cL_shears 52 = .ok (.return_, 1) := by decide +kernel
theorem dL_turns_0 : decode cL_turns 0 = .ok (.iconst 5, 1) := by decide +kernel
theorem dL_turns_1 : decode cL_turns 1 = .ok (.newarray .int, 2) := by decide +kernel
theorem dL_turns_3 : decode cL_turns 3 = .ok (.astore_n 3, 1) := by decide +kernel
theorem dL_turns_4 : decode cL_turns 4 = .ok (.iconst 0, 1) := by decide +kernel
theorem dL_turns_5 : decode cL_turns 5 = .ok (.istore 4, 2) := by decide +kernel
theorem dL_turns_7 : decode cL_turns 7 = .ok (.iload 4, 2) := by decide +kernel
theorem dL_turns_9 : decode cL_turns 9 = .ok (.iload_n 0, 1) := by decide +kernel
theorem dL_turns_10 : decode cL_turns 10 = .ok (.if_icmp .ge 17, 3) := by decide +kernel
theorem dL_turns_13 : decode cL_turns 13 = .ok (.aload_n 3, 1) := by decide +kernel
theorem dL_turns_14 : decode cL_turns 14 = .ok (.aload_n 1, 1) := by decide +kernel
theorem dL_turns_15 : decode cL_turns 15 = .ok (.iload 4, 2) := by decide +kernel
theorem dL_turns_17 : decode cL_turns 17 = .ok (.iaload, 1) := by decide +kernel
theorem dL_turns_18 : decode cL_turns 18 = .ok (.iload 4, 2) := by decide +kernel
theorem dL_turns_20 : decode cL_turns 20 = .ok (.iastore, 1) := by decide +kernel
theorem dL_turns_21 : decode cL_turns 21 = .ok (.iinc 4 1, 3) := by decide +kernel
theorem dL_turns_24 : decode cL_turns 24 = .ok (.goto (-17), 3) := by decide +kernel
theorem dL_turns_27 : decode cL_turns 27 = .ok (.iconst 0, 1) := by decide +kernel
theorem dL_turns_28 : decode cL_turns 28 = .ok (.istore 4, 2) := by decide +kernel
theorem dL_turns_30 : decode cL_turns 30 = .ok (.iload 4, 2) := by decide +kernel
theorem dL_turns_32 : decode cL_turns 32 = .ok (.iload_n 0, 1) := by decide +kernel
theorem dL_turns_33 : decode cL_turns 33 = .ok (.if_icmp .ge 25, 3) := by decide +kernel
theorem dL_turns_36 : decode cL_turns 36 = .ok (.aload_n 1, 1) := by decide +kernel
theorem dL_turns_37 : decode cL_turns 37 = .ok (.iload 4, 2) := by decide +kernel
theorem dL_turns_39 : decode cL_turns 39 = .ok (.aload_n 2, 1) := by decide +kernel
theorem dL_turns_40 : decode cL_turns 40 = .ok (.iload 4, 2) := by decide +kernel
theorem dL_turns_42 : decode cL_turns 42 = .ok (.iaload, 1) := by decide +kernel
theorem dL_turns_43 : decode cL_turns 43 = .ok (.iastore, 1) := by decide +kernel
theorem dL_turns_44 : decode cL_turns 44 = .ok (.aload_n 2, 1) := by decide +kernel
theorem dL_turns_45 : decode cL_turns 45 = .ok (.iload 4, 2) := by decide +kernel
theorem dL_turns_47 : decode cL_turns 47 = .ok (.aload_n 3, 1) := by decide +kernel
theorem dL_turns_48 : decode cL_turns 48 = .ok (.iload 4, 2) := by decide +kernel
theorem dL_turns_50 : decode cL_turns 50 = .ok (.iaload, 1) := by decide +kernel
theorem dL_turns_51 : decode cL_turns 51 = .ok (.iastore, 1) := by decide +kernel
theorem dL_turns_52 : decode cL_turns 52 = .ok (.iinc 4 1, 3) := by decide +kernel
theorem dL_turns_55 : decode cL_turns 55 = .ok (.goto (-25), 3) := by decide +kernel
theorem dL_turns_58 : decode cL_turns 58 = .ok (.return_, 1) := by decide +kernel
theorem dL_keeps_0 : decode cL_keeps 0 = .ok (.iconst 0, 1) := by decide +kernel
theorem dL_keeps_1 : decode cL_keeps 1 = .ok (.istore 5, 2) := by decide +kernel
theorem dL_keeps_3 : decode cL_keeps 3 = .ok (.iload 5, 2) := by decide +kernel
theorem dL_keeps_5 : decode cL_keeps 5 = .ok (.iload_n 1, 1) := by decide +kernel
theorem dL_keeps_6 : decode cL_keeps 6 = .ok (.if_icmp .ge 56, 3) := by decide +kernel
theorem dL_keeps_9 : decode cL_keeps 9 = .ok (.iload 5, 2) := by decide +kernel
theorem dL_keeps_11 : decode cL_keeps 11 = .ok (.bipush 64, 2) := by decide +kernel
theorem dL_keeps_13 : decode cL_keeps 13 = .ok (.if_icmp .ge 10, 3) := by decide +kernel
theorem dL_keeps_16 : decode cL_keeps 16 = .ok (.aload_n 2, 1) := by decide +kernel
theorem dL_keeps_17 : decode cL_keeps 17 = .ok (.iload 5, 2) := by decide +kernel
theorem dL_keeps_19 : decode cL_keeps 19 = .ok (.iaload, 1) := by decide +kernel
theorem dL_keeps_20 : decode cL_keeps 20 = .ok (.goto 30, 3) := by decide +kernel
theorem dL_keeps_23 : decode cL_keeps 23 = .ok (.iload 5, 2) := by decide +kernel
theorem dL_keeps_25 : decode cL_keeps 25 = .ok (.sipush 128, 3) := by decide +kernel
theorem dL_keeps_28 : decode cL_keeps 28 = .ok (.if_icmp .ge 13, 3) := by decide +kernel
theorem dL_keeps_31 : decode cL_keeps 31 = .ok (.aload_n 3, 1) := by decide +kernel
theorem dL_keeps_32 : decode cL_keeps 32 = .ok (.iload 5, 2) := by decide +kernel
theorem dL_keeps_34 : decode cL_keeps 34 = .ok (.bipush 64, 2) := by decide +kernel
theorem dL_keeps_36 : decode cL_keeps 36 = .ok (.isub, 1) := by decide +kernel
theorem dL_keeps_37 : decode cL_keeps 37 = .ok (.iaload, 1) := by decide +kernel
theorem dL_keeps_38 : decode cL_keeps 38 = .ok (.goto 12, 3) := by decide +kernel
theorem dL_keeps_41 : decode cL_keeps 41 = .ok (.aload 4, 2) := by decide +kernel
theorem dL_keeps_43 : decode cL_keeps 43 = .ok (.iload 5, 2) := by decide +kernel
theorem dL_keeps_45 : decode cL_keeps 45 = .ok (.sipush 128, 3) := by decide +kernel
theorem dL_keeps_48 : decode cL_keeps 48 = .ok (.isub, 1) := by decide +kernel
theorem dL_keeps_49 : decode cL_keeps 49 = .ok (.iaload, 1) := by decide +kernel
theorem dL_keeps_50 : decode cL_keeps 50 = .ok (.iload_n 0, 1) := by decide +kernel
theorem dL_keeps_51 : decode cL_keeps 51 = .ok (.if_icmp .ne 5, 3) := by decide +kernel
theorem dL_keeps_54 : decode cL_keeps 54 = .ok (.iload_n 1, 1) := by decide +kernel
theorem dL_keeps_55 : decode cL_keeps 55 = .ok (.ireturn, 1) := by decide +kernel
theorem dL_keeps_56 : decode cL_keeps 56 = .ok (.iinc 5 1, 3) := by decide +kernel
theorem dL_keeps_59 : decode cL_keeps 59 = .ok (.goto (-56), 3) := by decide +kernel
theorem dL_keeps_62 : decode cL_keeps 62 = .ok (.iload_n 1, 1) := by decide +kernel
theorem dL_keeps_63 : decode cL_keeps 63 = .ok (.bipush 64, 2) := by decide +kernel
theorem dL_keeps_65 : decode cL_keeps 65 = .ok (.if_icmp .ge 10, 3) := by decide +kernel
theorem dL_keeps_68 : decode cL_keeps 68 = .ok (.aload_n 2, 1) := by decide +kernel
theorem dL_keeps_69 : decode cL_keeps 69 = .ok (.iload_n 1, 1) := by decide +kernel
theorem dL_keeps_70 : decode cL_keeps 70 = .ok (.iload_n 0, 1) := by decide +kernel
theorem dL_keeps_71 : decode cL_keeps 71 = .ok (.iastore, 1) := by decide +kernel
theorem dL_keeps_72 : decode cL_keeps 72 = .ok (.goto 29, 3) := by decide +kernel
theorem dL_keeps_75 : decode cL_keeps 75 = .ok (.iload_n 1, 1) := by decide +kernel
theorem dL_keeps_76 : decode cL_keeps 76 = .ok (.sipush 128, 3) := by decide +kernel
theorem dL_keeps_79 : decode cL_keeps 79 = .ok (.if_icmp .ge 13, 3) := by decide +kernel
theorem dL_keeps_82 : decode cL_keeps 82 = .ok (.aload_n 3, 1) := by decide +kernel
theorem dL_keeps_83 : decode cL_keeps 83 = .ok (.iload_n 1, 1) := by decide +kernel
theorem dL_keeps_84 : decode cL_keeps 84 = .ok (.bipush 64, 2) := by decide +kernel
theorem dL_keeps_86 : decode cL_keeps 86 = .ok (.isub, 1) := by decide +kernel
theorem dL_keeps_87 : decode cL_keeps 87 = .ok (.iload_n 0, 1) := by decide +kernel
theorem dL_keeps_88 : decode cL_keeps 88 = .ok (.iastore, 1) := by decide +kernel
theorem dL_keeps_89 : decode cL_keeps 89 = .ok (.goto 12, 3) := by decide +kernel
theorem dL_keeps_92 : decode cL_keeps 92 = .ok (.aload 4, 2) := by decide +kernel
theorem dL_keeps_94 : decode cL_keeps 94 = .ok (.iload_n 1, 1) := by decide +kernel
theorem dL_keeps_95 : decode cL_keeps 95 = .ok (.sipush 128, 3) := by decide +kernel
theorem dL_keeps_98 : decode cL_keeps 98 = .ok (.isub, 1) := by decide +kernel
theorem dL_keeps_99 : decode cL_keeps 99 = .ok (.iload_n 0, 1) := by decide +kernel
theorem dL_keeps_100 : decode cL_keeps 100 = .ok (.iastore, 1) := by decide +kernel
theorem dL_keeps_101 : decode cL_keeps 101 = .ok (.iload_n 1, 1) := by decide +kernel
theorem dL_keeps_102 : decode cL_keeps 102 = .ok (.iconst 1, 1) := by decide +kernel
theorem dL_keeps_103 : decode cL_keeps 103 = .ok (.iadd, 1) := by decide +kernel
theorem dL_keeps_104 : decode cL_keeps 104 = .ok (.ireturn, 1) := by decide +kernel
set_option maxRecDepth 20000 in
theorem ggL_kinOf_L_codeOf : GoodIn wsL_kinOf wsL_codeOf := goodIn_r _ [5, 1, 6, 7, 8, 4, 9, 10, 11, 12] (by decide +kernel) (by decide +kernel)
set_option maxRecDepth 20000 in
theorem gL_kinOf_L_codeOf : GoodIn wsL_kinOf (va_wsS RL 146 yL_codeOf wsL_codeOf) := goodIn_app (goodIn_of _ (by decide +kernel)) ggL_kinOf_L_codeOf
set_option maxRecDepth 20000 in
theorem ggL_kinOf_L_keeps : GoodIn wsL_kinOf wsL_keeps := goodIn_r _ [15] (by decide +kernel) (by decide +kernel)
set_option maxRecDepth 20000 in
theorem gL_kinOf_L_keeps : GoodIn wsL_kinOf (va_wsS RL 150 yL_keeps wsL_keeps) := goodIn_app (goodIn_of _ (by decide +kernel)) ggL_kinOf_L_keeps
set_option maxRecDepth 20000 in
theorem ggL_kinOf_L_shears : GoodIn wsL_kinOf wsL_shears := goodIn_r _ [18, 1] (by decide +kernel) (by decide +kernel)
set_option maxRecDepth 20000 in
theorem gL_kinOf_L_shears : GoodIn wsL_kinOf (va_wsS RL 154 yL_shears wsL_shears) := goodIn_app (goodIn_of _ (by decide +kernel)) ggL_kinOf_L_shears
set_option maxRecDepth 20000 in
theorem ggL_kinOf_L_turns : GoodIn wsL_kinOf wsL_turns := goodIn_r _ [21, 1] (by decide +kernel) (by decide +kernel)
set_option maxRecDepth 20000 in
theorem gL_kinOf_L_turns : GoodIn wsL_kinOf (va_wsS RL 158 yL_turns wsL_turns) := goodIn_app (goodIn_of _ (by decide +kernel)) ggL_kinOf_L_turns
theorem dL_kinOf_0 : decode cL_kinOf 0 = .ok (.bipush 64, 2) := by decide +kernel
theorem dL_kinOf_2 : decode cL_kinOf 2 = .ok (.newarray .int, 2) := by decide +kernel
theorem dL_kinOf_4 : decode cL_kinOf 4 = .ok (.astore_n 3, 1) := by decide +kernel
theorem dL_kinOf_5 : decode cL_kinOf 5 = .ok (.bipush 64, 2) := by decide +kernel
theorem dL_kinOf_7 : decode cL_kinOf 7 = .ok (.newarray .int, 2) := by decide +kernel
theorem dL_kinOf_9 : decode cL_kinOf 9 = .ok (.astore 4, 2) := by decide +kernel
theorem dL_kinOf_11 : decode cL_kinOf 11 = .ok (.bipush 64, 2) := by decide +kernel
theorem dL_kinOf_13 : decode cL_kinOf 13 = .ok (.newarray .int, 2) := by decide +kernel
theorem dL_kinOf_15 : decode cL_kinOf 15 = .ok (.astore 5, 2) := by decide +kernel
theorem dL_kinOf_17 : decode cL_kinOf 17 = .ok (.iload_n 0, 1) := by decide +kernel
theorem dL_kinOf_18 : decode cL_kinOf 18 = .ok (.aload_n 1, 1) := by decide +kernel
theorem dL_kinOf_19 : decode cL_kinOf 19 = .ok (.aload_n 2, 1) := by decide +kernel
theorem dL_kinOf_20 : decode cL_kinOf 20 = .ok (.invokestatic 146, 3) := by decide +kernel
theorem dL_kinOf_23 : decode cL_kinOf 23 = .ok (.iconst 0, 1) := by decide +kernel
theorem dL_kinOf_24 : decode cL_kinOf 24 = .ok (.aload_n 3, 1) := by decide +kernel
theorem dL_kinOf_25 : decode cL_kinOf 25 = .ok (.aload 4, 2) := by decide +kernel
theorem dL_kinOf_27 : decode cL_kinOf 27 = .ok (.aload 5, 2) := by decide +kernel
theorem dL_kinOf_29 : decode cL_kinOf 29 = .ok (.invokestatic 150, 3) := by decide +kernel
theorem dL_kinOf_32 : decode cL_kinOf 32 = .ok (.istore 6, 2) := by decide +kernel
theorem dL_kinOf_34 : decode cL_kinOf 34 = .ok (.iconst 5, 1) := by decide +kernel
theorem dL_kinOf_35 : decode cL_kinOf 35 = .ok (.newarray .int, 2) := by decide +kernel
theorem dL_kinOf_37 : decode cL_kinOf 37 = .ok (.astore 7, 2) := by decide +kernel
theorem dL_kinOf_39 : decode cL_kinOf 39 = .ok (.iconst 5, 1) := by decide +kernel
theorem dL_kinOf_40 : decode cL_kinOf 40 = .ok (.newarray .int, 2) := by decide +kernel
theorem dL_kinOf_42 : decode cL_kinOf 42 = .ok (.astore 8, 2) := by decide +kernel
theorem dL_kinOf_44 : decode cL_kinOf 44 = .ok (.iconst 0, 1) := by decide +kernel
theorem dL_kinOf_45 : decode cL_kinOf 45 = .ok (.istore 9, 2) := by decide +kernel
theorem dL_kinOf_47 : decode cL_kinOf 47 = .ok (.iload 9, 2) := by decide +kernel
theorem dL_kinOf_49 : decode cL_kinOf 49 = .ok (.iload 6, 2) := by decide +kernel
theorem dL_kinOf_51 : decode cL_kinOf 51 = .ok (.if_icmp .ge 155, 3) := by decide +kernel
theorem dL_kinOf_54 : decode cL_kinOf 54 = .ok (.iconst 0, 1) := by decide +kernel
theorem dL_kinOf_55 : decode cL_kinOf 55 = .ok (.istore 10, 2) := by decide +kernel
theorem dL_kinOf_57 : decode cL_kinOf 57 = .ok (.iload 10, 2) := by decide +kernel
theorem dL_kinOf_59 : decode cL_kinOf 59 = .ok (.iconst 2, 1) := by decide +kernel
theorem dL_kinOf_60 : decode cL_kinOf 60 = .ok (.if_icmp .ge 140, 3) := by decide +kernel
theorem dL_kinOf_63 : decode cL_kinOf 63 = .ok (.iload 9, 2) := by decide +kernel
theorem dL_kinOf_65 : decode cL_kinOf 65 = .ok (.bipush 64, 2) := by decide +kernel
theorem dL_kinOf_67 : decode cL_kinOf 67 = .ok (.if_icmp .ge 10, 3) := by decide +kernel
theorem dL_kinOf_70 : decode cL_kinOf 70 = .ok (.aload_n 3, 1) := by decide +kernel
theorem dL_kinOf_71 : decode cL_kinOf 71 = .ok (.iload 9, 2) := by decide +kernel
theorem dL_kinOf_73 : decode cL_kinOf 73 = .ok (.iaload, 1) := by decide +kernel
theorem dL_kinOf_74 : decode cL_kinOf 74 = .ok (.goto 31, 3) := by decide +kernel
theorem dL_kinOf_77 : decode cL_kinOf 77 = .ok (.iload 9, 2) := by decide +kernel
theorem dL_kinOf_79 : decode cL_kinOf 79 = .ok (.sipush 128, 3) := by decide +kernel
theorem dL_kinOf_82 : decode cL_kinOf 82 = .ok (.if_icmp .ge 14, 3) := by decide +kernel
theorem dL_kinOf_85 : decode cL_kinOf 85 = .ok (.aload 4, 2) := by decide +kernel
theorem dL_kinOf_87 : decode cL_kinOf 87 = .ok (.iload 9, 2) := by decide +kernel
theorem dL_kinOf_89 : decode cL_kinOf 89 = .ok (.bipush 64, 2) := by decide +kernel
theorem dL_kinOf_91 : decode cL_kinOf 91 = .ok (.isub, 1) := by decide +kernel
theorem dL_kinOf_92 : decode cL_kinOf 92 = .ok (.iaload, 1) := by decide +kernel
theorem dL_kinOf_93 : decode cL_kinOf 93 = .ok (.goto 12, 3) := by decide +kernel
theorem dL_kinOf_96 : decode cL_kinOf 96 = .ok (.aload 5, 2) := by decide +kernel
theorem dL_kinOf_98 : decode cL_kinOf 98 = .ok (.iload 9, 2) := by decide +kernel
theorem dL_kinOf_100 : decode cL_kinOf 100 = .ok (.sipush 128, 3) := by decide +kernel
theorem dL_kinOf_103 : decode cL_kinOf 103 = .ok (.isub, 1) := by decide +kernel
theorem dL_kinOf_104 : decode cL_kinOf 104 = .ok (.iaload, 1) := by decide +kernel
theorem dL_kinOf_105 : decode cL_kinOf 105 = .ok (.istore 11, 2) := by decide +kernel
theorem dL_kinOf_107 : decode cL_kinOf 107 = .ok (.iload_n 0, 1) := by decide +kernel
theorem dL_kinOf_108 : decode cL_kinOf 108 = .ok (.iconst 1, 1) := by decide +kernel
theorem dL_kinOf_109 : decode cL_kinOf 109 = .ok (.isub, 1) := by decide +kernel
theorem dL_kinOf_110 : decode cL_kinOf 110 = .ok (.istore 12, 2) := by decide +kernel
theorem dL_kinOf_112 : decode cL_kinOf 112 = .ok (.iload 12, 2) := by decide +kernel
theorem dL_kinOf_114 : decode cL_kinOf 114 = .ok (.ifCond .lt 36, 3) := by decide +kernel
theorem dL_kinOf_117 : decode cL_kinOf 117 = .ok (.aload 8, 2) := by decide +kernel
theorem dL_kinOf_119 : decode cL_kinOf 119 = .ok (.iload 12, 2) := by decide +kernel
theorem dL_kinOf_121 : decode cL_kinOf 121 = .ok (.iload 11, 2) := by decide +kernel
theorem dL_kinOf_123 : decode cL_kinOf 123 = .ok (.iconst 5, 1) := by decide +kernel
theorem dL_kinOf_124 : decode cL_kinOf 124 = .ok (.irem, 1) := by decide +kernel
theorem dL_kinOf_125 : decode cL_kinOf 125 = .ok (.iastore, 1) := by decide +kernel
theorem dL_kinOf_126 : decode cL_kinOf 126 = .ok (.aload 7, 2) := by decide +kernel
theorem dL_kinOf_128 : decode cL_kinOf 128 = .ok (.iload 12, 2) := by decide +kernel
theorem dL_kinOf_130 : decode cL_kinOf 130 = .ok (.iload 11, 2) := by decide +kernel
theorem dL_kinOf_132 : decode cL_kinOf 132 = .ok (.iconst 5, 1) := by decide +kernel
theorem dL_kinOf_133 : decode cL_kinOf 133 = .ok (.idiv, 1) := by decide +kernel
theorem dL_kinOf_134 : decode cL_kinOf 134 = .ok (.iconst 5, 1) := by decide +kernel
theorem dL_kinOf_135 : decode cL_kinOf 135 = .ok (.irem, 1) := by decide +kernel
theorem dL_kinOf_136 : decode cL_kinOf 136 = .ok (.iastore, 1) := by decide +kernel
theorem dL_kinOf_137 : decode cL_kinOf 137 = .ok (.iload 11, 2) := by decide +kernel
theorem dL_kinOf_139 : decode cL_kinOf 139 = .ok (.bipush 25, 2) := by decide +kernel
theorem dL_kinOf_141 : decode cL_kinOf 141 = .ok (.idiv, 1) := by decide +kernel
theorem dL_kinOf_142 : decode cL_kinOf 142 = .ok (.istore 11, 2) := by decide +kernel
theorem dL_kinOf_144 : decode cL_kinOf 144 = .ok (.iinc 12 (-1), 3) := by decide +kernel
theorem dL_kinOf_147 : decode cL_kinOf 147 = .ok (.goto (-35), 3) := by decide +kernel
theorem dL_kinOf_150 : decode cL_kinOf 150 = .ok (.iload 10, 2) := by decide +kernel
theorem dL_kinOf_152 : decode cL_kinOf 152 = .ok (.ifCond .ne 14, 3) := by decide +kernel
theorem dL_kinOf_155 : decode cL_kinOf 155 = .ok (.iload_n 0, 1) := by decide +kernel
theorem dL_kinOf_156 : decode cL_kinOf 156 = .ok (.aload 7, 2) := by decide +kernel
theorem dL_kinOf_158 : decode cL_kinOf 158 = .ok (.aload 8, 2) := by decide +kernel
theorem dL_kinOf_160 : decode cL_kinOf 160 = .ok (.invokestatic 154, 3) := by decide +kernel
theorem dL_kinOf_163 : decode cL_kinOf 163 = .ok (.goto 11, 3) := by decide +kernel
theorem dL_kinOf_166 : decode cL_kinOf 166 = .ok (.iload_n 0, 1) := by decide +kernel
theorem dL_kinOf_167 : decode cL_kinOf 167 = .ok (.aload 7, 2) := by decide +kernel
theorem dL_kinOf_169 : decode cL_kinOf 169 = .ok (.aload 8, 2) := by decide +kernel
theorem dL_kinOf_171 : decode cL_kinOf 171 = .ok (.invokestatic 158, 3) := by decide +kernel
theorem dL_kinOf_174 : decode cL_kinOf 174 = .ok (.iload_n 0, 1) := by decide +kernel
theorem dL_kinOf_175 : decode cL_kinOf 175 = .ok (.aload 7, 2) := by decide +kernel
theorem dL_kinOf_177 : decode cL_kinOf 177 = .ok (.aload 8, 2) := by decide +kernel
theorem dL_kinOf_179 : decode cL_kinOf 179 = .ok (.invokestatic 146, 3) := by decide +kernel
theorem dL_kinOf_182 : decode cL_kinOf 182 = .ok (.iload 6, 2) := by decide +kernel
theorem dL_kinOf_184 : decode cL_kinOf 184 = .ok (.aload_n 3, 1) := by decide +kernel
theorem dL_kinOf_185 : decode cL_kinOf 185 = .ok (.aload 4, 2) := by decide +kernel
theorem dL_kinOf_187 : decode cL_kinOf 187 = .ok (.aload 5, 2) := by decide +kernel
theorem dL_kinOf_189 : decode cL_kinOf 189 = .ok (.invokestatic 150, 3) := by decide +kernel
theorem dL_kinOf_192 : decode cL_kinOf 192 = .ok (.istore 6, 2) := by decide +kernel
theorem dL_kinOf_194 : decode cL_kinOf 194 = .ok (.iinc 10 1, 3) := by decide +kernel
theorem dL_kinOf_197 : decode cL_kinOf 197 = .ok (.goto (-140), 3) := by decide +kernel
theorem dL_kinOf_200 : decode cL_kinOf 200 = .ok (.iinc 9 1, 3) := by decide +kernel
theorem dL_kinOf_203 : decode cL_kinOf 203 = .ok (.goto (-156), 3) := by decide +kernel
theorem dL_kinOf_206 : decode cL_kinOf 206 = .ok (.iload 6, 2) := by decide +kernel
theorem dL_kinOf_208 : decode cL_kinOf 208 = .ok (.ireturn, 1) := by decide +kernel
set_option maxRecDepth 20000 in
theorem ggL_reach_L_before : GoodIn wsL_reach wsL_before := goodIn_r _ [4] (by decide +kernel) (by decide +kernel)
set_option maxRecDepth 20000 in
theorem gL_reach_L_before : GoodIn wsL_reach (va_wsS RL 138 yL_before wsL_before) := goodIn_app (goodIn_of _ (by decide +kernel)) ggL_reach_L_before
theorem dL_reach_0 : decode cL_reach 0 = .ok (.iconst 1, 1) := by decide +kernel
theorem dL_reach_1 : decode cL_reach 1 = .ok (.iload_n 0, 1) := by decide +kernel
theorem dL_reach_2 : decode cL_reach 2 = .ok (.ishl, 1) := by decide +kernel
theorem dL_reach_3 : decode cL_reach 3 = .ok (.istore 5, 2) := by decide +kernel
theorem dL_reach_5 : decode cL_reach 5 = .ok (.iconst 0, 1) := by decide +kernel
theorem dL_reach_6 : decode cL_reach 6 = .ok (.istore 6, 2) := by decide +kernel
theorem dL_reach_8 : decode cL_reach 8 = .ok (.iload 6, 2) := by decide +kernel
theorem dL_reach_10 : decode cL_reach 10 = .ok (.bipush 10, 2) := by decide +kernel
theorem dL_reach_12 : decode cL_reach 12 = .ok (.if_icmp .ge 148, 3) := by decide +kernel
theorem dL_reach_15 : decode cL_reach 15 = .ok (.iconst 0, 1) := by decide +kernel
theorem dL_reach_16 : decode cL_reach 16 = .ok (.istore 7, 2) := by decide +kernel
theorem dL_reach_18 : decode cL_reach 18 = .ok (.iload 7, 2) := by decide +kernel
theorem dL_reach_20 : decode cL_reach 20 = .ok (.iload_n 2, 1) := by decide +kernel
theorem dL_reach_21 : decode cL_reach 21 = .ok (.if_icmp .ge 133, 3) := by decide +kernel
theorem dL_reach_24 : decode cL_reach 24 = .ok (.iconst 0, 1) := by decide +kernel
theorem dL_reach_25 : decode cL_reach 25 = .ok (.istore 8, 2) := by decide +kernel
theorem dL_reach_27 : decode cL_reach 27 = .ok (.iload 8, 2) := by decide +kernel
theorem dL_reach_29 : decode cL_reach 29 = .ok (.iload_n 2, 1) := by decide +kernel
theorem dL_reach_30 : decode cL_reach 30 = .ok (.if_icmp .ge 118, 3) := by decide +kernel
theorem dL_reach_33 : decode cL_reach 33 = .ok (.iload_n 1, 1) := by decide +kernel
theorem dL_reach_34 : decode cL_reach 34 = .ok (.iconst 1, 1) := by decide +kernel
theorem dL_reach_35 : decode cL_reach 35 = .ok (.iand, 1) := by decide +kernel
theorem dL_reach_36 : decode cL_reach 36 = .ok (.ifCond .le 21, 3) := by decide +kernel
theorem dL_reach_39 : decode cL_reach 39 = .ok (.aload_n 3, 1) := by decide +kernel
theorem dL_reach_40 : decode cL_reach 40 = .ok (.iload 7, 2) := by decide +kernel
theorem dL_reach_42 : decode cL_reach 42 = .ok (.iaload, 1) := by decide +kernel
theorem dL_reach_43 : decode cL_reach 43 = .ok (.iload 8, 2) := by decide +kernel
theorem dL_reach_45 : decode cL_reach 45 = .ok (.if_icmp .eq 65, 3) := by decide +kernel
theorem dL_reach_48 : decode cL_reach 48 = .ok (.aload_n 3, 1) := by decide +kernel
theorem dL_reach_49 : decode cL_reach 49 = .ok (.iload 8, 2) := by decide +kernel
theorem dL_reach_51 : decode cL_reach 51 = .ok (.iaload, 1) := by decide +kernel
theorem dL_reach_52 : decode cL_reach 52 = .ok (.iload 7, 2) := by decide +kernel
theorem dL_reach_54 : decode cL_reach 54 = .ok (.if_icmp .eq 56, 3) := by decide +kernel
theorem dL_reach_57 : decode cL_reach 57 = .ok (.iload_n 1, 1) := by decide +kernel
theorem dL_reach_58 : decode cL_reach 58 = .ok (.iconst 2, 1) := by decide +kernel
theorem dL_reach_59 : decode cL_reach 59 = .ok (.iand, 1) := by decide +kernel
theorem dL_reach_60 : decode cL_reach 60 = .ok (.ifCond .le 23, 3) := by decide +kernel
theorem dL_reach_63 : decode cL_reach 63 = .ok (.aload 4, 2) := by decide +kernel
theorem dL_reach_65 : decode cL_reach 65 = .ok (.iload 7, 2) := by decide +kernel
theorem dL_reach_67 : decode cL_reach 67 = .ok (.iaload, 1) := by decide +kernel
theorem dL_reach_68 : decode cL_reach 68 = .ok (.iload 8, 2) := by decide +kernel
theorem dL_reach_70 : decode cL_reach 70 = .ok (.if_icmp .eq 40, 3) := by decide +kernel
theorem dL_reach_73 : decode cL_reach 73 = .ok (.aload 4, 2) := by decide +kernel
theorem dL_reach_75 : decode cL_reach 75 = .ok (.iload 8, 2) := by decide +kernel
theorem dL_reach_77 : decode cL_reach 77 = .ok (.iaload, 1) := by decide +kernel
theorem dL_reach_78 : decode cL_reach 78 = .ok (.iload 7, 2) := by decide +kernel
theorem dL_reach_80 : decode cL_reach 80 = .ok (.if_icmp .eq 30, 3) := by decide +kernel
theorem dL_reach_83 : decode cL_reach 83 = .ok (.iload_n 1, 1) := by decide +kernel
theorem dL_reach_84 : decode cL_reach 84 = .ok (.iconst 4, 1) := by decide +kernel
theorem dL_reach_85 : decode cL_reach 85 = .ok (.iand, 1) := by decide +kernel
theorem dL_reach_86 : decode cL_reach 86 = .ok (.ifCond .le 28, 3) := by decide +kernel
theorem dL_reach_89 : decode cL_reach 89 = .ok (.aload 4, 2) := by decide +kernel
theorem dL_reach_91 : decode cL_reach 91 = .ok (.aload_n 3, 1) := by decide +kernel
theorem dL_reach_92 : decode cL_reach 92 = .ok (.iload 7, 2) := by decide +kernel
theorem dL_reach_94 : decode cL_reach 94 = .ok (.iaload, 1) := by decide +kernel
theorem dL_reach_95 : decode cL_reach 95 = .ok (.iaload, 1) := by decide +kernel
theorem dL_reach_96 : decode cL_reach 96 = .ok (.aload_n 3, 1) := by decide +kernel
theorem dL_reach_97 : decode cL_reach 97 = .ok (.invokestatic 138, 3) := by decide +kernel
theorem dL_reach_100 : decode cL_reach 100 = .ok (.aload 4, 2) := by decide +kernel
theorem dL_reach_102 : decode cL_reach 102 = .ok (.invokestatic 138, 3) := by decide +kernel
theorem dL_reach_105 : decode cL_reach 105 = .ok (.iload 8, 2) := by decide +kernel
theorem dL_reach_107 : decode cL_reach 107 = .ok (.if_icmp .ne 7, 3) := by decide +kernel
theorem dL_reach_110 : decode cL_reach 110 = .ok (.iconst 1, 1) := by decide +kernel
theorem dL_reach_111 : decode cL_reach 111 = .ok (.goto 4, 3) := by decide +kernel
theorem dL_reach_114 : decode cL_reach 114 = .ok (.iconst 0, 1) := by decide +kernel
theorem dL_reach_115 : decode cL_reach 115 = .ok (.istore 9, 2) := by decide +kernel
theorem dL_reach_117 : decode cL_reach 117 = .ok (.iload 5, 2) := by decide +kernel
theorem dL_reach_119 : decode cL_reach 119 = .ok (.iload 7, 2) := by decide +kernel
theorem dL_reach_121 : decode cL_reach 121 = .ok (.ishr, 1) := by decide +kernel
theorem dL_reach_122 : decode cL_reach 122 = .ok (.iconst 1, 1) := by decide +kernel
theorem dL_reach_123 : decode cL_reach 123 = .ok (.iand, 1) := by decide +kernel
theorem dL_reach_124 : decode cL_reach 124 = .ok (.iconst 1, 1) := by decide +kernel
theorem dL_reach_125 : decode cL_reach 125 = .ok (.if_icmp .ne 17, 3) := by decide +kernel
theorem dL_reach_128 : decode cL_reach 128 = .ok (.iload 9, 2) := by decide +kernel
theorem dL_reach_130 : decode cL_reach 130 = .ok (.ifCond .eq 12, 3) := by decide +kernel
theorem dL_reach_133 : decode cL_reach 133 = .ok (.iload 5, 2) := by decide +kernel
theorem dL_reach_135 : decode cL_reach 135 = .ok (.iconst 1, 1) := by decide +kernel
theorem dL_reach_136 : decode cL_reach 136 = .ok (.iload 8, 2) := by decide +kernel
theorem dL_reach_138 : decode cL_reach 138 = .ok (.ishl, 1) := by decide +kernel
theorem dL_reach_139 : decode cL_reach 139 = .ok (.ior, 1) := by decide +kernel
theorem dL_reach_140 : decode cL_reach 140 = .ok (.istore 5, 2) := by decide +kernel
theorem dL_reach_142 : decode cL_reach 142 = .ok (.iinc 8 1, 3) := by decide +kernel
theorem dL_reach_145 : decode cL_reach 145 = .ok (.goto (-118), 3) := by decide +kernel
theorem dL_reach_148 : decode cL_reach 148 = .ok (.iinc 7 1, 3) := by decide +kernel
theorem dL_reach_151 : decode cL_reach 151 = .ok (.goto (-133), 3) := by decide +kernel
theorem dL_reach_154 : decode cL_reach 154 = .ok (.iinc 6 1, 3) := by decide +kernel
theorem dL_reach_157 : decode cL_reach 157 = .ok (.goto (-149), 3) := by decide +kernel
theorem dL_reach_160 : decode cL_reach 160 = .ok (.iload 5, 2) := by decide +kernel
theorem dL_reach_162 : decode cL_reach 162 = .ok (.ireturn, 1) := by decide +kernel
theorem dL_size_0 : decode cL_size 0 = .ok (.iconst 0, 1) := by decide +kernel
theorem dL_size_1 : decode cL_size 1 = .ok (.istore_n 1, 1) := by decide +kernel
theorem dL_size_2 : decode cL_size 2 = .ok (.iconst 0, 1) := by decide +kernel
theorem dL_size_3 : decode cL_size 3 = .ok (.istore_n 2, 1) := by decide +kernel
theorem dL_size_4 : decode cL_size 4 = .ok (.iload_n 2, 1) := by decide +kernel
theorem dL_size_5 : decode cL_size 5 = .ok (.iconst 5, 1) := by decide +kernel
theorem dL_size_6 : decode cL_size 6 = .ok (.if_icmp .ge 17, 3) := by decide +kernel
theorem dL_size_9 : decode cL_size 9 = .ok (.iload_n 1, 1) := by decide +kernel
theorem dL_size_10 : decode cL_size 10 = .ok (.iload_n 0, 1) := by decide +kernel
theorem dL_size_11 : decode cL_size 11 = .ok (.iload_n 2, 1) := by decide +kernel
theorem dL_size_12 : decode cL_size 12 = .ok (.ishr, 1) := by decide +kernel
theorem dL_size_13 : decode cL_size 13 = .ok (.iconst 1, 1) := by decide +kernel
theorem dL_size_14 : decode cL_size 14 = .ok (.iand, 1) := by decide +kernel
theorem dL_size_15 : decode cL_size 15 = .ok (.iadd, 1) := by decide +kernel
theorem dL_size_16 : decode cL_size 16 = .ok (.istore_n 1, 1) := by decide +kernel
theorem dL_size_17 : decode cL_size 17 = .ok (.iinc 2 1, 3) := by decide +kernel
theorem dL_size_20 : decode cL_size 20 = .ok (.goto (-16), 3) := by decide +kernel
theorem dL_size_23 : decode cL_size 23 = .ok (.iload_n 1, 1) := by decide +kernel
theorem dL_size_24 : decode cL_size 24 = .ok (.ireturn, 1) := by decide +kernel
set_option maxRecDepth 20000 in
theorem ggL_isSurface_L_reach : GoodIn wsL_isSurface wsL_reach := goodIn_r _ [5, 6, 7, 4, 8] (by decide +kernel) (by decide +kernel)
set_option maxRecDepth 20000 in
theorem gL_isSurface_L_reach : GoodIn wsL_isSurface (va_wsS RL 161 yL_reach wsL_reach) := goodIn_app (goodIn_of _ (by decide +kernel)) ggL_isSurface_L_reach
set_option maxRecDepth 20000 in
theorem ggL_isSurface_L_square : GoodIn wsL_isSurface wsL_square := goodIn_ca (goodIn_ca (goodIn_r _ [11, 12, 13, 14, 15, 16, 17, 18, 19, 20, 21, 22, 23, 24, 25, 26, 27, 28, 29, 30, 31, 32, 33, 34, 35, 36, 37, 38, 39, 40, 41, 42, 43, 44, 45, 46, 47, 48, 49, 50, 51, 52, 53, 54, 55, 56, 57, 58, 59, 60, 61, 62, 63, 64, 65, 66, 67, 68, 69, 70, 71, 72, 73, 74, 75, 76, 77, 78, 79, 80, 81, 82, 83, 84, 85, 86, 87, 88, 89, 195, 196, 197, 198, 199, 200, 201, 202, 203, 204, 205, 206, 207, 208] (by decide +kernel) (by decide +kernel)) (goodIn_sub (fun _ h => List.mem_cons_of_mem _ (List.mem_append_left _ (List.mem_append_left _ (List.mem_append_right _ h)))) (by decide +kernel))) (goodIn_sub (fun _ h => List.mem_cons_of_mem _ (List.mem_append_left _ (List.mem_append_right _ h))) (by decide +kernel))
set_option maxRecDepth 20000 in
theorem gL_isSurface_L_square : GoodIn wsL_isSurface (va_wsS RL 165 yL_square wsL_square) := goodIn_app (goodIn_of _ (by decide +kernel)) ggL_isSurface_L_square
set_option maxRecDepth 20000 in
theorem ggL_isSurface_L_before : GoodIn wsL_isSurface wsL_before := goodIn_r _ [8] (by decide +kernel) (by decide +kernel)
set_option maxRecDepth 20000 in
theorem gL_isSurface_L_before : GoodIn wsL_isSurface (va_wsS RL 138 yL_before wsL_before) := goodIn_app (goodIn_of _ (by decide +kernel)) ggL_isSurface_L_before
set_option maxRecDepth 20000 in
theorem ggL_isSurface_L_size : GoodIn wsL_isSurface wsL_size := goodIn_r _ [92] (by decide +kernel) (by decide +kernel)
set_option maxRecDepth 20000 in
theorem gL_isSurface_L_size : GoodIn wsL_isSurface (va_wsS RL 168 yL_size wsL_size) := goodIn_app (goodIn_of _ (by decide +kernel)) ggL_isSurface_L_size
set_option maxRecDepth 20000 in
theorem ggL_isSurface_L_count : GoodIn wsL_isSurface wsL_count := goodIn_ca (goodIn_r _ [95, 13, 96, 97, 98, 17, 99, 19, 31, 32, 33, 34, 35, 20, 21, 22, 23, 24, 25, 100, 101, 102, 103, 62, 63, 64, 65, 66, 67, 68, 69, 70, 71, 72, 73, 57, 52, 47, 40, 41, 42, 74, 75, 76, 77, 37, 38, 39, 78, 79, 80, 81, 82, 44, 45, 46, 195, 196, 197, 198, 199, 200, 201, 202, 203, 204, 205, 206, 207, 208] (by decide +kernel) (by decide +kernel)) (goodIn_sub (fun _ h => List.mem_cons_of_mem _ (List.mem_append_left _ (List.mem_append_right _ h))) (by decide +kernel))
set_option maxRecDepth 20000 in
theorem gL_isSurface_L_count : GoodIn wsL_isSurface (va_wsS RL 171 yL_count wsL_count) := goodIn_app (goodIn_of _ (by decide +kernel)) ggL_isSurface_L_count
set_option maxRecDepth 20000 in
theorem ggL_isSurface_L_genus : GoodIn wsL_isSurface wsL_genus := goodIn_ca (goodIn_r _ [106, 107, 108, 109, 110, 17, 111, 112, 113, 19, 100, 101, 102, 23, 103, 25, 62, 63, 64, 65, 66, 67, 68, 69, 70, 71, 72, 73, 57, 52, 47, 40, 41, 42, 74, 75, 76, 77, 37, 38, 39, 78, 79, 80, 81, 82, 44, 45, 46, 20, 21, 22, 24, 195, 196, 197, 198, 199, 200, 201, 202, 203, 204, 205, 206, 207, 208] (by decide +kernel) (by decide +kernel)) (goodIn_sub (fun _ h => List.mem_cons_of_mem _ (List.mem_append_right _ h)) (by decide +kernel))
set_option maxRecDepth 20000 in
theorem gL_isSurface_L_genus : GoodIn wsL_isSurface (va_wsS RL 174 yL_genus wsL_genus) := goodIn_app (goodIn_of _ (by decide +kernel)) ggL_isSurface_L_genus
set_option maxRecDepth 20000 in
theorem ggL_isSurface_X6_code : GoodIn wsL_isSurface wsX6_code := goodIn_r _ [117, 19, 118, 119, 120, 23, 121, 122, 25, 83, 84, 85, 86, 87, 88, 89, 123, 124, 125, 126, 127, 128, 129, 130, 131, 132, 133, 134, 135, 136, 137, 138, 17, 139, 41, 42, 77, 37, 38, 39, 40, 82, 44, 45, 46, 47, 195, 196, 197, 198, 199, 200, 201, 202, 203, 204, 205, 206, 207, 208] (by decide +kernel) (by decide +kernel)
set_option maxRecDepth 20000 in
theorem gL_isSurface_X6_code : GoodIn wsL_isSurface (wsV RL 177 RX6 yX6_code wsX6_code) := goodIn_app (goodIn_of _ (by decide +kernel)) ggL_isSurface_X6_code
set_option maxRecDepth 20000 in
theorem ggL_isSurface_L_codeOf : GoodIn wsL_isSurface wsL_codeOf := goodIn_r _ [142, 1, 143, 6, 7, 4, 8, 144, 145, 146] (by decide +kernel) (by decide +kernel)
set_option maxRecDepth 20000 in
theorem gL_isSurface_L_codeOf : GoodIn wsL_isSurface (va_wsS RL 146 yL_codeOf wsL_codeOf) := goodIn_app (goodIn_of _ (by decide +kernel)) ggL_isSurface_L_codeOf
set_option maxRecDepth 20000 in
theorem ggL_isSurface_X6_kin : GoodIn wsL_isSurface wsX6_kin := goodIn_r _ [150, 151, 19, 118, 119, 120, 23, 121, 122, 25, 83, 84, 85, 86, 87, 88, 89, 123, 124, 125, 126, 127, 128, 129, 130, 131, 132, 133, 134, 135, 136, 137, 138, 17, 139, 41, 42, 77, 37, 38, 39, 40, 82, 44, 45, 46, 47, 20, 21, 22, 24, 152, 153, 154, 155, 156, 157, 158, 159, 160, 161, 162, 163, 164, 165, 166, 167, 168, 169, 170, 171, 52, 57, 172, 173, 174, 175, 176, 177, 178, 179, 180, 181, 182, 49, 50, 51, 195, 196, 197, 198, 199, 200, 201, 202, 203, 204, 205, 206, 207, 208, 209, 210, 211] (by decide +kernel) (by decide +kernel)
set_option maxRecDepth 20000 in
theorem gL_isSurface_X6_kin : GoodIn wsL_isSurface (wsV RL 180 RX6 yX6_kin wsX6_kin) := goodIn_app (goodIn_of _ (by decide +kernel)) ggL_isSurface_X6_kin
set_option maxRecDepth 20000 in
theorem ggL_isSurface_L_kinOf : GoodIn wsL_isSurface wsL_kinOf := goodIn_r _ [185, 1, 140, 141, 4, 142, 143, 6, 7, 8, 144, 145, 146, 186, 187, 188, 189, 190, 191, 192, 193, 194] (by decide +kernel) (by decide +kernel)
set_option maxRecDepth 20000 in
theorem gL_isSurface_L_kinOf : GoodIn wsL_isSurface (va_wsS RL 183 yL_kinOf wsL_kinOf) := goodIn_app (goodIn_of _ (by decide +kernel)) ggL_isSurface_L_kinOf
theorem dL_isSurface_0 : decode cL_isSurface 0 = .ok (.iconst 0, 1) := by decide +kernel
theorem dL_isSurface_1 : decode cL_isSurface 1 = .ok (.istore 5, 2) := by decide +kernel
theorem dL_isSurface_3 : decode cL_isSurface 3 = .ok (.iconst 0, 1) := by decide +kernel
theorem dL_isSurface_4 : decode cL_isSurface 4 = .ok (.istore 6, 2) := by decide +kernel
theorem dL_isSurface_6 : decode cL_isSurface 6 = .ok (.iconst 0, 1) := by decide +kernel
theorem dL_isSurface_7 : decode cL_isSurface 7 = .ok (.istore 7, 2) := by decide +kernel
theorem dL_isSurface_9 : decode cL_isSurface 9 = .ok (.iconst 5, 1) := by decide +kernel
theorem dL_isSurface_10 : decode cL_isSurface 10 = .ok (.newarray .int, 2) := by decide +kernel
theorem dL_isSurface_12 : decode cL_isSurface 12 = .ok (.astore 8, 2) := by decide +kernel
theorem dL_isSurface_14 : decode cL_isSurface 14 = .ok (.iconst 5, 1) := by decide +kernel
theorem dL_isSurface_15 : decode cL_isSurface 15 = .ok (.newarray .int, 2) := by decide +kernel
theorem dL_isSurface_17 : decode cL_isSurface 17 = .ok (.astore 9, 2) := by decide +kernel
theorem dL_isSurface_19 : decode cL_isSurface 19 = .ok (.iconst 0, 1) := by decide +kernel
theorem dL_isSurface_20 : decode cL_isSurface 20 = .ok (.istore 10, 2) := by decide +kernel
theorem dL_isSurface_22 : decode cL_isSurface 22 = .ok (.iload 10, 2) := by decide +kernel
theorem dL_isSurface_24 : decode cL_isSurface 24 = .ok (.iload_n 1, 1) := by decide +kernel
theorem dL_isSurface_25 : decode cL_isSurface 25 = .ok (.if_icmp .ge 225, 3) := by decide +kernel
theorem dL_isSurface_28 : decode cL_isSurface 28 = .ok (.iload 10, 2) := by decide +kernel
theorem dL_isSurface_30 : decode cL_isSurface 30 = .ok (.iconst 4, 1) := by decide +kernel
theorem dL_isSurface_31 : decode cL_isSurface 31 = .ok (.iload_n 1, 1) := by decide +kernel
theorem dL_isSurface_32 : decode cL_isSurface 32 = .ok (.aload_n 2, 1) := by decide +kernel
theorem dL_isSurface_33 : decode cL_isSurface 33 = .ok (.aload_n 3, 1) := by decide +kernel
theorem dL_isSurface_34 : decode cL_isSurface 34 = .ok (.invokestatic 161, 3) := by decide +kernel
theorem dL_isSurface_37 : decode cL_isSurface 37 = .ok (.istore 11, 2) := by decide +kernel
theorem dL_isSurface_39 : decode cL_isSurface 39 = .ok (.iload 10, 2) := by decide +kernel
theorem dL_isSurface_41 : decode cL_isSurface 41 = .ok (.iconst 3, 1) := by decide +kernel
theorem dL_isSurface_42 : decode cL_isSurface 42 = .ok (.iload_n 1, 1) := by decide +kernel
theorem dL_isSurface_43 : decode cL_isSurface 43 = .ok (.aload_n 2, 1) := by decide +kernel
theorem dL_isSurface_44 : decode cL_isSurface 44 = .ok (.aload_n 3, 1) := by decide +kernel
theorem dL_isSurface_45 : decode cL_isSurface 45 = .ok (.invokestatic 161, 3) := by decide +kernel
theorem dL_isSurface_48 : decode cL_isSurface 48 = .ok (.istore 12, 2) := by decide +kernel
theorem dL_isSurface_50 : decode cL_isSurface 50 = .ok (.aload 8, 2) := by decide +kernel
theorem dL_isSurface_52 : decode cL_isSurface 52 = .ok (.iload 10, 2) := by decide +kernel
theorem dL_isSurface_54 : decode cL_isSurface 54 = .ok (.iload 10, 2) := by decide +kernel
theorem dL_isSurface_56 : decode cL_isSurface 56 = .ok (.iconst 1, 1) := by decide +kernel
theorem dL_isSurface_57 : decode cL_isSurface 57 = .ok (.iload_n 1, 1) := by decide +kernel
theorem dL_isSurface_58 : decode cL_isSurface 58 = .ok (.aload_n 2, 1) := by decide +kernel
theorem dL_isSurface_59 : decode cL_isSurface 59 = .ok (.aload_n 3, 1) := by decide +kernel
theorem dL_isSurface_60 : decode cL_isSurface 60 = .ok (.invokestatic 161, 3) := by decide +kernel
theorem dL_isSurface_63 : decode cL_isSurface 63 = .ok (.iastore, 1) := by decide +kernel
theorem dL_isSurface_64 : decode cL_isSurface 64 = .ok (.iload 5, 2) := by decide +kernel
theorem dL_isSurface_66 : decode cL_isSurface 66 = .ok (.iload 11, 2) := by decide +kernel
theorem dL_isSurface_68 : decode cL_isSurface 68 = .ok (.iconst 1, 1) := by decide +kernel
theorem dL_isSurface_69 : decode cL_isSurface 69 = .ok (.iload 10, 2) := by decide +kernel
theorem dL_isSurface_71 : decode cL_isSurface 71 = .ok (.ishl, 1) := by decide +kernel
theorem dL_isSurface_72 : decode cL_isSurface 72 = .ok (.iconst 1, 1) := by decide +kernel
theorem dL_isSurface_73 : decode cL_isSurface 73 = .ok (.isub, 1) := by decide +kernel
theorem dL_isSurface_74 : decode cL_isSurface 74 = .ok (.iand, 1) := by decide +kernel
theorem dL_isSurface_75 : decode cL_isSurface 75 = .ok (.ifCond .ne 7, 3) := by decide +kernel
theorem dL_isSurface_78 : decode cL_isSurface 78 = .ok (.iconst 1, 1) := by decide +kernel
theorem dL_isSurface_79 : decode cL_isSurface 79 = .ok (.goto 4, 3) := by decide +kernel
theorem dL_isSurface_82 : decode cL_isSurface 82 = .ok (.iconst 0, 1) := by decide +kernel
theorem dL_isSurface_83 : decode cL_isSurface 83 = .ok (.iadd, 1) := by decide +kernel
theorem dL_isSurface_84 : decode cL_isSurface 84 = .ok (.istore 5, 2) := by decide +kernel
theorem dL_isSurface_86 : decode cL_isSurface 86 = .ok (.iload 6, 2) := by decide +kernel
theorem dL_isSurface_88 : decode cL_isSurface 88 = .ok (.iload 12, 2) := by decide +kernel
theorem dL_isSurface_90 : decode cL_isSurface 90 = .ok (.iconst 1, 1) := by decide +kernel
theorem dL_isSurface_91 : decode cL_isSurface 91 = .ok (.iload 10, 2) := by decide +kernel
theorem dL_isSurface_93 : decode cL_isSurface 93 = .ok (.ishl, 1) := by decide +kernel
theorem dL_isSurface_94 : decode cL_isSurface 94 = .ok (.iconst 1, 1) := by decide +kernel
theorem dL_isSurface_95 : decode cL_isSurface 95 = .ok (.isub, 1) := by decide +kernel
theorem dL_isSurface_96 : decode cL_isSurface 96 = .ok (.iand, 1) := by decide +kernel
theorem dL_isSurface_97 : decode cL_isSurface 97 = .ok (.ifCond .ne 7, 3) := by decide +kernel
theorem dL_isSurface_100 : decode cL_isSurface 100 = .ok (.iconst 1, 1) := by decide +kernel
theorem dL_isSurface_101 : decode cL_isSurface 101 = .ok (.goto 4, 3) := by decide +kernel
theorem dL_isSurface_104 : decode cL_isSurface 104 = .ok (.iconst 0, 1) := by decide +kernel
theorem dL_isSurface_105 : decode cL_isSurface 105 = .ok (.iadd, 1) := by decide +kernel
theorem dL_isSurface_106 : decode cL_isSurface 106 = .ok (.istore 6, 2) := by decide +kernel
theorem dL_isSurface_108 : decode cL_isSurface 108 = .ok (.iload 7, 2) := by decide +kernel
theorem dL_isSurface_110 : decode cL_isSurface 110 = .ok (.aload 8, 2) := by decide +kernel
theorem dL_isSurface_112 : decode cL_isSurface 112 = .ok (.iload 10, 2) := by decide +kernel
theorem dL_isSurface_114 : decode cL_isSurface 114 = .ok (.iaload, 1) := by decide +kernel
theorem dL_isSurface_115 : decode cL_isSurface 115 = .ok (.iconst 1, 1) := by decide +kernel
theorem dL_isSurface_116 : decode cL_isSurface 116 = .ok (.iload 10, 2) := by decide +kernel
theorem dL_isSurface_118 : decode cL_isSurface 118 = .ok (.ishl, 1) := by decide +kernel
theorem dL_isSurface_119 : decode cL_isSurface 119 = .ok (.iconst 1, 1) := by decide +kernel
theorem dL_isSurface_120 : decode cL_isSurface 120 = .ok (.isub, 1) := by decide +kernel
theorem dL_isSurface_121 : decode cL_isSurface 121 = .ok (.iand, 1) := by decide +kernel
theorem dL_isSurface_122 : decode cL_isSurface 122 = .ok (.ifCond .ne 7, 3) := by decide +kernel
theorem dL_isSurface_125 : decode cL_isSurface 125 = .ok (.iconst 1, 1) := by decide +kernel
theorem dL_isSurface_126 : decode cL_isSurface 126 = .ok (.goto 4, 3) := by decide +kernel
theorem dL_isSurface_129 : decode cL_isSurface 129 = .ok (.iconst 0, 1) := by decide +kernel
theorem dL_isSurface_130 : decode cL_isSurface 130 = .ok (.iadd, 1) := by decide +kernel
theorem dL_isSurface_131 : decode cL_isSurface 131 = .ok (.istore 7, 2) := by decide +kernel
theorem dL_isSurface_133 : decode cL_isSurface 133 = .ok (.aload_n 0, 1) := by decide +kernel
theorem dL_isSurface_134 : decode cL_isSurface 134 = .ok (.iload 10, 2) := by decide +kernel
theorem dL_isSurface_136 : decode cL_isSurface 136 = .ok (.iconst 0, 1) := by decide +kernel
theorem dL_isSurface_137 : decode cL_isSurface 137 = .ok (.invokestatic 165, 3) := by decide +kernel
theorem dL_isSurface_140 : decode cL_isSurface 140 = .ok (.aload_n 2, 1) := by decide +kernel
theorem dL_isSurface_141 : decode cL_isSurface 141 = .ok (.iload 10, 2) := by decide +kernel
theorem dL_isSurface_143 : decode cL_isSurface 143 = .ok (.iaload, 1) := by decide +kernel
theorem dL_isSurface_144 : decode cL_isSurface 144 = .ok (.if_icmp .ne 98, 3) := by decide +kernel
theorem dL_isSurface_147 : decode cL_isSurface 147 = .ok (.aload_n 0, 1) := by decide +kernel
theorem dL_isSurface_148 : decode cL_isSurface 148 = .ok (.iload 10, 2) := by decide +kernel
theorem dL_isSurface_150 : decode cL_isSurface 150 = .ok (.iconst 1, 1) := by decide +kernel
theorem dL_isSurface_151 : decode cL_isSurface 151 = .ok (.invokestatic 165, 3) := by decide +kernel
theorem dL_isSurface_154 : decode cL_isSurface 154 = .ok (.aload_n 3, 1) := by decide +kernel
theorem dL_isSurface_155 : decode cL_isSurface 155 = .ok (.iload 10, 2) := by decide +kernel
theorem dL_isSurface_157 : decode cL_isSurface 157 = .ok (.iaload, 1) := by decide +kernel
theorem dL_isSurface_158 : decode cL_isSurface 158 = .ok (.if_icmp .ne 84, 3) := by decide +kernel
theorem dL_isSurface_161 : decode cL_isSurface 161 = .ok (.aload_n 0, 1) := by decide +kernel
theorem dL_isSurface_162 : decode cL_isSurface 162 = .ok (.iload 10, 2) := by decide +kernel
theorem dL_isSurface_164 : decode cL_isSurface 164 = .ok (.iconst 2, 1) := by decide +kernel
theorem dL_isSurface_165 : decode cL_isSurface 165 = .ok (.invokestatic 165, 3) := by decide +kernel
theorem dL_isSurface_168 : decode cL_isSurface 168 = .ok (.iload 10, 2) := by decide +kernel
theorem dL_isSurface_170 : decode cL_isSurface 170 = .ok (.aload_n 2, 1) := by decide +kernel
theorem dL_isSurface_171 : decode cL_isSurface 171 = .ok (.invokestatic 138, 3) := by decide +kernel
theorem dL_isSurface_174 : decode cL_isSurface 174 = .ok (.if_icmp .ne 68, 3) := by decide +kernel
theorem dL_isSurface_177 : decode cL_isSurface 177 = .ok (.aload_n 0, 1) := by decide +kernel
theorem dL_isSurface_178 : decode cL_isSurface 178 = .ok (.iload 10, 2) := by decide +kernel
theorem dL_isSurface_180 : decode cL_isSurface 180 = .ok (.iconst 3, 1) := by decide +kernel
theorem dL_isSurface_181 : decode cL_isSurface 181 = .ok (.invokestatic 165, 3) := by decide +kernel
theorem dL_isSurface_184 : decode cL_isSurface 184 = .ok (.iload 10, 2) := by decide +kernel
theorem dL_isSurface_186 : decode cL_isSurface 186 = .ok (.aload_n 3, 1) := by decide +kernel
theorem dL_isSurface_187 : decode cL_isSurface 187 = .ok (.invokestatic 138, 3) := by decide +kernel
theorem dL_isSurface_190 : decode cL_isSurface 190 = .ok (.if_icmp .ne 52, 3) := by decide +kernel
theorem dL_isSurface_193 : decode cL_isSurface 193 = .ok (.aload_n 0, 1) := by decide +kernel
theorem dL_isSurface_194 : decode cL_isSurface 194 = .ok (.iload 10, 2) := by decide +kernel
theorem dL_isSurface_196 : decode cL_isSurface 196 = .ok (.iconst 4, 1) := by decide +kernel
theorem dL_isSurface_197 : decode cL_isSurface 197 = .ok (.invokestatic 165, 3) := by decide +kernel
theorem dL_isSurface_200 : decode cL_isSurface 200 = .ok (.iload 11, 2) := by decide +kernel
theorem dL_isSurface_202 : decode cL_isSurface 202 = .ok (.invokestatic 168, 3) := by decide +kernel
theorem dL_isSurface_205 : decode cL_isSurface 205 = .ok (.if_icmp .ne 37, 3) := by decide +kernel
theorem dL_isSurface_208 : decode cL_isSurface 208 = .ok (.aload_n 0, 1) := by decide +kernel
theorem dL_isSurface_209 : decode cL_isSurface 209 = .ok (.iload 10, 2) := by decide +kernel
theorem dL_isSurface_211 : decode cL_isSurface 211 = .ok (.iconst 5, 1) := by decide +kernel
theorem dL_isSurface_212 : decode cL_isSurface 212 = .ok (.invokestatic 165, 3) := by decide +kernel
theorem dL_isSurface_215 : decode cL_isSurface 215 = .ok (.iload 12, 2) := by decide +kernel
theorem dL_isSurface_217 : decode cL_isSurface 217 = .ok (.invokestatic 168, 3) := by decide +kernel
theorem dL_isSurface_220 : decode cL_isSurface 220 = .ok (.if_icmp .ne 22, 3) := by decide +kernel
theorem dL_isSurface_223 : decode cL_isSurface 223 = .ok (.aload_n 0, 1) := by decide +kernel
theorem dL_isSurface_224 : decode cL_isSurface 224 = .ok (.iload 10, 2) := by decide +kernel
theorem dL_isSurface_226 : decode cL_isSurface 226 = .ok (.bipush 6, 2) := by decide +kernel
theorem dL_isSurface_228 : decode cL_isSurface 228 = .ok (.invokestatic 165, 3) := by decide +kernel
theorem dL_isSurface_231 : decode cL_isSurface 231 = .ok (.aload 8, 2) := by decide +kernel
theorem dL_isSurface_233 : decode cL_isSurface 233 = .ok (.iload 10, 2) := by decide +kernel
theorem dL_isSurface_235 : decode cL_isSurface 235 = .ok (.iaload, 1) := by decide +kernel
theorem dL_isSurface_236 : decode cL_isSurface 236 = .ok (.invokestatic 168, 3) := by decide +kernel
theorem dL_isSurface_239 : decode cL_isSurface 239 = .ok (.if_icmp .eq 5, 3) := by decide +kernel
theorem dL_isSurface_242 : decode cL_isSurface 242 = .ok (.iconst 0, 1) := by decide +kernel
theorem dL_isSurface_243 : decode cL_isSurface 243 = .ok (.ireturn, 1) := by decide +kernel
theorem dL_isSurface_244 : decode cL_isSurface 244 = .ok (.iinc 10 1, 3) := by decide +kernel
theorem dL_isSurface_247 : decode cL_isSurface 247 = .ok (.goto (-225), 3) := by decide +kernel
theorem dL_isSurface_250 : decode cL_isSurface 250 = .ok (.iconst 0, 1) := by decide +kernel
theorem dL_isSurface_251 : decode cL_isSurface 251 = .ok (.istore 10, 2) := by decide +kernel
theorem dL_isSurface_253 : decode cL_isSurface 253 = .ok (.iload 10, 2) := by decide +kernel
theorem dL_isSurface_255 : decode cL_isSurface 255 = .ok (.iload_n 1, 1) := by decide +kernel
theorem dL_isSurface_256 : decode cL_isSurface 256 = .ok (.if_icmp .ge 69, 3) := by decide +kernel
theorem dL_isSurface_259 : decode cL_isSurface 259 = .ok (.aload 9, 2) := by decide +kernel
theorem dL_isSurface_261 : decode cL_isSurface 261 = .ok (.iload 10, 2) := by decide +kernel
theorem dL_isSurface_263 : decode cL_isSurface 263 = .ok (.iconst 1, 1) := by decide +kernel
theorem dL_isSurface_264 : decode cL_isSurface 264 = .ok (.iastore, 1) := by decide +kernel
theorem dL_isSurface_265 : decode cL_isSurface 265 = .ok (.iconst 0, 1) := by decide +kernel
theorem dL_isSurface_266 : decode cL_isSurface 266 = .ok (.istore 11, 2) := by decide +kernel
theorem dL_isSurface_268 : decode cL_isSurface 268 = .ok (.iload 11, 2) := by decide +kernel
theorem dL_isSurface_270 : decode cL_isSurface 270 = .ok (.iload_n 1, 1) := by decide +kernel
theorem dL_isSurface_271 : decode cL_isSurface 271 = .ok (.if_icmp .ge 48, 3) := by decide +kernel
theorem dL_isSurface_274 : decode cL_isSurface 274 = .ok (.aload 8, 2) := by decide +kernel
theorem dL_isSurface_276 : decode cL_isSurface 276 = .ok (.iload 10, 2) := by decide +kernel
theorem dL_isSurface_278 : decode cL_isSurface 278 = .ok (.iaload, 1) := by decide +kernel
theorem dL_isSurface_279 : decode cL_isSurface 279 = .ok (.iload 11, 2) := by decide +kernel
theorem dL_isSurface_281 : decode cL_isSurface 281 = .ok (.ishr, 1) := by decide +kernel
theorem dL_isSurface_282 : decode cL_isSurface 282 = .ok (.iconst 1, 1) := by decide +kernel
theorem dL_isSurface_283 : decode cL_isSurface 283 = .ok (.iand, 1) := by decide +kernel
theorem dL_isSurface_284 : decode cL_isSurface 284 = .ok (.iconst 1, 1) := by decide +kernel
theorem dL_isSurface_285 : decode cL_isSurface 285 = .ok (.if_icmp .ne 28, 3) := by decide +kernel
theorem dL_isSurface_288 : decode cL_isSurface 288 = .ok (.aload_n 3, 1) := by decide +kernel
theorem dL_isSurface_289 : decode cL_isSurface 289 = .ok (.aload_n 2, 1) := by decide +kernel
theorem dL_isSurface_290 : decode cL_isSurface 290 = .ok (.iload 11, 2) := by decide +kernel
theorem dL_isSurface_292 : decode cL_isSurface 292 = .ok (.iaload, 1) := by decide +kernel
theorem dL_isSurface_293 : decode cL_isSurface 293 = .ok (.iaload, 1) := by decide +kernel
theorem dL_isSurface_294 : decode cL_isSurface 294 = .ok (.aload_n 2, 1) := by decide +kernel
theorem dL_isSurface_295 : decode cL_isSurface 295 = .ok (.invokestatic 138, 3) := by decide +kernel
theorem dL_isSurface_298 : decode cL_isSurface 298 = .ok (.aload_n 3, 1) := by decide +kernel
theorem dL_isSurface_299 : decode cL_isSurface 299 = .ok (.invokestatic 138, 3) := by decide +kernel
theorem dL_isSurface_302 : decode cL_isSurface 302 = .ok (.iload 11, 2) := by decide +kernel
theorem dL_isSurface_304 : decode cL_isSurface 304 = .ok (.if_icmp .eq 9, 3) := by decide +kernel
theorem dL_isSurface_307 : decode cL_isSurface 307 = .ok (.aload 9, 2) := by decide +kernel
theorem dL_isSurface_309 : decode cL_isSurface 309 = .ok (.iload 10, 2) := by decide +kernel
theorem dL_isSurface_311 : decode cL_isSurface 311 = .ok (.iconst 0, 1) := by decide +kernel
theorem dL_isSurface_312 : decode cL_isSurface 312 = .ok (.iastore, 1) := by decide +kernel
theorem dL_isSurface_313 : decode cL_isSurface 313 = .ok (.iinc 11 1, 3) := by decide +kernel
theorem dL_isSurface_316 : decode cL_isSurface 316 = .ok (.goto (-48), 3) := by decide +kernel
theorem dL_isSurface_319 : decode cL_isSurface 319 = .ok (.iinc 10 1, 3) := by decide +kernel
theorem dL_isSurface_322 : decode cL_isSurface 322 = .ok (.goto (-69), 3) := by decide +kernel
theorem dL_isSurface_325 : decode cL_isSurface 325 = .ok (.iconst 0, 1) := by decide +kernel
theorem dL_isSurface_326 : decode cL_isSurface 326 = .ok (.istore 10, 2) := by decide +kernel
theorem dL_isSurface_328 : decode cL_isSurface 328 = .ok (.iconst 0, 1) := by decide +kernel
theorem dL_isSurface_329 : decode cL_isSurface 329 = .ok (.istore 11, 2) := by decide +kernel
theorem dL_isSurface_331 : decode cL_isSurface 331 = .ok (.iconst 0, 1) := by decide +kernel
theorem dL_isSurface_332 : decode cL_isSurface 332 = .ok (.istore 12, 2) := by decide +kernel
theorem dL_isSurface_334 : decode cL_isSurface 334 = .ok (.iload 12, 2) := by decide +kernel
theorem dL_isSurface_336 : decode cL_isSurface 336 = .ok (.iload_n 1, 1) := by decide +kernel
theorem dL_isSurface_337 : decode cL_isSurface 337 = .ok (.if_icmp .ge 122, 3) := by decide +kernel
theorem dL_isSurface_340 : decode cL_isSurface 340 = .ok (.iload 11, 2) := by decide +kernel
theorem dL_isSurface_342 : decode cL_isSurface 342 = .ok (.iload 12, 2) := by decide +kernel
theorem dL_isSurface_344 : decode cL_isSurface 344 = .ok (.ishr, 1) := by decide +kernel
theorem dL_isSurface_345 : decode cL_isSurface 345 = .ok (.iconst 1, 1) := by decide +kernel
theorem dL_isSurface_346 : decode cL_isSurface 346 = .ok (.iand, 1) := by decide +kernel
theorem dL_isSurface_347 : decode cL_isSurface 347 = .ok (.iconst 1, 1) := by decide +kernel
theorem dL_isSurface_348 : decode cL_isSurface 348 = .ok (.if_icmp .ne 6, 3) := by decide +kernel
theorem dL_isSurface_351 : decode cL_isSurface 351 = .ok (.goto 102, 3) := by decide +kernel
theorem dL_isSurface_354 : decode cL_isSurface 354 = .ok (.iinc 10 1, 3) := by decide +kernel
theorem dL_isSurface_357 : decode cL_isSurface 357 = .ok (.aload 8, 2) := by decide +kernel
theorem dL_isSurface_359 : decode cL_isSurface 359 = .ok (.iload 12, 2) := by decide +kernel
theorem dL_isSurface_361 : decode cL_isSurface 361 = .ok (.iaload, 1) := by decide +kernel
theorem dL_isSurface_362 : decode cL_isSurface 362 = .ok (.istore 13, 2) := by decide +kernel
theorem dL_isSurface_364 : decode cL_isSurface 364 = .ok (.iconst 0, 1) := by decide +kernel
theorem dL_isSurface_365 : decode cL_isSurface 365 = .ok (.istore 14, 2) := by decide +kernel
theorem dL_isSurface_367 : decode cL_isSurface 367 = .ok (.iload 14, 2) := by decide +kernel
theorem dL_isSurface_369 : decode cL_isSurface 369 = .ok (.bipush 10, 2) := by decide +kernel
theorem dL_isSurface_371 : decode cL_isSurface 371 = .ok (.if_icmp .ge 75, 3) := by decide +kernel
theorem dL_isSurface_374 : decode cL_isSurface 374 = .ok (.iconst 0, 1) := by decide +kernel
theorem dL_isSurface_375 : decode cL_isSurface 375 = .ok (.istore 15, 2) := by decide +kernel
theorem dL_isSurface_377 : decode cL_isSurface 377 = .ok (.iload 15, 2) := by decide +kernel
theorem dL_isSurface_379 : decode cL_isSurface 379 = .ok (.iload_n 1, 1) := by decide +kernel
theorem dL_isSurface_380 : decode cL_isSurface 380 = .ok (.if_icmp .ge 60, 3) := by decide +kernel
theorem dL_isSurface_383 : decode cL_isSurface 383 = .ok (.aload 9, 2) := by decide +kernel
theorem dL_isSurface_385 : decode cL_isSurface 385 = .ok (.iload 15, 2) := by decide +kernel
theorem dL_isSurface_387 : decode cL_isSurface 387 = .ok (.iaload, 1) := by decide +kernel
theorem dL_isSurface_388 : decode cL_isSurface 388 = .ok (.iconst 1, 1) := by decide +kernel
theorem dL_isSurface_389 : decode cL_isSurface 389 = .ok (.if_icmp .ne 45, 3) := by decide +kernel
theorem dL_isSurface_392 : decode cL_isSurface 392 = .ok (.iload 13, 2) := by decide +kernel
theorem dL_isSurface_394 : decode cL_isSurface 394 = .ok (.iload 15, 2) := by decide +kernel
theorem dL_isSurface_396 : decode cL_isSurface 396 = .ok (.ishr, 1) := by decide +kernel
theorem dL_isSurface_397 : decode cL_isSurface 397 = .ok (.iconst 1, 1) := by decide +kernel
theorem dL_isSurface_398 : decode cL_isSurface 398 = .ok (.iand, 1) := by decide +kernel
theorem dL_isSurface_399 : decode cL_isSurface 399 = .ok (.iconst 1, 1) := by decide +kernel
theorem dL_isSurface_400 : decode cL_isSurface 400 = .ok (.if_icmp .eq 16, 3) := by decide +kernel
theorem dL_isSurface_403 : decode cL_isSurface 403 = .ok (.iload 13, 2) := by decide +kernel
theorem dL_isSurface_405 : decode cL_isSurface 405 = .ok (.aload_n 3, 1) := by decide +kernel
theorem dL_isSurface_406 : decode cL_isSurface 406 = .ok (.iload 15, 2) := by decide +kernel
theorem dL_isSurface_408 : decode cL_isSurface 408 = .ok (.iaload, 1) := by decide +kernel
theorem dL_isSurface_409 : decode cL_isSurface 409 = .ok (.ishr, 1) := by decide +kernel
theorem dL_isSurface_410 : decode cL_isSurface 410 = .ok (.iconst 1, 1) := by decide +kernel
theorem dL_isSurface_411 : decode cL_isSurface 411 = .ok (.iand, 1) := by decide +kernel
theorem dL_isSurface_412 : decode cL_isSurface 412 = .ok (.iconst 1, 1) := by decide +kernel
theorem dL_isSurface_413 : decode cL_isSurface 413 = .ok (.if_icmp .ne 21, 3) := by decide +kernel
theorem dL_isSurface_416 : decode cL_isSurface 416 = .ok (.iload 13, 2) := by decide +kernel
theorem dL_isSurface_418 : decode cL_isSurface 418 = .ok (.aload 8, 2) := by decide +kernel
theorem dL_isSurface_420 : decode cL_isSurface 420 = .ok (.iload 15, 2) := by decide +kernel
theorem dL_isSurface_422 : decode cL_isSurface 422 = .ok (.iaload, 1) := by decide +kernel
theorem dL_isSurface_423 : decode cL_isSurface 423 = .ok (.aload 8, 2) := by decide +kernel
theorem dL_isSurface_425 : decode cL_isSurface 425 = .ok (.aload_n 3, 1) := by decide +kernel
theorem dL_isSurface_426 : decode cL_isSurface 426 = .ok (.iload 15, 2) := by decide +kernel
theorem dL_isSurface_428 : decode cL_isSurface 428 = .ok (.iaload, 1) := by decide +kernel
theorem dL_isSurface_429 : decode cL_isSurface 429 = .ok (.iaload, 1) := by decide +kernel
theorem dL_isSurface_430 : decode cL_isSurface 430 = .ok (.ior, 1) := by decide +kernel
theorem dL_isSurface_431 : decode cL_isSurface 431 = .ok (.ior, 1) := by decide +kernel
theorem dL_isSurface_432 : decode cL_isSurface 432 = .ok (.istore 13, 2) := by decide +kernel
theorem dL_isSurface_434 : decode cL_isSurface 434 = .ok (.iinc 15 1, 3) := by decide +kernel
theorem dL_isSurface_437 : decode cL_isSurface 437 = .ok (.goto (-60), 3) := by decide +kernel
theorem dL_isSurface_440 : decode cL_isSurface 440 = .ok (.iinc 14 1, 3) := by decide +kernel
theorem dL_isSurface_443 : decode cL_isSurface 443 = .ok (.goto (-76), 3) := by decide +kernel
theorem dL_isSurface_446 : decode cL_isSurface 446 = .ok (.iload 11, 2) := by decide +kernel
theorem dL_isSurface_448 : decode cL_isSurface 448 = .ok (.iload 13, 2) := by decide +kernel
theorem dL_isSurface_450 : decode cL_isSurface 450 = .ok (.ior, 1) := by decide +kernel
theorem dL_isSurface_451 : decode cL_isSurface 451 = .ok (.istore 11, 2) := by decide +kernel
theorem dL_isSurface_453 : decode cL_isSurface 453 = .ok (.iinc 12 1, 3) := by decide +kernel
theorem dL_isSurface_456 : decode cL_isSurface 456 = .ok (.goto (-122), 3) := by decide +kernel
theorem dL_isSurface_459 : decode cL_isSurface 459 = .ok (.aload_n 0, 1) := by decide +kernel
theorem dL_isSurface_460 : decode cL_isSurface 460 = .ok (.iconst 0, 1) := by decide +kernel
theorem dL_isSurface_461 : decode cL_isSurface 461 = .ok (.invokestatic 171, 3) := by decide +kernel
theorem dL_isSurface_464 : decode cL_isSurface 464 = .ok (.iload_n 1, 1) := by decide +kernel
theorem dL_isSurface_465 : decode cL_isSurface 465 = .ok (.if_icmp .ne 83, 3) := by decide +kernel
theorem dL_isSurface_468 : decode cL_isSurface 468 = .ok (.aload_n 0, 1) := by decide +kernel
theorem dL_isSurface_469 : decode cL_isSurface 469 = .ok (.iconst 1, 1) := by decide +kernel
theorem dL_isSurface_470 : decode cL_isSurface 470 = .ok (.invokestatic 171, 3) := by decide +kernel
theorem dL_isSurface_473 : decode cL_isSurface 473 = .ok (.iload 5, 2) := by decide +kernel
theorem dL_isSurface_475 : decode cL_isSurface 475 = .ok (.if_icmp .ne 73, 3) := by decide +kernel
theorem dL_isSurface_478 : decode cL_isSurface 478 = .ok (.aload_n 0, 1) := by decide +kernel
theorem dL_isSurface_479 : decode cL_isSurface 479 = .ok (.iconst 2, 1) := by decide +kernel
theorem dL_isSurface_480 : decode cL_isSurface 480 = .ok (.invokestatic 171, 3) := by decide +kernel
theorem dL_isSurface_483 : decode cL_isSurface 483 = .ok (.iload 6, 2) := by decide +kernel
theorem dL_isSurface_485 : decode cL_isSurface 485 = .ok (.if_icmp .ne 63, 3) := by decide +kernel
theorem dL_isSurface_488 : decode cL_isSurface 488 = .ok (.aload_n 0, 1) := by decide +kernel
theorem dL_isSurface_489 : decode cL_isSurface 489 = .ok (.iconst 3, 1) := by decide +kernel
theorem dL_isSurface_490 : decode cL_isSurface 490 = .ok (.invokestatic 171, 3) := by decide +kernel
theorem dL_isSurface_493 : decode cL_isSurface 493 = .ok (.iload 7, 2) := by decide +kernel
theorem dL_isSurface_495 : decode cL_isSurface 495 = .ok (.if_icmp .ne 53, 3) := by decide +kernel
theorem dL_isSurface_498 : decode cL_isSurface 498 = .ok (.aload_n 0, 1) := by decide +kernel
theorem dL_isSurface_499 : decode cL_isSurface 499 = .ok (.iconst 4, 1) := by decide +kernel
theorem dL_isSurface_500 : decode cL_isSurface 500 = .ok (.invokestatic 171, 3) := by decide +kernel
theorem dL_isSurface_503 : decode cL_isSurface 503 = .ok (.iload 10, 2) := by decide +kernel
theorem dL_isSurface_505 : decode cL_isSurface 505 = .ok (.if_icmp .ne 43, 3) := by decide +kernel
theorem dL_isSurface_508 : decode cL_isSurface 508 = .ok (.aload_n 0, 1) := by decide +kernel
theorem dL_isSurface_509 : decode cL_isSurface 509 = .ok (.invokestatic 174, 3) := by decide +kernel
theorem dL_isSurface_512 : decode cL_isSurface 512 = .ok (.iload 6, 2) := by decide +kernel
theorem dL_isSurface_514 : decode cL_isSurface 514 = .ok (.iconst 1, 1) := by decide +kernel
theorem dL_isSurface_515 : decode cL_isSurface 515 = .ok (.if_icmp .le 9, 3) := by decide +kernel
theorem dL_isSurface_518 : decode cL_isSurface 518 = .ok (.sipush (-7300), 3) := by decide +kernel
theorem dL_isSurface_521 : decode cL_isSurface 521 = .ok (.goto 11, 3) := by decide +kernel
theorem dL_isSurface_524 : decode cL_isSurface 524 = .ok (.iload_n 1, 1) := by decide +kernel
theorem dL_isSurface_525 : decode cL_isSurface 525 = .ok (.iload 5, 2) := by decide +kernel
theorem dL_isSurface_527 : decode cL_isSurface 527 = .ok (.isub, 1) := by decide +kernel
theorem dL_isSurface_528 : decode cL_isSurface 528 = .ok (.iconst 2, 1) := by decide +kernel
theorem dL_isSurface_529 : decode cL_isSurface 529 = .ok (.idiv, 1) := by decide +kernel
theorem dL_isSurface_530 : decode cL_isSurface 530 = .ok (.iconst 1, 1) := by decide +kernel
theorem dL_isSurface_531 : decode cL_isSurface 531 = .ok (.iadd, 1) := by decide +kernel
theorem dL_isSurface_532 : decode cL_isSurface 532 = .ok (.if_icmp .ne 16, 3) := by decide +kernel
theorem dL_isSurface_535 : decode cL_isSurface 535 = .ok (.aload_n 0, 1) := by decide +kernel
theorem dL_isSurface_536 : decode cL_isSurface 536 = .ok (.invokevirtual 177, 3) := by decide +kernel
theorem dL_isSurface_539 : decode cL_isSurface 539 = .ok (.iload_n 1, 1) := by decide +kernel
theorem dL_isSurface_540 : decode cL_isSurface 540 = .ok (.aload_n 2, 1) := by decide +kernel
theorem dL_isSurface_541 : decode cL_isSurface 541 = .ok (.aload_n 3, 1) := by decide +kernel
theorem dL_isSurface_542 : decode cL_isSurface 542 = .ok (.invokestatic 146, 3) := by decide +kernel
theorem dL_isSurface_545 : decode cL_isSurface 545 = .ok (.if_icmp .eq 5, 3) := by decide +kernel
theorem dL_isSurface_548 : decode cL_isSurface 548 = .ok (.iconst 0, 1) := by decide +kernel
theorem dL_isSurface_549 : decode cL_isSurface 549 = .ok (.ireturn, 1) := by decide +kernel
theorem dL_isSurface_550 : decode cL_isSurface 550 = .ok (.iload 4, 2) := by decide +kernel
