set_option maxRecDepth 20000 in
theorem ggL_law_X6_shear : GoodIn wsL_law wsX6_shear := goodIn_r _ [251, 23, 252, 253, 254, 22, 255, 61, 57, 54, 223, 224, 225, 226, 53, 173, 2, 174, 227, 228, 229, 230, 129, 130, 219, 220, 221, 222, 55, 56, 256, 257, 258, 259, 60, 260, 261, 262, 263, 264, 265, 266, 267, 268, 269, 270, 271, 272, 273, 274, 275, 58, 59, 276, 277, 278, 279, 709, 710, 711, 712, 713, 718, 719, 720, 721, 722, 723, 724, 725, 726] (by decide +kernel) (by decide +kernel)
set_option maxRecDepth 20000 in
theorem gL_law_X6_shear : GoodIn wsL_law (wsV RL 233 RX6 yX6_shear wsX6_shear) := goodIn_app (goodIn_of _ (by decide +kernel)) ggL_law_X6_shear
set_option maxRecDepth 20000 in
theorem ggL_law_X6_turn : GoodIn wsL_law wsX6_turn := goodIn_r _ [283, 23, 284, 285, 286, 22, 287, 61, 57, 53, 54, 288, 289, 290, 291, 55, 173, 2, 174, 129, 130, 227, 228, 229, 230, 219, 220, 221, 222, 56, 223, 224, 225, 226, 256, 257, 258, 259, 60, 260, 261, 262, 263, 264, 265, 266, 267, 268, 269, 270, 271, 272, 273, 274, 275, 58, 59, 276, 277, 278, 279, 709, 710, 711, 712, 713, 718, 719, 720, 721, 722, 723, 724, 725, 726] (by decide +kernel) (by decide +kernel)
set_option maxRecDepth 20000 in
theorem gL_law_X6_turn : GoodIn wsL_law (wsV RL 236 RX6 yX6_turn wsX6_turn) := goodIn_app (goodIn_of _ (by decide +kernel)) ggL_law_X6_turn
set_option maxRecDepth 20000 in
theorem ggL_law_L_codeOf : GoodIn wsL_law wsL_codeOf := goodIn_r _ [294, 3, 295, 296, 297, 80, 298, 299, 300, 301] (by decide +kernel) (by decide +kernel)
set_option maxRecDepth 20000 in
theorem gL_law_L_codeOf : GoodIn wsL_law (va_wsS RL 146 yL_codeOf wsL_codeOf) := goodIn_app (goodIn_of _ (by decide +kernel)) ggL_law_L_codeOf
