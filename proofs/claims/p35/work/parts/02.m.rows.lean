set_option maxRecDepth 20000 in
theorem ggL_law_L_isSight : GoodIn wsL_law wsL_isSight := goodIn_r _ [451, 305, 306, 80, 307, 452, 453, 454] (by decide +kernel) (by decide +kernel)
set_option maxRecDepth 20000 in
theorem gL_law_L_isSight : GoodIn wsL_law (va_wsS RL 126 yL_isSight wsL_isSight) := goodIn_app (goodIn_of _ (by decide +kernel)) ggL_law_L_isSight
set_option maxRecDepth 20000 in
theorem ggL_law_L_sees : GoodIn wsL_law wsL_sees := goodIn_ca (goodIn_r _ [457, 89, 458, 459, 460, 2, 461, 15, 94, 95, 96, 97, 98, 99, 100, 101, 462, 463, 18, 464, 465, 466, 467, 468, 469, 470, 471, 472, 103, 104, 14, 105, 39, 473, 474, 475, 476, 477, 478, 709, 710, 711, 712, 713, 714, 715] (by decide +kernel) (by decide +kernel)) (goodIn_sub (fun _ h => List.mem_append_left _ (List.mem_append_left _ (List.mem_append_right _ h))) (by decide +kernel))
set_option maxRecDepth 20000 in
theorem gL_law_L_sees : GoodIn wsL_law (va_wsS RL 244 yL_sees wsL_sees) := goodIn_app (goodIn_of _ (by decide +kernel)) ggL_law_L_sees
set_option maxRecDepth 20000 in
theorem ggL_law_L_seesAnew : GoodIn wsL_law wsL_seesAnew := goodIn_ca (goodIn_r _ [481, 89, 482, 483, 484, 2, 485, 15, 94, 95, 96, 97, 98, 99, 100, 101, 486, 487, 18, 488, 476, 477, 467, 478, 472, 103, 104, 14, 105, 39, 489, 490, 262, 491, 709, 710, 711, 712, 713, 714, 715] (by decide +kernel) (by decide +kernel)) (goodIn_sub (fun _ h => List.mem_append_left _ (List.mem_append_left _ (List.mem_append_right _ h))) (by decide +kernel))
set_option maxRecDepth 20000 in
theorem gL_law_L_seesAnew : GoodIn wsL_law (va_wsS RL 247 yL_seesAnew wsL_seesAnew) := goodIn_app (goodIn_of _ (by decide +kernel)) ggL_law_L_seesAnew
set_option maxRecDepth 20000 in
theorem ggL_law_L_areLit : GoodIn wsL_law wsL_areLit := goodIn_r _ [494, 305, 306, 80, 307, 449, 450, 451, 452, 453, 454, 495, 496, 497, 2, 498, 19, 15, 499, 500, 501, 18, 502, 503, 504, 505, 506, 49, 48, 173, 174, 507, 463, 464, 465, 466, 467, 468, 469, 470, 471, 472, 103, 104, 14, 105, 39, 100, 101, 473, 474, 475, 476, 477, 478, 508, 509, 510, 511, 512, 513, 514, 515, 377, 378, 379, 380, 381, 382, 383, 709, 710, 711, 712, 713, 716, 717, 714, 715] (by decide +kernel) (by decide +kernel)
set_option maxRecDepth 20000 in
theorem gL_law_L_areLit : GoodIn wsL_law (va_wsS RL 249 yL_areLit wsL_areLit) := goodIn_app (goodIn_of _ (by decide +kernel)) ggL_law_L_areLit
