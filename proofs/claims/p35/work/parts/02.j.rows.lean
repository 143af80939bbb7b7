set_option maxRecDepth 20000 in
theorem ggL_law_X6_init : GoodIn wsL_law wsX6_init := goodIn_r _ [8, 9, 10, 11, 12, 13, 14, 15, 16, 17, 18, 19, 20, 21, 22, 23, 24, 25, 26, 27, 28, 29, 30, 31, 32, 33, 34, 35, 36, 37, 38, 39, 40, 41, 42, 43, 44, 45, 46, 47, 3, 48, 49, 50, 51, 52, 53, 54, 55, 56, 57, 58, 59, 60, 61, 62, 63, 64, 65, 66, 67, 68, 69, 70, 71, 72, 73, 74, 75, 76, 77, 714, 715, 709, 710, 711, 712, 713, 716, 717, 718, 719, 720, 721, 722, 723, 724, 725, 726, 727, 728, 729, 730, 731, 732, 733, 734, 735] (by decide +kernel) (by decide +kernel)
set_option maxRecDepth 20000 in
theorem gL_law_X6_init : GoodIn wsL_law (wsX6_init) := ggL_law_X6_init
set_option maxRecDepth 20000 in
theorem ggL_law_L_cell : GoodIn wsL_law wsL_cell := goodIn_r _ [81, 82] (by decide +kernel) (by decide +kernel)
set_option maxRecDepth 20000 in
theorem gL_law_L_cell : GoodIn wsL_law (va_wsS RL 208 yL_cell wsL_cell) := goodIn_app (goodIn_of _ (by decide +kernel)) ggL_law_L_cell
set_option maxRecDepth 20000 in
theorem ggL_law_L_low : GoodIn wsL_law wsL_low := goodIn_r _ [85] (by decide +kernel) (by decide +kernel)
set_option maxRecDepth 20000 in
theorem gL_law_L_low : GoodIn wsL_law (va_wsS RL 202 yL_low wsL_low) := goodIn_app (goodIn_of _ (by decide +kernel)) ggL_law_L_low
set_option maxRecDepth 20000 in
theorem ggL_law_L_block : GoodIn wsL_law wsL_block := goodIn_ca (goodIn_r _ [88, 89, 90, 91, 92, 2, 93, 15, 94, 95, 96, 97, 98, 99, 100, 101, 102, 103, 104, 14, 105, 39, 106, 107, 108, 109, 110, 709, 710, 711, 712, 713, 714, 715] (by decide +kernel) (by decide +kernel)) (goodIn_sub (fun _ h => List.mem_append_left _ (List.mem_append_left _ (List.mem_append_right _ h))) (by decide +kernel))
set_option maxRecDepth 20000 in
theorem gL_law_L_block : GoodIn wsL_law (va_wsS RL 212 yL_block wsL_block) := goodIn_app (goodIn_of _ (by decide +kernel)) ggL_law_L_block
set_option maxRecDepth 20000 in
theorem ggL_law_L_lamp : GoodIn wsL_law wsL_lamp := goodIn_ca (goodIn_ca (goodIn_r _ [113, 89, 114, 115, 116, 117, 2, 118, 119, 120, 19, 94, 95, 96, 97, 98, 99, 100, 101, 121, 122, 123, 18, 124, 49, 125, 126, 127, 128, 48, 129, 130, 709, 710, 711, 712, 713, 716, 717] (by decide +kernel) (by decide +kernel)) (goodIn_sub (fun _ h => List.mem_append_left _ (List.mem_append_right _ h)) (by decide +kernel))) (goodIn_sub (fun _ h => List.mem_append_left _ (List.mem_append_left _ (List.mem_append_right _ h))) (by decide +kernel))
set_option maxRecDepth 20000 in
theorem gL_law_L_lamp : GoodIn wsL_law (va_wsS RL 217 yL_lamp wsL_lamp) := goodIn_app (goodIn_of _ (by decide +kernel)) ggL_law_L_lamp
set_option maxRecDepth 20000 in
theorem ggL_law_L_interval : GoodIn wsL_law wsL_interval := goodIn_ca (goodIn_ca (goodIn_r _ [133, 134, 114, 135, 136, 137, 2, 138, 119, 120, 31, 139, 140, 141, 142, 143, 144, 145, 146, 30, 147, 77, 148, 149, 150, 151, 72, 73, 74, 129, 130, 709, 710, 711, 712, 713, 730, 731, 732, 733, 734] (by decide +kernel) (by decide +kernel)) (goodIn_sub (fun _ h => List.mem_append_left _ (List.mem_append_right _ h)) (by decide +kernel))) (goodIn_sub (fun _ h => List.mem_append_right _ h) (by decide +kernel))
set_option maxRecDepth 20000 in
theorem gL_law_L_interval : GoodIn wsL_law (va_wsS RL 219 yL_interval wsL_interval) := goodIn_app (goodIn_of _ (by decide +kernel)) ggL_law_L_interval
set_option maxRecDepth 20000 in
theorem ggL_law_L_swap : GoodIn wsL_law wsL_swap := goodIn_ca (goodIn_r _ [154, 89, 155, 156, 157, 2, 158, 31, 159, 160, 161, 30, 162, 77, 163, 164, 165, 97, 98, 166, 167, 168, 169, 74, 170, 171, 172, 173, 174, 175, 129, 130, 709, 710, 711, 712, 713, 730, 731, 732, 733, 734] (by decide +kernel) (by decide +kernel)) (goodIn_sub (fun _ h => List.mem_append_left _ (List.mem_append_left _ (List.mem_append_right _ h))) (by decide +kernel))
set_option maxRecDepth 20000 in
theorem gL_law_L_swap : GoodIn wsL_law (va_wsS RL 221 yL_swap wsL_swap) := goodIn_app (goodIn_of _ (by decide +kernel)) ggL_law_L_swap
set_option maxRecDepth 20000 in
theorem ggL_law_L_induce : GoodIn wsL_law wsL_induce := goodIn_ca (goodIn_r _ [178, 114, 179, 180, 181, 2, 182, 119, 120, 31, 183, 184, 185, 30, 186, 73, 77, 74, 72, 173, 174, 187, 188, 189, 190, 129, 130, 191, 192, 193, 194, 195, 196, 172, 197, 198, 199, 200, 709, 710, 711, 712, 713, 730, 731, 732, 733, 734] (by decide +kernel) (by decide +kernel)) (goodIn_sub (fun _ h => List.mem_append_left _ (List.mem_append_right _ h)) (by decide +kernel))
set_option maxRecDepth 20000 in
theorem gL_law_L_induce : GoodIn wsL_law (va_wsS RL 223 yL_induce wsL_induce) := goodIn_app (goodIn_of _ (by decide +kernel)) ggL_law_L_induce
set_option maxRecDepth 20000 in
theorem ggL_law_L_puts : GoodIn wsL_law wsL_puts := goodIn_r _ [203] (by decide +kernel) (by decide +kernel)
set_option maxRecDepth 20000 in
theorem gL_law_L_puts : GoodIn wsL_law (va_wsS RL 225 yL_puts wsL_puts) := goodIn_app (goodIn_of _ (by decide +kernel)) ggL_law_L_puts
set_option maxRecDepth 20000 in
theorem ggL_law_L_surface : GoodIn wsL_law wsL_surface := goodIn_ca (goodIn_r _ [206, 134, 207, 208, 209, 2, 210, 23, 139, 140, 141, 142, 143, 211, 212, 213, 22, 214, 61, 215, 216, 217, 218, 53, 54, 129, 130, 219, 220, 221, 222, 55, 56, 223, 224, 225, 226, 173, 174, 227, 228, 229, 230, 709, 710, 711, 712, 713, 718, 719, 720, 721, 722, 723, 724, 725, 726] (by decide +kernel) (by decide +kernel)) (goodIn_sub (fun _ h => List.mem_append_right _ h) (by decide +kernel))
set_option maxRecDepth 20000 in
theorem gL_law_L_surface : GoodIn wsL_law (va_wsS RL 229 yL_surface wsL_surface) := goodIn_app (goodIn_of _ (by decide +kernel)) ggL_law_L_surface
set_option maxRecDepth 20000 in
theorem ggL_law_L_glue : GoodIn wsL_law wsL_glue := goodIn_ca (goodIn_r _ [233, 89, 234, 235, 236, 2, 237, 23, 211, 212, 213, 22, 214, 61, 163, 164, 165, 97, 98, 238, 239, 240, 241, 54, 53, 170, 171, 172, 173, 174, 175, 129, 130, 219, 220, 221, 222, 55, 56, 223, 224, 225, 226, 227, 228, 229, 230, 709, 710, 711, 712, 713, 718, 719, 720, 721, 722, 723, 724, 725, 726] (by decide +kernel) (by decide +kernel)) (goodIn_sub (fun _ h => List.mem_append_left _ (List.mem_append_left _ (List.mem_append_right _ h))) (by decide +kernel))
set_option maxRecDepth 20000 in
theorem gL_law_L_glue : GoodIn wsL_law (va_wsS RL 231 yL_glue wsL_glue) := goodIn_app (goodIn_of _ (by decide +kernel)) ggL_law_L_glue
set_option maxRecDepth 20000 in
theorem ggL_law_L_shears : GoodIn wsL_law wsL_shears := goodIn_r _ [244, 3] (by decide +kernel) (by decide +kernel)
set_option maxRecDepth 20000 in
theorem gL_law_L_shears : GoodIn wsL_law (va_wsS RL 154 yL_shears wsL_shears) := goodIn_app (goodIn_of _ (by decide +kernel)) ggL_law_L_shears
set_option maxRecDepth 20000 in
theorem ggL_law_L_turns : GoodIn wsL_law wsL_turns := goodIn_r _ [247, 3] (by decide +kernel) (by decide +kernel)
set_option maxRecDepth 20000 in
theorem gL_law_L_turns : GoodIn wsL_law (va_wsS RL 158 yL_turns wsL_turns) := goodIn_app (goodIn_of _ (by decide +kernel)) ggL_law_L_turns
