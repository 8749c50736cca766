set_option maxRecDepth 20000 in
theorem ggL_law_X5_init : GoodIn wsL_law wsX5_init := goodIn_r _ [7, 8, 9, 10, 11, 12, 13, 14, 15, 16, 17, 18, 19, 20, 21, 22, 23, 24, 25, 26, 27, 28, 29, 30, 31, 32, 33, 34, 3, 35, 36, 37, 38, 39, 40, 41, 42, 43, 44, 45, 46, 47, 48, 49, 50, 51, 52, 53, 54, 55, 56, 57, 58, 59, 60, 61, 62, 63, 64, 65, 66, 67, 68, 558, 559, 560, 561, 562, 563, 564, 565, 566, 567, 568, 569, 570, 571, 572, 573, 574, 553, 554, 555, 556, 557, 575, 576, 577, 578, 579, 580, 581, 582, 583, 584, 585] (by decide +kernel) (by decide +kernel)
set_option maxRecDepth 20000 in
theorem gL_law_X5_init : GoodIn wsL_law (wsX5_init) := ggL_law_X5_init
set_option maxRecDepth 20000 in
theorem ggL_law_L_cell : GoodIn wsL_law wsL_cell := goodIn_r _ [72, 73, 74] (by decide +kernel) (by decide +kernel)
set_option maxRecDepth 20000 in
theorem gL_law_L_cell : GoodIn wsL_law (va_wsS RL 180 yL_cell wsL_cell) := goodIn_app (goodIn_of _ (by decide +kernel)) ggL_law_L_cell
set_option maxRecDepth 20000 in
theorem ggL_law_L_low : GoodIn wsL_law wsL_low := goodIn_r _ [77, 78] (by decide +kernel) (by decide +kernel)
set_option maxRecDepth 20000 in
theorem gL_law_L_low : GoodIn wsL_law (va_wsS RL 94 yL_low wsL_low) := goodIn_app (goodIn_of _ (by decide +kernel)) ggL_law_L_low
set_option maxRecDepth 20000 in
theorem ggL_law_L_whyNot : GoodIn wsL_law wsL_whyNot := goodIn_r _ [81, 82, 83, 71, 84, 85, 86, 87, 88, 89, 90, 91, 92, 93] (by decide +kernel) (by decide +kernel)
set_option maxRecDepth 20000 in
theorem gL_law_L_whyNot : GoodIn wsL_law (va_wsS RL 128 yL_whyNot wsL_whyNot) := goodIn_app (goodIn_of _ (by decide +kernel)) ggL_law_L_whyNot
set_option maxRecDepth 20000 in
theorem gk_told_1 : GoodIn wsL_law (.code yL_told cL_told 4 (some .long) :: wsL_told_r1) := goodIn_r _ [96, 97, 98, 99, 100, 71, 101, 102, 103, 104, 105, 2, 106, 107, 108, 109, 110, 111, 112, 14, 113, 30, 114, 115, 116] (by decide +kernel) (by decide +kernel)
set_option maxRecDepth 20000 in
theorem gk_told_2 : GoodIn wsL_law wsL_told_r2 := goodIn_r _ [117, 18, 118, 119, 120, 121, 13, 122, 36, 123, 124, 125, 126, 127, 128, 129, 130, 131, 132, 29, 133, 68, 134, 135] (by decide +kernel) (by decide +kernel)
set_option maxRecDepth 20000 in
theorem gk_told_3 : GoodIn wsL_law wsL_told_r3 := goodIn_r _ [136, 137, 138, 139, 140, 141, 142, 143, 144, 145, 146, 147, 148, 149, 150, 151, 152, 153, 154, 155, 156, 157, 158, 159] (by decide +kernel) (by decide +kernel)
set_option maxRecDepth 20000 in
theorem gk_told_4 : GoodIn wsL_law wsL_told_r4 := goodIn_r _ [160, 161, 162, 163, 164, 165, 166, 167, 168, 169, 170, 35, 171, 172, 173, 174, 175, 44, 176, 177, 178, 179, 180, 181] (by decide +kernel) (by decide +kernel)
set_option maxRecDepth 20000 in
theorem gk_told_5 : GoodIn wsL_law wsL_told_r5 := goodIn_r _ [182, 183, 37, 184, 185, 186, 187, 42, 188, 189, 190, 191, 43, 192, 193, 194, 195, 196, 197, 198, 199, 200, 201, 202] (by decide +kernel) (by decide +kernel)
set_option maxRecDepth 20000 in
theorem gk_told_6 : GoodIn wsL_law wsL_told_r6 := goodIn_r _ [203, 204, 205, 206, 207, 208, 26, 209, 210, 211, 212, 38, 39, 40, 41, 213, 214, 215, 216, 217, 218, 219, 25, 220] (by decide +kernel) (by decide +kernel)
set_option maxRecDepth 20000 in
theorem gk_told_7 : GoodIn wsL_law wsL_told_r7 := goodIn_r _ [62, 61, 221, 222, 223, 224, 225, 226, 227, 228, 229, 230, 63, 231, 232, 233, 234, 235, 236, 237, 238, 239, 64, 240] (by decide +kernel) (by decide +kernel)
set_option maxRecDepth 20000 in
theorem gk_told_8 : GoodIn wsL_law wsL_told_r8 := goodIn_r _ [241, 242, 243, 244, 245, 246, 247, 248, 249, 250, 251, 252, 253, 254, 255, 256, 257, 258, 259, 260, 261, 45] (by decide +kernel) (by decide +kernel)
set_option maxRecDepth 20000 in
theorem gk_told_wsX50 : GoodIn wsL_law wsX50 := goodIn_r _ [553, 554, 555, 556, 557] (by decide +kernel) (by decide +kernel)
set_option maxRecDepth 20000 in
theorem gk_told_wsX20 : GoodIn wsL_law wsX20 := goodIn_r _ [558, 559, 560, 561, 562, 563, 564, 565, 566, 567, 568, 569, 570, 571, 572, 573, 574] (by decide +kernel) (by decide +kernel)
set_option maxRecDepth 20000 in
theorem gk_told_wsX00 : GoodIn wsL_law wsX00 := goodIn_r _ [575, 576, 577, 578] (by decide +kernel) (by decide +kernel)
set_option maxRecDepth 20000 in
theorem gk_told_wsX10 : GoodIn wsL_law wsX10 := goodIn_r _ [585] (by decide +kernel) (by decide +kernel)
set_option maxRecDepth 20000 in
theorem gk_told_wsX40 : GoodIn wsL_law wsX40 := goodIn_r _ [581, 582, 583, 584] (by decide +kernel) (by decide +kernel)
set_option maxRecDepth 20000 in
theorem ggL_law_L_told : GoodIn wsL_law wsL_told := goodIn_ca (goodIn_ca (goodIn_ca (goodIn_ca (goodIn_ca (goodIn_ca (goodIn_ca (goodIn_ca gk_told_1 (goodIn_app gk_told_2 (goodIn_app gk_told_3 (goodIn_app gk_told_4 (goodIn_app gk_told_5 (goodIn_app gk_told_6 (goodIn_app gk_told_7 gk_told_8))))))) gk_told_wsX50) gk_told_wsX20) gk_told_wsX00) gk_told_wsX10) gk_told_wsX40) (goodIn_sub (fun _ h => List.mem_append_left _ (List.mem_append_left _ (List.mem_append_right _ h))) (by decide +kernel))) (goodIn_sub (fun _ h => List.mem_append_left _ (List.mem_append_right _ h)) (by decide +kernel))
set_option maxRecDepth 20000 in
theorem gL_law_L_told : GoodIn wsL_law (va_wsS RL 185 yL_told wsL_told) := goodIn_app (goodIn_of _ (by decide +kernel)) ggL_law_L_told
