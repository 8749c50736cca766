set_option maxRecDepth 20000 in
theorem gk_call_1 : GoodIn wsL_law (.code yL_call cL_call 5 (some .int) :: wsL_call_r1) := goodIn_r _ [264, 265, 266, 71, 267, 268, 269, 270, 2, 271, 22, 272, 273, 274, 275, 21, 276, 277, 75, 76, 77, 78, 278, 279, 280] (by decide +kernel) (by decide +kernel)
set_option maxRecDepth 20000 in
theorem gk_call_2 : GoodIn wsL_law wsL_call_r2 := goodIn_r _ [102, 281, 282, 283, 284, 285, 107, 108, 286, 287, 288, 289, 290, 291, 292, 293, 294, 295, 57, 296, 297, 298, 85, 86] (by decide +kernel) (by decide +kernel)
set_option maxRecDepth 20000 in
theorem gk_call_3 : GoodIn wsL_law wsL_call_r3 := goodIn_r _ [87, 299, 300, 301, 302, 303, 304, 305, 18, 14, 306, 307, 308, 309, 310, 311, 312, 313, 314, 315, 316, 317, 318, 319] (by decide +kernel) (by decide +kernel)
set_option maxRecDepth 20000 in
theorem gk_call_4 : GoodIn wsL_law wsL_call_r4 := goodIn_r _ [17, 320, 321, 51, 322, 323, 324, 325, 326, 327, 328, 13, 329, 35, 330, 331, 332, 333, 36, 37, 38, 39, 40, 41] (by decide +kernel) (by decide +kernel)
set_option maxRecDepth 20000 in
theorem gk_call_5 : GoodIn wsL_law wsL_call_r5 := goodIn_r _ [42, 43, 143, 170, 175, 44, 45, 334, 335, 336, 337, 338, 339, 340, 113, 341, 342, 343, 344, 345, 346, 347, 348, 349] (by decide +kernel) (by decide +kernel)
set_option maxRecDepth 20000 in
theorem gk_call_6 : GoodIn wsL_law wsL_call_r6 := goodIn_r _ [350, 351, 352, 353, 354, 355, 356, 139, 140, 141, 142, 357, 358, 359, 360, 361, 362, 363, 364, 365, 366, 367, 368, 176] (by decide +kernel) (by decide +kernel)
set_option maxRecDepth 20000 in
theorem gk_call_7 : GoodIn wsL_law wsL_call_r7 := goodIn_r _ [177, 178, 369, 370, 371, 195, 372, 373, 374, 375, 200, 201, 26, 202, 203, 204, 376, 213, 214, 215, 216, 377, 378, 379] (by decide +kernel) (by decide +kernel)
set_option maxRecDepth 20000 in
theorem gk_call_8 : GoodIn wsL_law wsL_call_r8 := goodIn_r _ [380, 381, 382, 383, 384, 171, 172, 173, 174, 385, 386, 387, 388, 217, 218, 219, 25, 220, 62, 61, 221, 222, 223, 224] (by decide +kernel) (by decide +kernel)
set_option maxRecDepth 20000 in
theorem gk_call_9 : GoodIn wsL_law wsL_call_r9 := goodIn_r _ [225, 167, 168, 169, 226, 163, 164, 165, 144, 145, 389, 390, 391, 392, 393, 394, 395, 396, 397, 398, 399, 400, 401, 210] (by decide +kernel) (by decide +kernel)
set_option maxRecDepth 20000 in
theorem gk_call_10 : GoodIn wsL_law wsL_call_r10 := goodIn_r _ [211, 212, 402, 136, 137, 138, 403, 404, 405, 406, 407, 408, 409, 410, 411, 412, 413, 414, 415, 416, 417, 418, 419, 420] (by decide +kernel) (by decide +kernel)
set_option maxRecDepth 20000 in
theorem gk_call_11 : GoodIn wsL_law wsL_call_r11 := goodIn_r _ [421, 422, 423, 424, 425, 426, 427, 428, 429, 430, 431, 432, 433, 434, 435, 436, 258, 259, 260, 261, 437, 438, 439, 440] (by decide +kernel) (by decide +kernel)
set_option maxRecDepth 20000 in
theorem gk_call_12 : GoodIn wsL_law wsL_call_r12 := goodIn_r _ [441, 442, 443, 444, 445, 446, 447, 448, 449, 450, 451, 114, 115] (by decide +kernel) (by decide +kernel)
set_option maxRecDepth 20000 in
theorem gk_call_wsX50 : GoodIn wsL_law wsX50 := goodIn_r _ [553, 554, 555, 556, 557] (by decide +kernel) (by decide +kernel)
set_option maxRecDepth 20000 in
theorem gk_call_wsX30 : GoodIn wsL_law wsX30 := goodIn_r _ [579, 580] (by decide +kernel) (by decide +kernel)
set_option maxRecDepth 20000 in
theorem gk_call_wsX00 : GoodIn wsL_law wsX00 := goodIn_r _ [575, 576, 577, 578] (by decide +kernel) (by decide +kernel)
set_option maxRecDepth 20000 in
theorem gk_call_wsX20 : GoodIn wsL_law wsX20 := goodIn_r _ [558, 559, 560, 561, 562, 563, 564, 565, 566, 567, 568, 569, 570, 571, 572, 573, 574] (by decide +kernel) (by decide +kernel)
set_option maxRecDepth 20000 in
theorem gk_call_wsX40 : GoodIn wsL_law wsX40 := goodIn_r _ [581, 582, 583, 584] (by decide +kernel) (by decide +kernel)
set_option maxRecDepth 20000 in
theorem ggL_law_L_call : GoodIn wsL_law wsL_call := goodIn_ca (goodIn_ca (goodIn_ca (goodIn_ca (goodIn_ca (goodIn_ca (goodIn_ca (goodIn_ca (goodIn_ca gk_call_1 (goodIn_app gk_call_2 (goodIn_app gk_call_3 (goodIn_app gk_call_4 (goodIn_app gk_call_5 (goodIn_app gk_call_6 (goodIn_app gk_call_7 (goodIn_app gk_call_8 (goodIn_app gk_call_9 (goodIn_app gk_call_10 (goodIn_app gk_call_11 gk_call_12))))))))))) gk_call_wsX50) gk_call_wsX30) gk_call_wsX00) gk_call_wsX20) gk_call_wsX40) (goodIn_sub (fun _ h => List.mem_append_left _ (List.mem_append_left _ (List.mem_append_right _ h))) (by decide +kernel))) (goodIn_sub (fun _ h => List.mem_append_right _ h) (by decide +kernel))) (goodIn_sub (fun _ h => List.mem_append_left _ (List.mem_append_right _ h)) (by decide +kernel))
set_option maxRecDepth 20000 in
theorem gL_law_L_call : GoodIn wsL_law (va_wsS RL 189 yL_call wsL_call) := goodIn_app (goodIn_of _ (by decide +kernel)) ggL_law_L_call
set_option maxRecDepth 20000 in
theorem ggL_law_L_undo : GoodIn wsL_law wsL_undo := goodIn_ca (goodIn_r _ [454, 281, 455, 456, 457, 2, 458, 286, 287, 18, 118, 14, 459, 460, 461, 17, 462, 321, 51, 326, 327, 328, 13, 329, 35, 330, 331, 332, 333, 36, 37, 38, 39, 40, 41, 42, 43, 143, 170, 175, 44, 45, 334, 335, 336, 553, 554, 555, 556, 557, 575, 576, 577, 578, 558, 559, 560, 561, 562, 563, 564, 565, 566, 567, 568, 569, 570, 571, 572, 573, 574] (by decide +kernel) (by decide +kernel)) (goodIn_sub (fun _ h => List.mem_append_right _ h) (by decide +kernel))
set_option maxRecDepth 20000 in
theorem gL_law_L_undo : GoodIn wsL_law (va_wsS RL 193 yL_undo wsL_undo) := goodIn_app (goodIn_of _ (by decide +kernel)) ggL_law_L_undo
set_option maxRecDepth 20000 in
theorem ggL_law_L_due : GoodIn wsL_law wsL_due := goodIn_r _ [465, 75, 76, 71, 77, 78, 296, 297, 298, 466, 467, 468, 88, 89, 90, 85, 86, 87, 79, 80, 81, 82, 83, 84, 91, 92, 93, 469, 470, 471, 472, 473, 474, 475, 476, 477, 478, 479, 480] (by decide +kernel) (by decide +kernel)
set_option maxRecDepth 20000 in
theorem gL_law_L_due : GoodIn wsL_law (va_wsS RL 195 yL_due wsL_due) := goodIn_app (goodIn_of _ (by decide +kernel)) ggL_law_L_due
set_option maxRecDepth 20000 in
theorem ggL_law_L_lays : GoodIn wsL_law wsL_lays := goodIn_r _ [483, 82, 83, 71, 84, 85, 86, 87] (by decide +kernel) (by decide +kernel)
set_option maxRecDepth 20000 in
theorem gL_law_L_lays : GoodIn wsL_law (va_wsS RL 199 yL_lays wsL_lays) := goodIn_app (goodIn_of _ (by decide +kernel)) ggL_law_L_lays
